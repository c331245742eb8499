/-! class and reference: root -/
theorem sq_suc (R : Nat) : (R + 1) * (R + 1) = R * R + 2 * R + 1 := by
  rw [Nat.add_mul, Nat.mul_add, Nat.mul_one, Nat.one_mul]
  omega
theorem sq_odd (R : Nat) : (R * 2 + 1) * (R * 2 + 1) = 4 * (R * R) + 4 * R + 1 := by
  rw [sq_suc, Nat.mul_mul_mul_comm]
  omega
theorem sq_even (R : Nat) : (R * 2) * (R * 2) = 4 * (R * R) := by
  rw [Nat.mul_mul_mul_comm, Nat.mul_comm]
theorem sq_add (Q P : Nat) : (Q + P) * (Q + P) = Q * Q + (Q * 2 + P) * P := by
  rw [Nat.add_mul, Nat.mul_add, Nat.mul_add, Nat.add_mul, Nat.mul_comm P Q, Nat.mul_right_comm Q 2 P]
  omega
theorem sq_le {a b : Nat} (h : a * a < b * b) : a < b := by
  rcases Nat.lt_or_ge a b with q | q
  · exact q
  · have := Nat.mul_le_mul q q
    omega
/-- roots of N and of N * 4^j -/
theorem root_shift {N j R S : Nat} (h1 : R * R ≤ N) (h2 : N < (R + 1) * (R + 1)) (h3 : S * S ≤ N * (2 ^ j * 2 ^ j)) (h4 : N * (2 ^ j * 2 ^ j) < (S + 1) * (S + 1)) : ∃ t, t < 2 ^ j ∧ S = R * 2 ^ j + t ∧ ((t = 0 ∧ S * S = N * (2 ^ j * 2 ^ j)) ↔ R * R = N) := by
  have hp := p2pos j
  generalize 2 ^ j = P at *
  have a1 : R * P * (R * P) ≤ N * (P * P) := by rw [Nat.mul_mul_mul_comm]; exact Nat.mul_le_mul_right _ h1
  have a2 : N * (P * P) < (R + 1) * P * ((R + 1) * P) := by
    rw [Nat.mul_mul_mul_comm]
    exact (Nat.mul_lt_mul_right (Nat.mul_pos hp hp)).mpr h2
  have b1 : R * P < S + 1 := sq_le (by omega)
  have b2 : S < (R + 1) * P := sq_le (by omega)
  have b3 : (R + 1) * P = R * P + P := by rw [Nat.add_mul, Nat.one_mul]
  refine ⟨S - R * P, by omega, by omega, ⟨?_, ?_⟩⟩
  · rintro ⟨c1, c2⟩
    have c3 : S = R * P := by omega
    rw [c3, Nat.mul_mul_mul_comm] at c2
    exact Nat.eq_of_mul_eq_mul_right (Nat.mul_pos hp hp) c2
  · intro c
    have c2 : R * P * (R * P) = N * (P * P) := by rw [Nat.mul_mul_mul_comm, c]
    have c3 : S < R * P + 1 := by
      apply sq_le
      rw [sq_suc]
      omega
    have c4 : S = R * P := by omega
    exact ⟨by omega, by rw [c4, c2]⟩
theorem zrd_root {N j R S : Nat} {G : Int} (h1 : R * R ≤ N) (h2 : N < (R + 1) * (R + 1)) (h3 : S * S ≤ N * (2 ^ j * 2 ^ j)) (h4 : N * (2 ^ j * 2 ^ j) < (S + 1) * (S + 1)) (hz : 54 ≤ zlen R) : zrd S (if S * S = N * (2 ^ j * 2 ^ j) then 0 else 1) (G - j) = zrd R (if R * R = N then 0 else 1) G := by
  obtain ⟨t, t1, t2, t3⟩ := root_shift h1 h2 h3 h4
  have hmo : (if S * S = N * (2 ^ j * 2 ^ j) then 0 else 1) < 2 := by split <;> decide
  generalize hm : (if S * S = N * (2 ^ j * 2 ^ j) then 0 else 1) = mo at hmo ⊢
  rw [t2, zrd_cut hz t1 hmo, show G - (j : Int) + (j : Int) = G by omega]
  have key : (t = 0 ∧ mo = 0) ↔ R * R = N := by
    rw [← t3]
    refine and_congr Iff.rfl ?_
    rw [← hm]
    by_cases c : S * S = N * (2 ^ j * 2 ^ j)
    · rw [if_pos c]; exact ⟨fun _ => c, fun _ => rfl⟩
    · rw [if_neg c]; exact ⟨fun q => absurd q (by decide), fun q => absurd q c⟩
  by_cases c : R * R = N
  · rw [if_pos c, if_pos (key.mpr c)]
  · rw [if_neg c, if_neg (fun q => c (key.mp q))]
theorem A_root116 {x3 x4 : Int32} {x7 x9 : Int64} {R q N : Nat} {G : Int} (h7 : x7.toInt = R) (h9 : x9.toInt = q) (hN : R * R + q = N) (hz : 54 ≤ zlen R) (hR : R < 144115188075855872) (hE : ((jshr (x3 - x4) 1) - 31).toInt = (G - 1) - 1074) (hE1 : -10000 < G) (hE2 : G < 10000) :
    f_A_rootOfFinite_116 x3 x4 x7 x9 = some (0 ||| lN (zrd R (if R * R = N then 0 else 1) G)) := by
  have hs : (jlshl x7 1).toInt = ((R * 2 : Nat) : Int) := by
    have e : x7.toInt * ((2 ^ 1 : Nat) : Int) = ((R * 2 : Nat) : Int) := by rw [h7]; exact (Int.natCast_mul _ _).symm
    exact (l_shl (n := 1) rfl (by decide) (by rw [e]; omega) (by rw [e]; omega)).trans e
  have hc : ∀ mo, mo < 2 → zrd (R * 2) mo (G - 1) = zrd R mo G := by
    intro mo hmo
    have h := zrd_cut (V := R) (t := 1) (R := 0) (mo := mo) (E := G - 1) hz (by decide) hmo
    rw [Nat.add_zero, Nat.pow_one, show G - 1 + ((1 : Nat) : Int) = G by omega] at h
    rw [h]
    congr 1
    by_cases c : mo = 0
    · rw [if_pos ⟨rfl, c⟩, c]
    · rw [if_neg (fun q => c q.2)]
      omega
  unfold f_A_rootOfFinite_116 f_A_rootOfFinite_137
  by_cases c : q = 0
  · have cN : R * R = N := by omega
    rw [if_pos (by rw [l_eq, h9, c]; rfl), if_pos cN, B_round' hs hE (by omega) (by omega), Option.bind_some, hc 0 (by decide)]
  · have cN : ¬ R * R = N := by omega
    have hzl : 55 ≤ zlen (R * 2) := by
      have hp : 0 < R := by
        rcases Nat.eq_zero_or_pos R with u | u
        · subst u; exact absurd hz (by decide)
        · exact u
      have := zlen_mul hp 1
      rw [Nat.pow_one] at this
      omega
    rw [if_neg (by rw [l_eq, h9]; show ¬ _ = (0 : Int); omega), if_neg cN, B_round' (l_or1 hs) hE (by omega) (by omega), Option.bind_some, zrd_odd hzl, hc 1 (by decide)]
theorem root_dig {sq j : Nat} : sq * 2 ^ 60 / 2 ^ (2 * j) = 4 * (sq * 2 ^ 60 / 2 ^ (2 * (j + 1))) + sq * 2 ^ 60 / 2 ^ (2 * j) % 4 := by
  have : sq * 2 ^ 60 / 2 ^ (2 * (j + 1)) = sq * 2 ^ 60 / 2 ^ (2 * j) / 4 := by
    rw [show 2 * (j + 1) = 2 * j + 2 by omega, Nat.pow_add, ← Nat.div_div_eq_div_mul]
  rw [this]
  omega
theorem root_lo {sq j : Nat} (h : j < 30) : sq * 2 ^ 60 / 2 ^ (2 * j) % 4 = 0 := by
  have e : sq * 2 ^ 60 = sq * 2 ^ (58 - 2 * j) * 4 * 2 ^ (2 * j) := by
    rw [Nat.mul_assoc, Nat.mul_assoc, show 4 * 2 ^ (2 * j) = 2 ^ (2 + 2 * j) by rw [Nat.pow_add], ← Nat.pow_add, show 58 - 2 * j + (2 + 2 * j) = 60 by omega]
  rw [e, Nat.mul_div_cancel _ (p2pos _), Nat.mul_mod_left]
theorem root_hi {sq j : Nat} : sq * 2 ^ 60 / 2 ^ (2 * (j + 30)) = sq / 2 ^ (2 * j) := by
  rw [show 2 * (j + 30) = 60 + 2 * j by omega, Nat.pow_add, ← Nat.div_div_eq_div_mul, Nat.mul_div_cancel _ (p2pos 60)]
theorem A_root72 {x3 x4 x11 : Int32} {x5 x7 s0 s1 : Int64} {R q dg : Nat} (h7 : x7.toInt = R) (hR : R < 144115188075855872) (hs0 : s0.toInt = ((q * 4 : Nat) : Int)) (hq : q ≤ 2 * R) (hs1 : s1.toInt = dg) (hd : dg < 4) :
    ∃ (y7 y9 : Int64) (R' q' : Nat), f_A_rootOfFinite_72 x3 x4 x5 x7 x11 s0 s1 = some (Sum.inl (y7, y9, x11 + (-1))) ∧ y7.toInt = R' ∧ y9.toInt = q' ∧ q' ≤ 2 * R' ∧ R' * R' + q' = 4 * (R * R + q) + dg ∧ R' ≤ 2 * R + 1 := by
  have e1 : (1 : Int64).toInt = 1 := rfl
  have ho : (s0 ||| s1).toInt = ((q * 4 + dg : Nat) : Int) := by
    rw [l_or 2 q dg (by rw [hs0, Nat.mul_comm]) hs1 hd, hs0, hs1]
    exact (Int.natCast_add _ _).symm
  have sh : ∀ (k : Nat) (s : Int32), s.toInt = (k : Int) → k ≤ 2 → (jlshl x7 s).toInt = ((R * 2 ^ k : Nat) : Int) := by
    intro k s h1 h2
    have e : x7.toInt * ((2 ^ k : Nat) : Int) = ((R * 2 ^ k : Nat) : Int) := by rw [h7]; exact (Int.natCast_mul _ _).symm
    have hb : R * 2 ^ k ≤ 144115188075855872 * 2 ^ 2 := Nat.mul_le_mul (by omega) (p2le h2)
    have hk : k < 64 := by omega
    generalize R * 2 ^ k = u at e hb ⊢
    exact (l_shl h1 hk (by rw [e]; omega) (by rw [e]; omega)).trans e
  have h2 : (jlshl x7 2).toInt = ((R * 4 : Nat) : Int) := sh 2 2 rfl (by decide)
  have h1 : (jlshl x7 1).toInt = ((R * 2 : Nat) : Int) := sh 1 1 rfl (by decide)
  have ht : (jlshl x7 2 ||| 1).toInt = ((R * 4 + 1 : Nat) : Int) := by
    rw [l_or 2 R 1 (by rw [h2, Nat.mul_comm]) rfl (by decide), h2, e1]
    omega
  have hr1 : (jlshl x7 1 ||| 1).toInt = ((R * 2 + 1 : Nat) : Int) := by
    rw [l_or 1 R 1 (by rw [h1, Nat.mul_comm]) rfl (by decide), h1, e1]
    omega
  unfold f_A_rootOfFinite_72 f_A_rootOfFinite_110
  by_cases c : q * 4 + dg < R * 4 + 1
  · rw [if_pos (by rw [l_lt, ho, ht]; omega)]
    refine ⟨_, _, R * 2, q * 4 + dg, rfl, h1, ho, by omega, ?_, by omega⟩
    rw [sq_even]
    omega
  · rw [if_neg (by rw [l_lt, ho, ht]; omega)]
    have hsb : ((s0 ||| s1) - (jlshl x7 2 ||| 1)).toInt = ((q * 4 + dg - (R * 4 + 1) : Nat) : Int) := by
      rw [l_sub, ho, ht] <;> (try rw [ho, ht]) <;> omega
    refine ⟨_, _, R * 2 + 1, q * 4 + dg - (R * 4 + 1), rfl, hr1, hsb, by omega, ?_, by omega⟩
    rw [sq_odd]
    omega
theorem A_root41 {x3 x4 : Int32} {x5 : Int64} {sq : Nat} {G : Int} (h5 : x5.toInt = sq) (hq1 : 4503599627370496 ≤ sq) (hq2 : sq < 18014398509481984) (hE : ((jshr (x3 - x4) 1) - 31).toInt = (G - 1) - 1074) (hE1 : -10000 < G) (hE2 : G < 10000) :
    ∃ R, R * R ≤ sq * 2 ^ 60 ∧ sq * 2 ^ 60 < (R + 1) * (R + 1) ∧ 54 ≤ zlen R ∧ f_A_rootOfFinite_41 x3 x4 x5 0 0 26 = some (0 ||| lN (zrd R (if R * R = sq * 2 ^ 60 then 0 else 1) G)) := by
  have em30 : (-30 : Int32).toInt = -30 := rfl
  have em1 : (-1 : Int32).toInt = -1 := rfl
  have e0 : (0 : Int32).toInt = 0 := rfl
  have e2 : (2 : Int32).toInt = 2 := rfl
  unfold f_A_rootOfFinite_41
  obtain ⟨z, hz1, hz2⟩ := zrun_inv (step := f_A_rootOfFinite_41_step x3 x4 x5) (x := (0, 0, 26)) (fun z => ∃ i R q : Nat, z.2.2.toInt = (i : Int) - 31 ∧ i ≤ 57 ∧ z.1.toInt = (R : Int) ∧ z.2.1.toInt = (q : Int) ∧ R * R + q = sq * 2 ^ 60 / 2 ^ (2 * i) ∧ q ≤ 2 * R ∧ R < 2 ^ (57 - i)) (fun z => (z.2.2.toInt + 31).toNat)
    (fun d => ∃ R, R * R ≤ sq * 2 ^ 60 ∧ sq * 2 ^ 60 < (R + 1) * (R + 1) ∧ 54 ≤ zlen R ∧ d = (0 ||| lN (zrd R (if R * R = sq * 2 ^ 60 then 0 else 1) G))) (by
      rintro ⟨x7, x9, x11⟩ ⟨i, R, q, hi, hi2, h7, h9, hval, hq, hR⟩
      dsimp only at hi h7 h9
      unfold f_A_rootOfFinite_41_step f_A_rootOfFinite_41_body
      dsimp only
      have hp : 2 ^ (57 - i) ≤ 2 ^ 57 := p2le (by omega)
      have hRb : R < 144115188075855872 := Nat.lt_of_lt_of_le hR hp
      cases i with
      | zero =>
        rw [Nat.mul_zero, Nat.pow_zero, Nat.div_one] at hval
        rw [if_pos (show x11 < (-30) by rw [i_lt, hi, em30]; omega)]
        have hlt : sq * 2 ^ 60 < (R + 1) * (R + 1) := by rw [sq_suc, ← hval]; omega
        have hz : 54 ≤ zlen R := by
          have h1 : 2 ^ 56 < R + 1 := by
            apply sq_le
            have h3 : 4503599627370496 * 2 ^ 60 ≤ sq * 2 ^ 60 := Nat.mul_le_mul_right _ hq1
            exact Nat.lt_of_le_of_lt h3 hlt
          have := zlen_gt (n := R) (k := 56) (by omega)
          omega
        rw [A_root116 h7 h9 hval hz hRb hE hE1 hE2]
        exact Or.inr ⟨_, rfl, R, by omega, hlt, hz, rfl⟩
      | succ j =>
        rw [if_neg (show ¬ x11 < (-30) by rw [i_lt, hi, em30]; omega)]
        have hj : x11.toInt = (j : Int) - 30 := by rw [hi]; omega
        have hj57 : j ≤ 57 := by clear hval hR hp; omega
        have hmu : ((j : Int) - 31 + 31).toNat < ((j : Int) - 30 + 31).toNat := by clear hval hR hp; omega
        have hs9 : (jlshl x9 2).toInt = ((q * 4 : Nat) : Int) := by
          have e : x9.toInt * ((2 ^ 2 : Nat) : Int) = ((q * 4 : Nat) : Int) := by rw [h9]; exact (Int.natCast_mul _ _).symm
          exact (l_shl (n := 2) rfl (by decide) (by rw [e]; omega) (by rw [e]; omega)).trans e
        have hRj : ∀ R', R' ≤ 2 * R + 1 → R' < 2 ^ (57 - j) := by
          intro R' h
          have : 2 ^ (57 - j) = 2 * 2 ^ (57 - (j + 1)) := by rw [← Nat.pow_succ', show 57 - j = (57 - (j + 1)).succ by omega]
          omega
        have hdig := @root_dig sq j
        have fin : ∀ (s1 : Int64) (dg : Nat), s1.toInt = (dg : Int) → dg = sq * 2 ^ 60 / 2 ^ (2 * j) % 4 → (∃ y, f_A_rootOfFinite_72 x3 x4 x5 x7 x11 (jlshl x9 2) s1 = some (Sum.inl y) ∧ (∃ i R q : Nat, y.2.2.toInt = (i : Int) - 31 ∧ i ≤ 57 ∧ y.1.toInt = (R : Int) ∧ y.2.1.toInt = (q : Int) ∧ R * R + q = sq * 2 ^ 60 / 2 ^ (2 * i) ∧ q ≤ 2 * R ∧ R < 2 ^ (57 - i)) ∧ (y.2.2.toInt + 31).toNat < (x11.toInt + 31).toNat) := by
          intro s1 dg hs1 hdg
          obtain ⟨y7, y9, R', q', w1, w2, w3, w4, w5, w6⟩ := A_root72 (x3 := x3) (x4 := x4) (x5 := x5) (x11 := x11) h7 hRb hs9 hq hs1 (by rw [hdg]; exact Nat.mod_lt _ (by decide))
          have hRR := hRj R' w6
          have hm : (x11 + (-1)).toInt = (j : Int) - 31 := by
            clear w1 w2 w3 w4 w5 w6 hval hR hp hRR hdig hdg hRj
            rw [i_add, hj, em1] <;> (try rw [hj, em1]) <;> omega
          refine ⟨_, w1, ⟨j, R', q', hm, hj57, w2, w3, ?_, w4, hRR⟩, by dsimp only; rw [hm, hj]; exact hmu⟩
          rw [w5, hval, hdg, ← hdig]
        left
        by_cases c : j < 30
        · rw [if_pos (show x11 < 0 by rw [i_lt, hj, e0]; omega)]
          exact fin 0 0 rfl (root_lo c).symm
        · obtain ⟨k, rfl⟩ : ∃ k, j = k + 30 := ⟨j - 30, by omega⟩
          rw [if_neg (show ¬ x11 < 0 by rw [i_lt, hj, e0]; omega)]
          have h2k : (2 * x11).toInt = ((2 * k : Nat) : Int) := by
            rw [i_mul, e2, hj] <;> (try rw [e2, hj]) <;> omega
          have hu := B_ushr h2k (by omega) h5
          refine fin _ (sq / 2 ^ (2 * k) % 4) ?_ (by rw [root_hi])
          rw [l_and 2 (by decide) rfl, hu]
          exact (Int.natCast_emod _ _).symm) ⟨57, 0, 0, rfl, by omega, rfl, rfl, by
            rw [Nat.div_eq_of_lt]
            have h3 : sq * 2 ^ 60 < 18014398509481984 * 2 ^ 60 := (Nat.mul_lt_mul_right (p2pos _)).mpr hq2
            exact Nat.lt_of_lt_of_le h3 (by decide), by omega, by decide⟩
  obtain ⟨R, w1, w2, w3, w4⟩ := hz2
  exact ⟨R, w1, w2, w3, by rw [hz1, w4]⟩
