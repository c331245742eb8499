/-- what is left of the fraction, and its digits -/
def zRm (b s R : Nat) : Nat → Nat
  | 0 => R
  | k + 1 => zRm b s R k * b % 2 ^ s
theorem zR_s (b s R k : Nat) : zRm b s R (k + 1) = zRm b s R k * b % 2 ^ s := rfl
def zfd (b s R k : Nat) : Nat := zRm b s R k * b / 2 ^ s
theorem zR_lt {b s R : Nat} (h : R < 2 ^ s) : ∀ k, zRm b s R k < 2 ^ s
  | 0 => h
  | k + 1 => Nat.mod_lt _ (p2pos s)
theorem zfd_lt {b s R : Nat} (hb : 0 < b) (h : R < 2 ^ s) (k : Nat) : zfd b s R k < b := by
  unfold zfd
  apply Nat.div_lt_of_lt_mul
  exact (Nat.mul_lt_mul_right hb).mpr (zR_lt h k)
def isK (b s R K : Nat) : Prop := K ≤ 52 ∧ (K = 52 ∨ zRm b s R K = 0) ∧ ∀ k, k < K → zRm b s R k ≠ 0
theorem isK_uniq {b s R K J : Nat} (h : isK b s R K) (g : isK b s R J) : K = J := by
  have key : ∀ {K J : Nat}, isK b s R K → isK b s R J → K ≤ J := by
    intro K J h g
    rcases Nat.lt_or_ge J K with q | q
    · exfalso
      have h1 := h.2.2 J q
      have h2 := h.1
      rcases g.2.1 with w | w
      · omega
      · exact h1 w
    · exact q
  exact Nat.le_antisymm (key h g) (key g h)
theorem T_rest {b s R : Nat} (hb : 2 ≤ b) (hb36 : b ≤ 36) (hR : R < 2 ^ s) (hR0 : R ≠ 0) (hR53 : R < 2 ^ 53) (hs : s ≤ 1074) {x1 : Int64} {x3 x4 : Int32} (h1 : x1.toInt = R) (h3 : x3.toInt = s) (h4 : x4.toInt = b) {pc nu : Int32} {pu nl : Nat → Int32} {A : List Int32} (hA : zno A 46) (hl : A.length ≤ 1040) (h : pP 1100 pc pu A) :
    ∃ pc' pu' nu' nl' K, f_T_addRestInRadix pc pu nu nl x1 x3 x4 = some (pc', pu', nu', nl') ∧ isK b s R K ∧ pP 1100 pc' pu' (A ++ zfz (zfd b s R) K) := by
  have e30 : (30 : Int32).toInt = 30 := rfl
  have e1 : (1 : Int32).toInt = 1 := rfl
  have e52 : (52 : Int32).toInt = 52 := rfl
  have h36 : ∀ i, zfd b s R i < 36 := fun i => Nat.lt_of_lt_of_le (zfd_lt (by omega) hR i) hb36
  have hx0 : ¬ x1 = 0 := by
    intro q
    rw [q] at h1
    have : (0 : Int64).toInt = 0 := rfl
    omega
  unfold f_T_addRestInRadix
  rw [if_neg hx0]
  obtain ⟨p, hp⟩ : ∃ p : Nat, p = (s + 29) / 30 := ⟨_, rfl⟩
  have hsum : ((x3 + 30) - 1).toInt = ((s + 29 : Nat) : Int) := by
    have ha : (x3 + 30).toInt = (s : Int) + 30 := by
      rw [i_add (by rw [h3, e30]; omega) (by rw [h3, e30]; omega), h3, e30]
    rw [i_sub (by rw [ha, e1]; omega) (by rw [ha, e1]; omega), ha, e1]
    omega
  have hpl : (((x3 + 30) - 1) / 30).toInt = (p : Int) := by
    rw [i_div (by rw [hsum]; omega) (by decide), hsum, e30, hp]
    omega
  have hp36 : p ≤ 36 := by omega
  have hsp : s ≤ 30 * p := by omega
  have hsp2 : 30 * p < s + 30 := by omega
  clear hp hsum
  have hmul : ((((x3 + 30) - 1) / 30) * 30).toInt = 30 * (p : Int) := by
    rw [i_mul (by rw [hpl, e30]; omega) (by rw [hpl, e30]; omega), hpl, e30]
    omega
  obtain ⟨e, he⟩ : ∃ e : Nat, s + e = 30 * p := ⟨30 * p - s, by omega⟩
  have hsh : (((((x3 + 30) - 1) / 30) * 30) - x3).toInt.toNat = e := by
    rw [i_sub (by rw [hmul, h3]; omega) (by rw [hmul, h3]; omega), hmul, h3]
    omega
  generalize ((x3 + 30) - 1) / 30 = y5 at hpl hsh ⊢
  clear hmul
  have hbv : x1.toBitVec.toNat = R := by
    have := l_bv x1
    rw [h1] at this
    have h53 : (2 : Nat) ^ 53 = 9007199254740992 := by decide
    omega
  obtain ⟨n1, l1, t1, t2⟩ := N_set (us := nu) (l := nl) x1
  rw [hbv] at t2
  have hB : ∀ {y : Nat}, y < 2 ^ 1400 → y < 1073741824 ^ 48 := fun q => lt_B48 q
  have hfit : R * 2 ^ e < 2 ^ 1400 := by
    have g1 : R * 2 ^ e ≤ 2 ^ 53 * 2 ^ e := Nat.mul_le_mul_right _ (by omega)
    rw [← Nat.pow_add] at g1
    have g2 : 2 ^ (53 + e) < 2 ^ 1400 := p2lt (by omega)
    omega
  obtain ⟨n2, l2, t3, t4⟩ := N_shiftUp t2 hsh (hB hfit)
  rw [t1, Option.bind_some]
  dsimp only
  rw [t3, Option.bind_some]
  dsimp only
  obtain ⟨c1, u1, t5, t6⟩ := P_add h (by omega) (x := 46) (by decide) (by decide)
  rw [t5, Option.bind_some]
  dsimp only
  unfold f_T_addRestInRadix_52
  have hpow : 1073741824 ^ p = 2 ^ s * 2 ^ e := by
    rw [show (1073741824 : Nat) = 2 ^ 30 from rfl, ← Nat.pow_mul, ← Nat.pow_add, he]
  obtain ⟨y, r1, pc', pu', nu', nl', K, rfl, r3, r4⟩ := zrun_inv (step := f_T_addRestInRadix_52_step x4 y5) (x := (c1, u1, n2, l2, 0)) (fun z => ∃ k : Nat, k ≤ 52 ∧ (∀ i, i < k → zRm b s R i ≠ 0) ∧ ∃ pc' pu' nu' nl' y6, z = (pc', pu', nu', nl', y6) ∧ y6.toInt = ((0 + k : Nat) : Int) ∧ nR nu' nl' (zRm b s R k * 2 ^ e) ∧ pP 1100 pc' pu' (A ++ [46] ++ zds (zfd b s R) 0 k)) (fun z => ((52 : Int) - z.2.2.2.2.toInt).toNat) (fun y => ∃ pc' pu' nu' nl' K, y = (pc', pu', nu', nl') ∧ isK b s R K ∧ pP 1100 pc' pu' (A ++ zfz (zfd b s R) K)) (by
    rintro _ ⟨k, hk, hnz, c0, u, n0, l0, y6, rfl, h6, hN, hP⟩
    unfold f_T_addRestInRadix_52_step f_T_addRestInRadix_52_body
    dsimp only
    by_cases ck : k = 52
    · rw [if_pos (show 52 ≤ y6 by rw [i_le, h6, e52]; omega)]
      obtain ⟨c2, v1, v2⟩ := T_rest101 h36 hA hP n0 l0
      rw [v1]
      exact Or.inr ⟨_, rfl, c2, u, n0, l0, k, rfl, ⟨hk, Or.inl ck, hnz⟩, v2⟩
    · rw [if_neg (show ¬ 52 ≤ y6 by rw [i_le, h6, e52]; omega), N_isZero hN, Option.bind_some]
      by_cases cz : zRm b s R k * 2 ^ e = 0
      · rw [if_pos cz, if_neg (show ¬ (1 : Int32) = 0 by decide)]
        have hz : zRm b s R k = 0 := by
          rcases Nat.mul_eq_zero.mp cz with w | w
          · exact w
          · exact absurd w (Nat.ne_of_gt (p2pos e))
        obtain ⟨c2, v1, v2⟩ := T_rest101 h36 hA hP n0 l0
        rw [v1]
        exact Or.inr ⟨_, rfl, c2, u, n0, l0, k, rfl, ⟨hk, Or.inr hz, hnz⟩, v2⟩
      · rw [if_neg cz, if_pos rfl]
        have hz : zRm b s R k ≠ 0 := by
          intro w
          apply cz
          rw [w, Nat.zero_mul]
        have hzl := zR_lt (b := b) hR k
        have hfit2 : zRm b s R k * 2 ^ e * b + 0 < 2 ^ 1400 := by
          have g1 : zRm b s R k * 2 ^ e ≤ 2 ^ s * 2 ^ e := Nat.mul_le_mul_right _ (by omega)
          have g2 : zRm b s R k * 2 ^ e * b ≤ 2 ^ s * 2 ^ e * 2 ^ 6 := Nat.mul_le_mul g1 (show b ≤ 64 by omega)
          rw [← Nat.pow_add, ← Nat.pow_add] at g2
          have g3 : 2 ^ (s + e + 6) < 2 ^ 1400 := p2lt (by omega)
          omega
        obtain ⟨n3, l3, v1, v2⟩ := N_mulAdd hN h4 (x2 := 0) (a := 0) rfl (by omega) (by omega) (by decide) (hB hfit2)
        rw [v1, Option.bind_some]
        dsimp only
        rw [Nat.add_zero, show zRm b s R k * 2 ^ e * b = zRm b s R k * b * 2 ^ e by rw [Nat.mul_right_comm]] at v2
        obtain ⟨dd, n4, v3, v4, v5⟩ := N_takeFrom v2 hpl
        rw [v3, Option.bind_some]
        dsimp only
        have hdd : nd (zRm b s R k * b * 2 ^ e) p = zfd b s R (0 + k) := by
          unfold nd
          rw [hpow, Nat.mul_div_mul_right _ _ (p2pos e), Nat.zero_add]
          have := h36 k
          unfold zfd at this ⊢
          exact Nat.mod_eq_of_lt (by omega)
        rw [hpow, Nat.mul_mod_mul_right, ← zR_s] at v5
        rw [hdd] at v4
        obtain ⟨c2, u2, v6, v7⟩ := P_addDigit hP (by rw [List.length_append, List.length_append, zds_len, List.length_singleton]; omega) v4 (h36 _)
        rw [v6, Option.bind_some]
        dsimp only
        have hs6 : (y6 + 1).toInt = ((0 + (k + 1) : Nat) : Int) := i_suc (k := 0 + k) h6 (by omega)
        rw [List.append_assoc] at v7
        refine Or.inl ⟨_, rfl, ⟨k + 1, by omega, fun i hi => ?_, c2, u2, n4, l3, _, rfl, hs6, v5, v7⟩, ?_⟩
        · rcases Nat.lt_or_ge i k with w | w
          · exact hnz i w
          · rw [show i = k by omega]
            exact hz
        · dsimp only
          rw [hs6, h6]
          omega) ⟨0, by omega, fun i hi => absurd hi (Nat.not_lt_zero _), c1, u1, n2, l2, 0, rfl, rfl, t4, by
            show pP 1100 c1 u1 (A ++ [46] ++ [])
            rw [List.append_nil]
            exact t6⟩
  exact ⟨pc', pu', nu', nl', K, r1, r3, r4⟩
