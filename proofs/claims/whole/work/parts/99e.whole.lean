/-- the digits from below -/
def zle (b W : Nat) (t : Nat) : Nat := W / b ^ t % b
theorem zle_lt {b : Nat} (hb : 0 < b) (W t : Nat) : zle b W t < b := Nat.mod_lt _ hb
theorem zle_low {b W j t : Nat} (ht : t < j) : (W % b ^ j) / b ^ t % b = zle b W t := by
  unfold zle
  have e : b ^ j = b ^ t * b ^ (j - t) := by rw [← Nat.pow_add, show t + (j - t) = j by omega]
  rw [e, Nat.mod_mul_right_div_self]
  exact Nat.mod_mod_of_dvd _ ⟨b ^ (j - t - 1), by rw [← Nat.pow_succ']; congr 1; omega⟩
theorem lt_tz {b W : Nat} (hb : 0 < b) : ∀ {T : Nat}, W < b ^ T → W < b ^ tz (zle b W) T
  | 0, h => h
  | T + 1, h => by
    rw [tz_s]
    by_cases c : zle b W T = 0
    · rw [if_pos c]
      apply lt_tz hb
      unfold zle at c
      have h1 : W / b ^ T < b := Nat.div_lt_of_lt_mul (by rw [← Nat.pow_succ]; exact h)
      rw [Nat.mod_eq_of_lt h1] at c
      rcases Nat.div_eq_zero_iff.mp c with q | q
      · exact absurd q (Nat.ne_of_gt (Nat.pow_pos hb))
      · exact q
    · rw [if_neg c]
      exact h
def zwh (b W n : Nat) : List Int32 := if n = 0 then [48] else zds (fun i => zle b W (n - 1 - i)) 0 n
/-- so many digits -/
def zln (b W n : Nat) : Prop := W < b ^ n ∧ (n = 0 ∨ b ^ (n - 1) ≤ W)
theorem zln_uniq {b W n m : Nat} (hb : 2 ≤ b) (h : zln b W n) (g : zln b W m) : n = m := by
  have key : ∀ {n m : Nat}, zln b W n → zln b W m → n ≤ m := by
    intro n m h g
    rcases Nat.lt_or_ge m n with q | q
    · exfalso
      rcases h.2 with w | w
      · omega
      · have h1 : b ^ m ≤ b ^ (n - 1) := Nat.pow_le_pow_right (by omega) (by omega)
        have := g.1
        omega
    · exact q
  exact Nat.le_antisymm (key h g) (key g h)
theorem zln_cap {b W n : Nat} (hb : 2 ≤ b) (h : zln b W n) (hW : W < 2 ^ 1024) : n ≤ 1024 := by
  rcases h.2 with w | w
  · omega
  · rcases Nat.lt_or_ge 1024 n with q | q
    · exfalso
      have h1 : 2 ^ 1024 ≤ 2 ^ (n - 1) := p2le (by omega)
      have h2 : 2 ^ (n - 1) ≤ b ^ (n - 1) := Nat.pow_le_pow_left hb _
      omega
    · exact q
theorem T_whole96 {b j R : Nat} (hb : 2 ≤ b) (hb36 : b ≤ 36) {x1 x2 x3 x4 x5 x6 : Int32} (h1 : x1.toInt = b) (h3 : x3.toInt = j) (hj : j ≤ 30) (h6 : x6.toInt = R) (hR : R < 1073741824) {pc nu : Int32} {pu nl : Nat → Int32} {L : List Int32} (h : pP 1100 pc pu L) (hl : L.length + j ≤ 1100) :
    ∃ pc' pu', f_T_addWholeInRadix_96 pc pu nu nl x1 x2 x3 x4 x5 x6 0 = some (Sum.inl (pc', pu', nu, nl, x5 + 1)) ∧ pP 1100 pc' pu' (L ++ zds (zle b R) 0 j) := by
  unfold f_T_addWholeInRadix_96
  obtain ⟨y, t1, pc', pu', t2, t3⟩ := zrun_inv (step := f_T_addWholeInRadix_96_step x1 x2 x3 x4 x5) (x := (pc, pu, nu, nl, x6, 0)) (fun z => ∃ k : Nat, k ≤ j ∧ ∃ pc' pu' y6 y7, z = (pc', pu', nu, nl, y6, y7) ∧ y7.toInt = ((0 + k : Nat) : Int) ∧ y6.toInt = ((R / b ^ k : Nat) : Int) ∧ pP 1100 pc' pu' (L ++ zds (zle b R) 0 k)) (fun z => ((j : Int) - z.2.2.2.2.2.toInt).toNat) (fun y => ∃ pc' pu', y = Sum.inl (pc', pu', nu, nl, x5 + 1) ∧ pP 1100 pc' pu' (L ++ zds (zle b R) 0 j)) (by
    rintro _ ⟨k, hk, c0, u, y6, y7, rfl, hy, h6, hP⟩
    unfold f_T_addWholeInRadix_96_step f_T_addWholeInRadix_96_body f_T_addWholeInRadix_125
    dsimp only
    by_cases ck : k = j
    · rw [if_pos (show x3 ≤ y7 by rw [i_le, hy, h3]; omega)]
      rw [ck] at hP
      exact Or.inr ⟨_, rfl, c0, u, rfl, hP⟩
    · have hne : ¬ x1 = 0 := by
        intro q
        rw [q] at h1
        have e0 : (0 : Int32).toInt = 0 := rfl
        omega
      rw [if_neg (show ¬ x3 ≤ y7 by rw [i_le, hy, h3]; omega), if_pos hne]
      have hle : zle b R (0 + k) = R / b ^ k % b := by rw [Nat.zero_add]; rfl
      have hd : (jrem y6 x1).toInt = ((zle b R (0 + k) : Nat) : Int) := by
        rw [i_rem (by rw [h6]; exact Int.natCast_nonneg _) (by omega), h6, h1, hle]
        exact (Int.natCast_emod _ _).symm
      have hq : (y6 / x1).toInt = ((R / b ^ (k + 1) : Nat) : Int) := by
        rw [i_div (by rw [h6]; exact Int.natCast_nonneg _) (by omega), h6, h1, Nat.pow_succ, ← Nat.div_div_eq_div_mul]
        exact (Int.natCast_ediv _ _).symm
      have h36 := zle_lt (b := b) (by omega) R (0 + k)
      obtain ⟨c1, u1, t3, t4⟩ := P_addDigit hP (by rw [List.length_append, zds_len]; omega) hd (by omega)
      rw [t3, Option.bind_some]
      dsimp only
      rw [if_pos hne]
      have hs : (y7 + 1).toInt = ((0 + (k + 1) : Nat) : Int) := i_suc (k := 0 + k) hy (by omega)
      rw [List.append_assoc] at t4
      exact Or.inl ⟨_, rfl, ⟨k + 1, by omega, c1, u1, _, _, rfl, hs, hq, t4⟩, by dsimp only; rw [hs, hy]; omega⟩) ⟨0, Nat.zero_le _, pc, pu, x6, 0, rfl, rfl, by rw [Nat.pow_zero, Nat.div_one]; exact h6, by
          show pP 1100 pc pu (L ++ [])
          rw [List.append_nil]
          exact h⟩
  rw [t2] at t1
  exact ⟨pc', pu', t1, t3⟩
theorem T_whole131 {b W T : Nat} (hb : 2 ≤ b) (hb36 : b ≤ 36) (hW0 : W ≠ 0) (hT : W < b ^ T) {pc nu : Int32} {pu nl : Nat → Int32} {L : List Int32} (hL : zno L 48) (h : pP 1100 pc pu (L ++ zds (zle b W) 0 T)) {x4 : Int32} (h4 : x4.toInt = (L.length : Int)) :
    ∃ pc' pu' n, f_T_addWholeInRadix_131 pc pu nu nl x4 = some (pc', pu', nu, nl) ∧ zln b W n ∧ pP 1100 pc' pu' (L ++ zwh b W n) := by
  have h36 : ∀ i, zle b W i < 36 := fun i => Nat.lt_of_lt_of_le (zle_lt (by omega) W i) hb36
  unfold f_T_addWholeInRadix_131
  obtain ⟨c1, t1, t2⟩ := P_drop48 h36 hL h
  rw [t1, Option.bind_some]
  have hlt := lt_tz (by omega) hT
  rcases tz_last (zle b W) T with q | ⟨j, q, hj⟩
  · exfalso
    rw [q, Nat.pow_zero] at hlt
    omega
  · rw [q] at t2 hlt
    obtain ⟨u1, t3, t4⟩ := P_turn h36 t2 h4 (by omega)
    rw [t3, Option.bind_some]
    refine ⟨c1, u1, j + 1, rfl, ⟨hlt, Or.inr ?_⟩, ?_⟩
    · show b ^ (j + 1 - 1) ≤ W
      rw [Nat.add_sub_cancel]
      rcases Nat.lt_or_ge W (b ^ j) with w | w
      · exfalso
        apply hj
        unfold zle
        rw [Nat.div_eq_of_lt w, Nat.zero_mod]
      · exact w
    · unfold zwh
      rw [if_neg (by omega)]
      exact t4
theorem T_whole53 {b W j : Nat} (hb : 2 ≤ b) (hb36 : b ≤ 36) (hW0 : W ≠ 0) (hW : W < 2 ^ 1024) {x1 x2 x3 : Int32} (h1 : x1.toInt = b) (h2 : x2.toInt = ((b ^ j : Nat) : Int)) (h3 : x3.toInt = j) (hj0 : 1 ≤ j) (hj : j ≤ 30) (hbj : b ^ j ≤ 1073741824) {pc nu : Int32} {pu nl : Nat → Int32} (hN : nR nu nl W) {L : List Int32} (hL : zno L 48) (hl : L.length ≤ 5) (h : pP 1100 pc pu L) :
    ∃ pc' pu' nu' nl' n, f_T_addWholeInRadix_53 pc pu nu nl x1 x2 x3 = some (pc', pu', nu', nl') ∧ zln b W n ∧ pP 1100 pc' pu' (L ++ zwh b W n) := by
  have e2000 : (2000 : Int32).toInt = 2000 := rfl
  unfold f_T_addWholeInRadix_53 f_P_length
  rw [Option.bind_some]
  unfold f_T_addWholeInRadix_65
  have hpc := h.1
  obtain ⟨y, t1, pc', pu', nu', nl', n, rfl, t3, t4⟩ := zrun_inv (step := f_T_addWholeInRadix_65_step x1 x2 x3 pc) (x := (pc, pu, nu, nl, 0)) (fun z => ∃ i : Nat, i * j ≤ 1060 ∧ i ≤ 1100 ∧ ∃ pc' pu' nu' nl' y5, z = (pc', pu', nu', nl', y5) ∧ y5.toInt = (i : Int) ∧ nR nu' nl' (W / b ^ (i * j)) ∧ pP 1100 pc' pu' (L ++ zds (zle b W) 0 (i * j))) (fun z => ((2000 : Int) - z.2.2.2.2.toInt).toNat) (fun y => ∃ pc' pu' nu' nl' n, y = (pc', pu', nu', nl') ∧ zln b W n ∧ pP 1100 pc' pu' (L ++ zwh b W n)) (by
    rintro _ ⟨i, hi, hi2, c0, u, n0, l0, y5, rfl, h5, hN, hP⟩
    unfold f_T_addWholeInRadix_65_step f_T_addWholeInRadix_65_body
    dsimp only
    rw [if_neg (show ¬ 2000 ≤ y5 by rw [i_le, h5, e2000]; omega), N_isZero hN, Option.bind_some]
    by_cases c : W / b ^ (i * j) = 0
    · rw [if_pos c, if_neg (show ¬ (1 : Int32) = 0 by decide)]
      have hT : W < b ^ (i * j) := by
        rcases Nat.div_eq_zero_iff.mp c with q | q
        · exact absurd q (Nat.ne_of_gt (Nat.pow_pos (by omega)))
        · exact q
      obtain ⟨c1, u1, n, t1, t2, t3⟩ := T_whole131 (nu := n0) (nl := l0) hb hb36 hW0 hT hL hP hpc
      rw [t1]
      exact Or.inr ⟨_, rfl, c1, u1, n0, l0, n, rfl, t2, t3⟩
    · rw [if_neg c, if_pos rfl]
      have hlt : i * j < 1024 := by
        rcases Nat.lt_or_ge (i * j) 1024 with q | q
        · exact q
        · exfalso
          apply c
          apply Nat.div_eq_of_lt
          have g1 : 2 ^ 1024 ≤ 2 ^ (i * j) := p2le q
          have g2 : 2 ^ (i * j) ≤ b ^ (i * j) := Nat.pow_le_pow_left hb _
          omega
      have hilt : i < 1024 := by
        have : i * 1 ≤ i * j := Nat.mul_le_mul_left i hj0
        omega
      obtain ⟨rr, n1, l1, t1, t2, t3⟩ := N_divSmall hN h2 (Nat.pow_pos (by omega))
      rw [t1, Option.bind_some]
      dsimp only
      have hrl : W / b ^ (i * j) % b ^ j < 1073741824 := Nat.lt_of_lt_of_le (Nat.mod_lt _ (Nat.pow_pos (by omega))) hbj
      obtain ⟨c1, u1, t4, t5⟩ := T_whole96 (x2 := x2) (x4 := pc) (x5 := y5) (nu := n1) (nl := l1) hb hb36 h1 h3 hj t2 hrl hP (by rw [List.length_append, zds_len]; omega)
      rw [t4]
      have hs : (y5 + 1).toInt = ((i + 1 : Nat) : Int) := i_suc h5 (by omega)
      have em : (i + 1) * j = i * j + j := by rw [Nat.add_mul, Nat.one_mul]
      refine Or.inl ⟨_, rfl, ⟨i + 1, by omega, by omega, c1, u1, n1, l1, _, rfl, hs, ?_, ?_⟩, ?_⟩
      · rw [em, Nat.pow_add, ← Nat.div_div_eq_div_mul]
        exact t3
      · rw [em, zds_app, ← List.append_assoc]
        have eq : zds (zle b W) (0 + i * j) j = zds (zle b (W / b ^ (i * j) % b ^ j)) 0 j := by
          apply zds_congr
          intro t ht
          rw [Nat.zero_add, Nat.zero_add]
          show W / b ^ (i * j + t) % b = W / b ^ (i * j) % b ^ j / b ^ t % b
          rw [zle_low ht, Nat.pow_add, ← Nat.div_div_eq_div_mul]
          rfl
        rw [eq]
        exact t5
      · dsimp only
        rw [hs, h5]
        omega) ⟨0, by omega, by omega, pc, pu, nu, nl, 0, rfl, rfl, by rw [Nat.zero_mul, Nat.pow_zero, Nat.div_one]; exact hN, by
          rw [Nat.zero_mul]
          show pP 1100 pc pu (L ++ [])
          rw [List.append_nil]
          exact h⟩
  exact ⟨pc', pu', nu', nl', n, t1, t3, t4⟩
theorem T_whole {b W : Nat} (hb : 2 ≤ b) (hb36 : b ≤ 36) (hW : W < 2 ^ 1024) {x1 : Int32} (h1 : x1.toInt = b) {pc nu : Int32} {pu nl : Nat → Int32} (hN : nR nu nl W) {L : List Int32} (hL : zno L 48) (hl : L.length ≤ 5) (h : pP 1100 pc pu L) :
    ∃ pc' pu' nu' nl' n, f_T_addWholeInRadix pc pu nu nl x1 = some (pc', pu', nu', nl') ∧ zln b W n ∧ pP 1100 pc' pu' (L ++ zwh b W n) := by
  have e2 : (2 : Int32).toInt = 2 := rfl
  have e30 : (30 : Int32).toInt = 30 := rfl
  have eB : (1073741824 : Int32).toInt = 1073741824 := rfl
  unfold f_T_addWholeInRadix
  rw [N_isZero hN, Option.bind_some]
  by_cases c : W = 0
  · rw [if_pos c, if_neg (show ¬ (1 : Int32) = 0 by decide)]
    unfold f_T_addWholeInRadix_15
    obtain ⟨c1, u1, t1, t2⟩ := P_add h (by omega) (x := 48) (by decide) (by decide)
    rw [t1, Option.bind_some]
    exact ⟨c1, u1, nu, nl, 0, rfl, ⟨by rw [c]; exact Nat.pow_pos (by omega), Or.inl rfl⟩, t2⟩
  · rw [if_neg c, if_pos rfl, if_pos (show 2 ≤ x1 by rw [i_le, h1, e2]; omega)]
    unfold f_T_addWholeInRadix_29
    have hne : ¬ x1 = 0 := by
      intro q
      rw [q] at h1
      have e0 : (0 : Int32).toInt = 0 := rfl
      omega
    obtain ⟨y, t1, t2⟩ := zrun_inv (step := f_T_addWholeInRadix_29_step x1) (x := (pc, pu, nu, nl, x1, 1)) (fun z => ∃ j : Nat, 1 ≤ j ∧ j ≤ 30 ∧ b ^ j ≤ 1073741824 ∧ ∃ y2 y3, z = (pc, pu, nu, nl, y2, y3) ∧ y2.toInt = ((b ^ j : Nat) : Int) ∧ y3.toInt = (j : Int)) (fun z => ((30 : Int) - z.2.2.2.2.2.toInt).toNat) (fun y => ∃ pc' pu' nu' nl' n, y = (pc', pu', nu', nl') ∧ zln b W n ∧ pP 1100 pc' pu' (L ++ zwh b W n)) (by
      rintro _ ⟨j, hj0, hj, hbj, y2, y3, rfl, h2, h3⟩
      unfold f_T_addWholeInRadix_29_step f_T_addWholeInRadix_29_body
      dsimp only
      obtain ⟨c1, u1, n1, l1, n, t1, t2, t3⟩ := T_whole53 hb hb36 c hW h1 h2 h3 hj0 hj hbj hN hL hl h
      by_cases c30 : j = 30
      · rw [if_pos (show 30 ≤ y3 by rw [i_le, h3, e30]; omega), t1]
        exact Or.inr ⟨_, rfl, c1, u1, n1, l1, n, rfl, t2, t3⟩
      · rw [if_neg (show ¬ 30 ≤ y3 by rw [i_le, h3, e30]; omega), if_pos hne]
        have hq : (1073741824 / x1).toInt = ((1073741824 / b : Nat) : Int) := by
          rw [i_div (by decide) (by omega), h1, eB]
          exact (Int.natCast_ediv _ _).symm
        by_cases cq : 1073741824 / b ≤ b ^ j
        · rw [if_pos (show 1073741824 / x1 ≤ y2 by rw [i_le, hq, h2]; omega), t1]
          exact Or.inr ⟨_, rfl, c1, u1, n1, l1, n, rfl, t2, t3⟩
        · rw [if_neg (show ¬ 1073741824 / x1 ≤ y2 by rw [i_le, hq, h2]; omega)]
          have hle : b ^ j * b ≤ 1073741824 := by
            have g1 : b ^ j * b ≤ 1073741824 / b * b := Nat.mul_le_mul_right b (by omega)
            have g2 := Nat.div_mul_le_self 1073741824 b
            omega
          have hm : (y2 * x1).toInt = ((b ^ (j + 1) : Nat) : Int) := by
            have hp : y2.toInt * x1.toInt = ((b ^ j * b : Nat) : Int) := by rw [h2, h1, Int.natCast_mul]
            rw [i_mul (by rw [hp]; omega) (by rw [hp]; omega), hp, Nat.pow_succ]
          have hs : (y3 + 1).toInt = ((j + 1 : Nat) : Int) := i_suc h3 (by omega)
          refine Or.inl ⟨_, rfl, ⟨j + 1, by omega, by omega, by rw [Nat.pow_succ]; exact hle, _, _, rfl, hm, hs⟩, ?_⟩
          dsimp only
          rw [hs, h3]
          omega) ⟨1, by omega, by omega, by rw [Nat.pow_one]; omega, x1, 1, rfl, by rw [Nat.pow_one]; exact h1, rfl⟩
    obtain ⟨c1, u1, n1, l1, n, rfl, t3, t4⟩ := t2
    exact ⟨c1, u1, n1, l1, n, t1, t3, t4⟩
