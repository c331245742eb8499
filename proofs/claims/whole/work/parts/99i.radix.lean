theorem l_tn {x : Int64} {n : Nat} (h : x.toInt = n) : x.toBitVec.toNat = n := by
  have h1 := l_bv x
  have h2 := l_rng x
  rw [h] at h1
  omega
/-- the whole part, and what is left over 2^s -/
def zs (x : Int64) : Nat := (-((zep (zmg x) : Int) - 1074)).toNat
def zW (x : Int64) : Nat := zam (zmg x) * 2 ^ ((zep (zmg x) : Int) - 1074).toNat / 2 ^ zs x
def zRr (x : Int64) : Nat := zam (zmg x) % 2 ^ zs x
theorem zs_le (x : Int64) : zs x ≤ 1074 := by
  unfold zs
  omega
theorem zRr_lt (x : Int64) : zRr x < 2 ^ zs x := Nat.mod_lt _ (p2pos _)
theorem zE_hi {x : Int64} (hfin : zmg x < 9218868437227405312) : zep (zmg x) ≤ 2045 := by
  unfold zep
  omega
theorem zW_lt {x : Int64} (hfin : zmg x < 9218868437227405312) : zW x < 2 ^ 1024 := by
  have h1 := @zam_lt' (zmg x)
  have h2 := zE_hi hfin
  unfold zW
  have h3 : zam (zmg x) * 2 ^ ((zep (zmg x) : Int) - 1074).toNat < 2 ^ 1024 := by
    have g1 : zam (zmg x) * 2 ^ ((zep (zmg x) : Int) - 1074).toNat < 2 ^ 53 * 2 ^ ((zep (zmg x) : Int) - 1074).toNat := (Nat.mul_lt_mul_right (p2pos _)).mpr (by
      have : (2 : Nat) ^ 53 = 9007199254740992 := by decide
      omega)
    rw [← Nat.pow_add] at g1
    have g2 : 2 ^ (53 + ((zep (zmg x) : Int) - 1074).toNat) ≤ 2 ^ 1024 := p2le (by omega)
    omega
  exact Nat.lt_of_le_of_lt (Nat.div_le_self _ _) h3
theorem M_radix50 (ts o cc p : Int32) {out r : Nat → Int32} (hr : mOK r) {x : Int64} (hfin : zmg x < 9218868437227405312) {b : Nat} (hb : 2 ≤ b) (hb36 : b ≤ 36) {x3 : Int32} (h3 : x3.toInt = b) (s0 : Int32) :
    ∃ o' out' r' K n, f_M_radix_50 0 ts o cc p out r x x3 s0 = some (o', 0, o', out', r') ∧ mOK r' ∧ isK b (zs x) (zRr x) K ∧ zln b (zW x) n ∧ pP 1200 o' out' ((if s0 = 0 then [] else [45]) ++ zwh b (zW x) n ++ zfz (zfd b (zs x) (zRr x)) K) := by
  have e0 : (0 : Int32).toInt = 0 := rfl
  have em52 : (-52 : Int32).toInt = -52 := rfl
  have h53 := @zam_lt' (zmg x)
  have hEh := zE_hi hfin
  have hWl := zW_lt hfin
  have hRl := zRr_lt x
  have hsl := zs_le x
  unfold f_M_radix_50
  rw [M_isNan, Option.bind_some, if_neg (show ¬ 9218868437227405312 < zmg x by omega), if_pos rfl, M_isInfinite, Option.bind_some, if_neg (show ¬ zmg x = 9218868437227405312 by omega), if_pos rfl]
  obtain ⟨pe, p1, p2⟩ := M_power x
  obtain ⟨am, a1, a2⟩ := M_amount x
  rw [p1, Option.bind_some, a1, Option.bind_some]
  obtain ⟨r1, q1, q2⟩ := M_set 0 ts o cc p hr (a := 3) (x1 := 3) (x2 := am) (by decide) rfl
  rw [q1, Option.bind_some]
  obtain ⟨r2, q3, q4⟩ := M_set 0 ts o cc p q2.1 (a := 0) (x1 := 0) (x2 := 0) (by decide) rfl
  rw [q3, Option.bind_some]
  have hv3 : mV r2 3 = zam (zmg x) := by rw [q4.2.2 3 (by decide) (by decide), q2.2.1, l_tn a2]
  have hv0 : mV r2 0 = 0 := q4.2.1
  have hgo : ∀ {r' : Nat → Int32}, mOK r' → mV r' 0 = zRr x → mV r' 3 = zW x → (zRr x ≠ 0 → pe.toInt = -(zs x : Int)) → ∃ o' out' r'' K n, f_M_radix_183 0 ts o cc p out r' x3 s0 pe = some (o', 0, o', out', r'') ∧ mOK r'' ∧ isK b (zs x) (zRr x) K ∧ zln b (zW x) n ∧ pP 1200 o' out' ((if s0 = 0 then [] else [45]) ++ zwh b (zW x) n ++ zfz (zfd b (zs x) (zRr x)) K) := by
    intro r' g1 g2 g3 g4
    unfold f_M_radix_183
    exact M_rad186 0 ts o cc p hb hb36 hsl hRl hWl s0 h3 g4 g1 g2 g3
  by_cases cE : (zep (zmg x) : Int) - 1074 < 0
  · rw [if_pos (show pe < 0 by rw [i_lt, p2, e0]; exact cE)]
    have hse : (zs x : Int) = -((zep (zmg x) : Int) - 1074) := by unfold zs; omega
    have hpe : pe.toInt = -(zs x : Int) := by rw [p2]; omega
    have hW : zW x = zam (zmg x) / 2 ^ zs x := by
      unfold zW
      rw [show ((zep (zmg x) : Int) - 1074).toNat = 0 by omega, Nat.pow_zero, Nat.mul_one]
    have hng : (-pe).toInt = (zs x : Int) := by rw [i_neg (by omega), hpe]; omega
    have h156 : ∀ {s2 : Int64}, s2.toInt = (zRr x : Int) → ∃ o' out' r'' K n, f_M_radix_156 0 ts o cc p out r2 x x3 s0 pe 0 s2 = some (o', 0, o', out', r'') ∧ mOK r'' ∧ isK b (zs x) (zRr x) K ∧ zln b (zW x) n ∧ pP 1200 o' out' ((if s0 = 0 then [] else [45]) ++ zwh b (zW x) n ++ zfz (zfd b (zs x) (zRr x)) K) := by
      intro s2 hs2
      unfold f_M_radix_156
      obtain ⟨r3, q5, q6⟩ := M_set 0 ts o cc p q4.1 (a := 0) (x1 := 0) (x2 := s2) (by decide) rfl
      rw [q5, Option.bind_some]
      have h0 : mV r3 0 = zRr x := by rw [q6.2.1, l_tn hs2]
      have h180 : ∀ {w : Int64}, w.toInt = (zW x : Int) → ∃ o' out' r'' K n, f_M_radix_180 0 ts o cc p out r3 x3 s0 pe 3 w = some (o', 0, o', out', r'') ∧ mOK r'' ∧ isK b (zs x) (zRr x) K ∧ zln b (zW x) n ∧ pP 1200 o' out' ((if s0 = 0 then [] else [45]) ++ zwh b (zW x) n ++ zfz (zfd b (zs x) (zRr x)) K) := by
        intro w hw
        unfold f_M_radix_180
        obtain ⟨r4, q7, q8⟩ := M_set 0 ts o cc p q6.1 (a := 3) (x1 := 3) (x2 := w) (by decide) rfl
        rw [q7, Option.bind_some]
        exact hgo q8.1 ((q8.2.2 0 (by decide) (by decide)).trans h0) (by rw [q8.2.1, l_tn hw]) (fun _ => hpe)
      by_cases c52 : zs x ≤ 52
      · rw [if_pos (show (-52) ≤ pe by rw [i_le, em52, hpe]; omega), a1, Option.bind_some]
        apply h180
        rw [l_shr hng (by omega), a2, hW]
        exact (Int.natCast_ediv _ _).symm
      · rw [if_neg (show ¬ (-52) ≤ pe by rw [i_le, em52, hpe]; omega)]
        apply h180
        have hz : zW x = 0 := by
          rw [hW]
          apply Nat.div_eq_of_lt
          have g2 : 2 ^ 53 ≤ 2 ^ zs x := p2le (by omega)
          have : (2 : Nat) ^ 53 = 9007199254740992 := by decide
          omega
        rw [hz]
        rfl
    by_cases c52 : zs x ≤ 52
    · rw [if_pos (show (-52) ≤ pe by rw [i_le, em52, hpe]; omega), Option.bind_some]
      apply h156
      rw [B_mask hng (by omega) (by omega) a2]
      rfl
    · rw [if_neg (show ¬ (-52) ≤ pe by rw [i_le, em52, hpe]; omega), Option.bind_some]
      apply h156
      rw [a2]
      unfold zRr
      rw [Nat.mod_eq_of_lt]
      have g2 : 2 ^ 53 ≤ 2 ^ zs x := p2le (by omega)
      have : (2 : Nat) ^ 53 = 9007199254740992 := by decide
      omega
  · rw [if_neg (show ¬ pe < 0 by rw [i_lt, p2, e0]; exact cE)]
    obtain ⟨k, hk⟩ : ∃ k : Nat, (zep (zmg x) : Int) - 1074 = k := ⟨((zep (zmg x) : Int) - 1074).toNat, by omega⟩
    have hs0 : zs x = 0 := by unfold zs; omega
    have hR0 : zRr x = 0 := by
      unfold zRr
      rw [hs0, Nat.pow_zero, Nat.mod_one]
    have hW : zW x = zam (zmg x) * 2 ^ k := by
      unfold zW
      rw [hs0, hk, Int.toNat_natCast, Nat.pow_zero, Nat.div_one]
    obtain ⟨r3, q5, q6⟩ := M_shift 0 ts o cc p q4.1 (a := 3) (x1 := 3) (x2 := pe) (by decide) rfl (p2.trans hk)
    rw [q5, Option.bind_some]
    have hfit : zam (zmg x) * 2 ^ k < mTop := by
      rw [← hW]
      exact mTop_big (Nat.lt_of_lt_of_le hWl (p2le (by decide)))
    rw [hv3, Nat.mod_eq_of_lt hfit] at q6
    exact hgo q6.1 (by rw [q6.2.2 0 (by decide) (by decide), hv0, hR0]) (by rw [q6.2.1, hW]) (fun w => absurd hR0 w)
theorem zwh_no (b W n : Nat) (hb : 2 ≤ b) (hb36 : b ≤ 36) (A : List Int32) : zno (A ++ zwh b W n) 46 := by
  unfold zwh
  by_cases c : n = 0
  · rw [if_pos c]
    exact Or.inr ⟨A, 48, rfl, by decide⟩
  · rw [if_neg c]
    obtain ⟨j, rfl⟩ : ∃ j, n = j + 1 := ⟨n - 1, by omega⟩
    rw [zds_s, ← List.append_assoc]
    exact Or.inr ⟨_, _, rfl, zch_46 (Nat.lt_of_lt_of_le (zle_lt (by omega) W _) hb36)⟩
theorem zsq_no (x : Int64) : zno (zsq x) 48 := by
  unfold zsq
  split
  · exact Or.inr ⟨[], 45, rfl, by decide⟩
  · exact Or.inl rfl
theorem T_radix {x : Int64} (hfin : zmg x < 9218868437227405312) {b : Nat} (hb : 2 ≤ b) (hb36 : b ≤ 36) {x3 : Int32} (h3 : x3.toInt = b) {pc nu : Int32} {pu nl : Nat → Int32} :
    ∃ pc' pu' nu' nl' K n, f_T_writeInRadix pc pu nu nl x x3 = some (pc', pu', nu', nl') ∧ isK b (zs x) (zRr x) K ∧ zln b (zW x) n ∧ pP 1100 pc' pu' (zsq x ++ zwh b (zW x) n ++ zfz (zfd b (zs x) (zRr x)) K) := by
  have e0 : (0 : Int32).toInt = 0 := rfl
  have e62 : (62 : Int32).toInt = 62 := rfl
  have h53 := @zam_lt' (zmg x)
  have hEh := zE_hi hfin
  have hWl := zW_lt hfin
  have hRl := zRr_lt x
  have hsl := zs_le x
  have h53p : (2 : Nat) ^ 53 = 9007199254740992 := by decide
  obtain ⟨pc1, pu1, _, hB⟩ := T_begin pc pu x
  obtain ⟨a1, a2⟩ := hB hfin
  have hql := zsq_len x
  unfold f_T_writeInRadix
  rw [a1, Option.bind_some]
  dsimp only
  rw [if_pos rfl]
  obtain ⟨am, m1, m2⟩ := B_mantissa x
  obtain ⟨pe, p1, p2⟩ := B_exponent x
  rw [m1, Option.bind_some, p1, Option.bind_some]
  have hng : (-pe).toInt = -((zep (zmg x) : Int) - 1074) := by rw [i_neg (by omega), p2]
  have hbel : (if (-pe) < 0 then 0 else (-pe)).toInt = (zs x : Int) := by
    by_cases c : (-pe) < 0
    · rw [if_pos c, e0]
      rw [i_lt, hng, e0] at c
      unfold zs
      omega
    · rw [if_neg c, hng]
      rw [i_lt, hng, e0] at c
      unfold zs
      omega
  generalize (if (-pe) < 0 then 0 else (-pe)) = be at hbel ⊢
  obtain ⟨k, hk⟩ : ∃ k : Nat, k = min 62 (zs x) := ⟨_, rfl⟩
  have hcut : (if 62 < be then 62 else be).toInt = (k : Int) := by
    by_cases c : 62 < be
    · rw [if_pos c, e62]
      rw [i_lt, hbel, e62] at c
      omega
    · rw [if_neg c, hbel]
      rw [i_lt, hbel, e62] at c
      omega
  generalize (if 62 < be then 62 else be) = cu at hcut ⊢
  have hdiv : zam (zmg x) / 2 ^ k = zam (zmg x) / 2 ^ zs x := by
    rcases Nat.lt_or_ge 62 (zs x) with q | q
    · rw [show k = 62 by omega, Nat.div_eq_of_lt (Nat.lt_of_lt_of_le h53 (by decide)), Nat.div_eq_of_lt]
      exact Nat.lt_of_lt_of_le (by omega : zam (zmg x) < 2 ^ 53) (p2le (by omega))
    · rw [show k = zs x by omega]
  have hmod : zam (zmg x) % 2 ^ k = zRr x := by
    unfold zRr
    rcases Nat.lt_or_ge 62 (zs x) with q | q
    · rw [show k = 62 by omega, Nat.mod_eq_of_lt (Nat.lt_of_lt_of_le h53 (by decide)), Nat.mod_eq_of_lt]
      exact Nat.lt_of_lt_of_le (by omega : zam (zmg x) < 2 ^ 53) (p2le (by omega))
    · rw [show k = zs x by omega]
  have hush : (jlushr am cu).toInt = ((zam (zmg x) / 2 ^ zs x : Nat) : Int) := by
    rw [B_ushr hcut (by omega) m2, hdiv]
  have hrest : (am &&& ((jlshl 1 cu) - 1)).toInt = (zRr x : Int) := by
    rcases Nat.eq_zero_or_pos k with q | q
    · have hz : zRr x = 0 := by
        rw [← hmod, q, Nat.pow_zero, Nat.mod_one]
      have hcu : cu = 0 := by rw [i_eq, hcut, q]; rfl
      have : (jlshl 1 cu) - 1 = 0 := by
        rw [hcu]
        decide
      rw [this, hz]
      have : am &&& 0 = 0 := Int64.and_zero
      rw [this]
      rfl
    · rw [B_mask hcut q (by omega) m2, hmod]
  obtain ⟨n1, l1, t1, t2⟩ := N_set (us := nu) (l := nl) (jlushr am cu)
  rw [l_tn hush] at t2
  rw [t1, Option.bind_some]
  dsimp only
  have hWe : zam (zmg x) / 2 ^ zs x * 2 ^ ((zep (zmg x) : Int) - 1074).toNat = zW x := by
    unfold zW
    rcases Int.lt_or_le ((zep (zmg x) : Int) - 1074) 0 with q | q
    · rw [show ((zep (zmg x) : Int) - 1074).toNat = 0 by omega, Nat.pow_zero, Nat.mul_one, Nat.mul_one]
    · have : zs x = 0 := by unfold zs; omega
      rw [this, Nat.pow_zero, Nat.div_one, Nat.div_one]
  obtain ⟨n2, l2, t3, t4⟩ := N_shiftUp t2 (x := pe) (n := ((zep (zmg x) : Int) - 1074).toNat) (by rw [p2]) (by rw [hWe]; exact lt_B48 (Nat.lt_of_lt_of_le hWl (p2le (by decide))))
  rw [hWe] at t4
  rw [t3, Option.bind_some]
  dsimp only
  obtain ⟨pc2, pu2, n3, l3, n, t5, t6, t7⟩ := T_whole hb hb36 hWl h3 t4 (zsq_no x) (by omega) a2
  rw [t5, Option.bind_some]
  dsimp only
  have hcap := zln_cap hb t6 hWl
  have hwl := zwh_len b (zW x) n
  by_cases c : zRr x = 0
  · unfold f_T_addRestInRadix
    rw [if_pos (show am &&& ((jlshl 1 cu) - 1) = 0 by rw [l_eq, hrest, c]; rfl), Option.bind_some]
    refine ⟨pc2, pu2, n3, l3, 0, n, rfl, ⟨by decide, Or.inr c, fun k hk => absurd hk (Nat.not_lt_zero _)⟩, t6, ?_⟩
    show pP 1100 pc2 pu2 (zsq x ++ zwh b (zW x) n ++ [])
    rw [List.append_nil]
    exact t7
  · have hR53 : zRr x < 2 ^ 53 := by
      have : zRr x ≤ zam (zmg x) := Nat.mod_le _ _
      omega
    obtain ⟨pc3, pu3, n4, l4, K, t8, t9, t10⟩ := T_rest (nu := n3) (nl := l3) hb hb36 hRl c hR53 hsl hrest hbel h3 (zwh_no b (zW x) n hb hb36 (zsq x)) (by rw [List.length_append]; omega) t7
    rw [t8, Option.bind_some]
    exact ⟨pc3, pu3, n4, l4, K, n, rfl, t9, t6, t10⟩
