/-! hexadecimal texts -/
theorem hx_ex (c : Int32) : ∃ d, f_M_hexadecimal c = some d ∧ (d.toInt = -1 ∨ (0 ≤ d.toInt ∧ d.toInt < 16)) := by
  have e48 : (48 : Int32).toInt = 48 := rfl
  have e57 : (57 : Int32).toInt = 57 := rfl
  have e65 : (65 : Int32).toInt = 65 := rfl
  have e70 : (70 : Int32).toInt = 70 := rfl
  have e97 : (97 : Int32).toInt = 97 := rfl
  have e102 : (102 : Int32).toInt = 102 := rfl
  have e10 : (10 : Int32).toInt = 10 := rfl
  have h36 : ∃ d, f_M_hexadecimal_36 c = some d ∧ (d.toInt = -1 ∨ (0 ≤ d.toInt ∧ d.toInt < 16)) := by
    unfold f_M_hexadecimal_36
    by_cases h1 : c < 65
    · rw [if_pos h1]; exact ⟨_, rfl, Or.inl rfl⟩
    · rw [if_neg h1]
      by_cases h2 : 70 < c
      · rw [if_pos h2]; exact ⟨_, rfl, Or.inl rfl⟩
      · rw [if_neg h2]
        rw [i_lt, e65] at h1
        rw [i_lt, e70] at h2
        have a1 : (c - 65).toInt = c.toInt - 65 := by rw [i_sub, e65] <;> (try rw [e65]) <;> omega
        have a2 : (c - 65 + 10).toInt = c.toInt - 65 + 10 := by rw [i_add, a1, e10] <;> (try rw [a1, e10]) <;> omega
        exact ⟨_, rfl, Or.inr (by rw [a2]; omega)⟩
  unfold f_M_hexadecimal f_M_isDigit
  by_cases h1 : c < 48
  · rw [if_pos h1, Option.bind_some, if_pos rfl]
    have h97 : c < 97 := by rw [i_lt, e48] at h1; rw [i_lt, e97]; omega
    rw [if_pos h97]
    exact h36
  · rw [if_neg h1]
    by_cases h2 : 57 < c
    · rw [if_pos h2, Option.bind_some, if_pos rfl]
      by_cases h3 : c < 97
      · rw [if_pos h3]; exact h36
      · rw [if_neg h3]
        by_cases h4 : 102 < c
        · rw [if_pos h4]; exact h36
        · rw [if_neg h4]
          rw [i_lt, e97] at h3
          rw [i_lt, e102] at h4
          have a1 : (c - 97).toInt = c.toInt - 97 := by rw [i_sub, e97] <;> (try rw [e97]) <;> omega
          have a2 : (c - 97 + 10).toInt = c.toInt - 97 + 10 := by rw [i_add, a1, e10] <;> (try rw [a1, e10]) <;> omega
          exact ⟨_, rfl, Or.inr (by rw [a2]; omega)⟩
    · rw [if_neg h2, Option.bind_some, if_neg i10]
      rw [i_lt, e48] at h1
      rw [i_lt, e57] at h2
      have a1 : (c - 48).toInt = c.toInt - 48 := by rw [i_sub, e48] <;> (try rw [e48]) <;> omega
      exact ⟨_, rfl, Or.inr (by rw [a1]; omega)⟩
noncomputable def zhx (c : Int32) : Int32 := (f_M_hexadecimal c).getD 0
theorem hx_M (c : Int32) : f_M_hexadecimal c = some (zhx c) := by
  obtain ⟨d, h, _⟩ := hx_ex c
  unfold zhx
  rw [h]
  rfl
theorem hx_R (c : Int32) : f_R_hexadecimalDigit c = some (zhx c) := hx_M c
theorem hx_rng (c : Int32) : (zhx c).toInt = -1 ∨ (0 ≤ (zhx c).toInt ∧ (zhx c).toInt < 16) := by
  obtain ⟨d, h, g⟩ := hx_ex c
  have : zhx c = d := by unfold zhx; rw [h]; rfl
  rw [this]
  exact g
noncomputable def hF (tx : Nat → Int32) (f : Nat) : Nat → Nat
  | 0 => 0
  | k + 1 => 16 * hF tx f k + (zhx (tx (f + k))).toInt.toNat
def hG (tx : Nat → Int32) (f k : Nat) : Prop := ∀ i, i < k → 0 ≤ (zhx (tx (f + i))).toInt
theorem ztr_hex {F d j : Nat} (hd : d < 16) : ztr (16 * F + d) (2 ^ (4 * (j + 1))) = if d = 0 then ztr F (2 ^ (4 * j)) else ztr F (2 ^ (4 * j)) / 2 * 2 + 1 := by
  have hp := p2pos (4 * j)
  have e : 2 ^ (4 * (j + 1)) = 16 * 2 ^ (4 * j) := by rw [show 4 * (j + 1) = 4 + 4 * j by omega, Nat.pow_add]
  have hq : (16 * F + d) / (16 * 2 ^ (4 * j)) = F / 2 ^ (4 * j) := by
    rw [← Nat.div_div_eq_div_mul, show (16 * F + d) / 16 = F by omega]
  have hm : (16 * F + d) % (16 * 2 ^ (4 * j)) = d + 16 * (F % 2 ^ (4 * j)) := by
    rw [Nat.mod_mul, show (16 * F + d) / 16 = F by omega, show (16 * F + d) % 16 = d by omega]
  unfold ztr
  rw [e, hq, hm]
  generalize F / 2 ^ (4 * j) = q
  generalize F % 2 ^ (4 * j) = r
  by_cases c1 : d = 0
  · rw [if_pos c1]
    by_cases c2 : r = 0
    · rw [if_pos (by omega), if_pos c2]
    · rw [if_neg (by omega), if_neg c2]
  · rw [if_neg c1, if_neg (by omega)]
    by_cases c2 : r = 0
    · rw [if_pos c2]
    · rw [if_neg c2]
      omega
theorem div_hex {F d j : Nat} (hd : d < 16) : (16 * F + d) / 2 ^ (4 * (j + 1)) = F / 2 ^ (4 * j) := by
  rw [show 4 * (j + 1) = 4 + 4 * j by omega, Nat.pow_add, ← Nat.div_div_eq_div_mul, show (16 * F + d) / 2 ^ 4 = F by show (16 * F + d) / 16 = F; omega]
theorem ztr_ge (x y : Nat) : x / y ≤ ztr x y := by
  unfold ztr
  split <;> omega
theorem R_hex25 (c1 c2 c4 c5 : Int32) {en : Int32} {tx : Nat → Int32} {x4 : Int32} {f m : Nat} (he : en.toInt = ((f + m : Nat) : Int)) (h600 : f + m ≤ 600) (h4 : x4.toInt = f) :
    ∃ d, f_R_hexadecimal_25 c1 c2 en c4 c5 tx 0 0 x4 = some d ∧ (hG tx f m → d = lN (zq (hF tx f m) 1 1074)) ∧ (¬ hG tx f m → d = 9221120237041090560) := by
  have e0 : (0 : Int32).toInt = 0 := rfl
  have e4 : (4 : Int32).toInt = 4 := rfl
  unfold f_R_hexadecimal_25
  refine zrun_inv (step := f_R_hexadecimal_25_step c1 c2 en c4 c5 tx) (x := (0, 0, x4)) (fun z => ∃ k j : Nat, k ≤ m ∧ z.2.2.toInt = ((f + k : Nat) : Int) ∧ hG tx f k ∧ z.1.toInt = (ztr (hF tx f k) (2 ^ (4 * j)) : Int) ∧ z.2.1.toInt = ((4 * j : Nat) : Int) ∧ j ≤ k ∧ (0 < j → 288230376151711744 ≤ hF tx f k / 2 ^ (4 * j)) ∧ hF tx f k / 2 ^ (4 * j) < 4611686018427387904) (fun z => (f + m - z.2.2.toInt).toNat)
    (fun d => (hG tx f m → d = lN (zq (hF tx f m) 1 1074)) ∧ (¬ hG tx f m → d = 9221120237041090560)) ?_ ⟨0, 0, by omega, by rw [Nat.add_zero]; exact h4, fun i hi => absurd hi (Nat.not_lt_zero _), by
      show (0 : Int) = (ztr 0 (2 ^ (4 * 0)) : Int)
      rfl, rfl, by omega, fun h => absurd h (Nat.lt_irrefl _), by
      show 0 / 2 ^ (4 * 0) < _
      rw [Nat.zero_div]; decide⟩
  rintro ⟨K, x3, y4⟩ ⟨k, j, hk, hy, hg, hK, hx3, hjk, hlo, hhi⟩
  dsimp only at hy hK hx3
  unfold f_R_hexadecimal_25_step f_R_hexadecimal_25_body
  dsimp only
  by_cases c : k = m
  · subst c
    rw [if_pos (show en ≤ y4 by rw [i_le, he, hy]; omega)]
    unfold f_R_hexadecimal_96
    have hE : x3.toInt = ((1074 : Int) + 4 * j) - 1074 := by rw [hx3]; omega
    rw [B_round' hK hE (by omega) (by omega), Option.bind_some, zero_or64]
    refine Or.inr ⟨_, rfl, fun _ => ?_, fun h => absurd hg h⟩
    rw [zrd_tr (p2pos _)]
    · have h := zq_pow (hF tx f k) 1 0 (4 * j) ((1074 : Int) + 4 * j)
      rw [Nat.pow_zero, Nat.mul_one, Nat.one_mul] at h
      rw [h]
      congr 2
      omega
    · intro hne
      rcases Nat.eq_zero_or_pos j with q | q
      · rw [q, Nat.mul_zero, Nat.pow_zero, Nat.mod_one] at hne
        exact absurd rfl hne
      · have := zlen_gt (k := 58) (hlo q)
        omega
  · rw [if_neg (show ¬ en ≤ y4 by rw [i_le, he, hy]; omega)]
    unfold f_R_unitAt
    rw [if_neg (show ¬ y4 < 0 by rw [i_lt, hy, e0]; omega), if_neg (show ¬ en ≤ y4 by rw [i_le, he, hy]; omega), if_pos (show zin y4 600 from ⟨by omega, by omega⟩), Option.bind_some, hx_R, Option.bind_some, i_cl, hy, Int.toNat_natCast]
    rcases hx_rng (tx (f + k)) with hb | hb
    · rw [if_neg (show ¬ 0 ≤ zhx (tx (f + k)) by rw [i_le, hb, e0]; omega)]
      refine Or.inr ⟨_, rfl, fun h => ?_, fun _ => rfl⟩
      have := h k (by omega)
      omega
    · rw [if_pos (show 0 ≤ zhx (tx (f + k)) by rw [i_le, e0]; exact hb.1)]
      obtain ⟨d, hd⟩ : ∃ d : Nat, (zhx (tx (f + k))).toInt = d := ⟨(zhx (tx (f + k))).toInt.toNat, by omega⟩
      have hd16 : d < 16 := by omega
      have hFs : hF tx f (k + 1) = 16 * hF tx f k + d := by
        show 16 * hF tx f k + (zhx (tx (f + k))).toInt.toNat = _
        rw [hd, Int.toNat_natCast]
      have hgs : hG tx f (k + 1) := by
        intro i hi
        by_cases ci : i = k
        · subst ci; exact hb.1
        · exact hg i (by omega)
      have hs : (y4 + 1).toInt = ((f + (k + 1) : Nat) : Int) := i_suc (k := f + k) hy (by omega)
      have hle := ztr_le (hF tx f k) (2 ^ (4 * j))
      have hge := ztr_ge (hF tx f k) (2 ^ (4 * j))
      have hu := B_ushr (s := 58) (o := 58) rfl (by decide) hK
      unfold f_R_hexadecimal_86 f_R_hexadecimal_90
      by_cases c58 : ztr (hF tx f k) (2 ^ (4 * j)) < 288230376151711744
      · have hj : j = 0 := by
          rcases Nat.eq_zero_or_pos j with q | q
          · exact q
          · have := hlo q; omega
        subst hj
        have hKF : ztr (hF tx f k) (2 ^ (4 * 0)) = hF tx f k := by
          unfold ztr
          rw [Nat.mul_zero, Nat.pow_zero, Nat.mod_one, if_pos rfl, Nat.div_one]
        rw [hKF] at hK c58 hu
        rw [if_pos (show jlushr K 58 = 0 by rw [l_eq, hu, Nat.div_eq_of_lt (show hF tx f k < 2 ^ 58 from c58)]; rfl)]
        have hsh : (jlshl K 4).toInt = ((2 ^ 4 * hF tx f k : Nat) : Int) := by
          have e : K.toInt * ((2 ^ 4 : Nat) : Int) = ((2 ^ 4 * hF tx f k : Nat) : Int) := by rw [hK, Nat.mul_comm]; exact (Int.natCast_mul _ _).symm
          exact (l_shl (n := 4) rfl (by decide) (by rw [e]; omega) (by rw [e]; omega)).trans e
        have hor : (jlshl K 4 ||| (zhx (tx (f + k))).toInt64).toInt = ((16 * hF tx f k + d : Nat) : Int) := by
          rw [l_or 4 (hF tx f k) d hsh (by rw [i2l, hd]) hd16, hsh, i2l, hd]
          exact (Int.natCast_add _ _).symm
        refine Or.inl ⟨_, rfl, ⟨k + 1, 0, by omega, hs, hgs, ?_, hx3, by omega, fun h => absurd h (Nat.lt_irrefl _), ?_⟩, by dsimp only; rw [hs]; (try rw [hy]); clear hs hy; omega⟩
        · dsimp only
          rw [hor, hFs]
          unfold ztr
          rw [Nat.mul_zero, Nat.pow_zero, Nat.mod_one, if_pos rfl, Nat.div_one]
        · rw [hFs, Nat.mul_zero, Nat.pow_zero, Nat.div_one]
          omega
      · have hup : ¬ ztr (hF tx f k) (2 ^ (4 * j)) / 2 ^ 58 = 0 := by
          intro h
          rcases Nat.div_eq_zero_iff.mp h with q | q
          · exact absurd q (by decide)
          · exact c58 q
        rw [if_neg (show ¬ jlushr K 58 = 0 by rw [l_eq, hu]; show ¬ _ = (0 : Int); omega)]
        have hx4 : (x3 + 4).toInt = ((4 * (j + 1) : Nat) : Int) := by rw [i_add, hx3, e4] <;> (try rw [hx3, e4]) <;> omega
        have hlo' : 288230376151711744 ≤ hF tx f k / 2 ^ (4 * j) := by
          rcases Nat.eq_zero_or_pos j with q | q
          · subst q
            have hKF : ztr (hF tx f k) (2 ^ (4 * 0)) = hF tx f k / 2 ^ (4 * 0) := by
              unfold ztr
              rw [Nat.mul_zero, Nat.pow_zero, Nat.mod_one, if_pos rfl]
            rw [hKF] at c58
            omega
          · exact hlo q
        have hK' : (if d = 0 then K else K ||| 1).toInt = (ztr (hF tx f (k + 1)) (2 ^ (4 * (j + 1))) : Int) := by
          rw [hFs, ztr_hex hd16]
          by_cases cd : d = 0
          · rw [if_pos cd, if_pos cd, hK]
          · rw [if_neg cd, if_neg cd, l_or1 hK]
        have hcond : (zhx (tx (f + k)) = 0) ↔ d = 0 := by
          rw [i_eq, hd, e0]
          omega
        have fin : ∀ s0 : Int64, s0 = (if d = 0 then K else K ||| 1) → ∃ y, some (Sum.inl (β := Int64) (s0, x3 + 4, y4 + 1)) = some (Sum.inl y) ∧ (∃ k j : Nat, k ≤ m ∧ y.2.2.toInt = ((f + k : Nat) : Int) ∧ hG tx f k ∧ y.1.toInt = (ztr (hF tx f k) (2 ^ (4 * j)) : Int) ∧ y.2.1.toInt = ((4 * j : Nat) : Int) ∧ j ≤ k ∧ (0 < j → 288230376151711744 ≤ hF tx f k / 2 ^ (4 * j)) ∧ hF tx f k / 2 ^ (4 * j) < 4611686018427387904) ∧ (f + m - y.2.2.toInt).toNat < (f + m - ((f + k : Nat) : Int)).toNat := by
          intro s0 hs0
          refine ⟨_, rfl, ⟨k + 1, j + 1, by omega, hs, hgs, by rw [hs0]; exact hK', hx4, by omega, fun _ => ?_, ?_⟩, by dsimp only; rw [hs]; (try rw [hy]); clear hs hy; omega⟩
          · rw [hFs, div_hex hd16]; exact hlo'
          · rw [hFs, div_hex hd16]; exact hhi
        left
        by_cases cd : d = 0
        · rw [if_pos (hcond.mpr cd)]
          exact fin K (by rw [if_pos cd])
        · rw [if_neg (fun q => cd (hcond.mp q))]
          exact fin (K ||| 1) (by rw [if_neg cd])
