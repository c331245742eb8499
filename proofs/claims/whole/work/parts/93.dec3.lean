/-! decimal texts: the reference's digits -/
theorem M_dig212 (t s o c p : Int32) {r tx : Nat → Int32} {x2 x3 x6 x7 x8 x9 x10 : Int32} {g : Int64} {beh : Bool} {q : Int} (h7 : x7.toInt = q) (hq1 : -100000 < q) (hq2 : q < 100000) (h9 : x9 = if beh = true then 1 else 0) :
    ∃ y7, f_M_readDecimal_212 t s o c p tx r x2 x3 g x6 x7 x8 x9 x10 = some (Sum.inl (r, x3 + 1, x6, y7, x8, x9, x10)) ∧ y7.toInt = (if beh = true then q - 1 else q) := by
  have e1 : (1 : Int32).toInt = 1 := rfl
  unfold f_M_readDecimal_212 f_M_readDecimal_226 f_M_readDecimal_228
  cases beh
  · have h90 : x9 = 0 := h9
    rw [if_pos h90]
    exact ⟨x7, rfl, h7⟩
  · have h91 : ¬ x9 = 0 := by rw [h9]; decide
    rw [if_neg h91]
    refine ⟨_, rfl, ?_⟩
    rw [if_pos rfl, i_sub (by rw [h7, e1]; omega) (by rw [h7, e1]; omega), h7, e1]
theorem M_dig (t s o c p : Int32) {r tx : Nat → Int32} (hr : mOK r) {x2 x3 x6 x7 x8 x9 x10 : Int32} {g : Int64} {S : Nat × Nat × Int} {beh : Bool} {n i : Nat} (hz : zin x3 600) (hcl : x3.toNatClampNeg = i) (hd : zdg (tx i)) (hV : mV r 0 = S.1) (h6 : x6.toInt = (S.2.1 : Int)) (h7 : x7.toInt = S.2.2) (h8 : x8 = if 0 < S.2.1 then 1 else 0) (h9 : x9 = if beh = true then 1 else 0) (hI : dI n S) (hn : n ≤ 10000) :
    ∃ r' y6 y7 y8, f_M_readDecimal_127 t s o c p tx r x2 x3 g x6 x7 x8 x9 x10 = some (Sum.inl (r', x3 + 1, y6, y7, y8, x9, 1)) ∧ mOK r' ∧ mV r' 0 = (dst beh (zdv (tx i)) S).1 ∧ y6.toInt = ((dst beh (zdv (tx i)) S).2.1 : Int) ∧ y7.toInt = (dst beh (zdv (tx i)) S).2.2 ∧ y8 = if 0 < (dst beh (zdv (tx i)) S).2.1 then 1 else 0 := by
  obtain ⟨A, k, q⟩ := S
  obtain ⟨i1, i2, i3, i4, i5⟩ := hI
  dsimp only at hV h6 h7 h8 i1 i2 i3 i4 i5
  have e20 : (20 : Int32).toInt = 20 := rfl
  have e1 : (1 : Int32).toInt = 1 := rfl
  have hd1 := hd.1
  have hd2 := hd.2
  have n46 : ¬ tx i = 46 := by
    intro h
    rw [h] at hd1
    exact absurd hd1 (by decide)
  have hdv := zdv_i hd
  have hd9 := zdv_9 hd
  have h48 : tx i = 48 ↔ zdv (tx i) = 0 := by
    have e48 : (48 : Int32).toInt = 48 := rfl
    rw [i_eq, e48]
    unfold zdv
    omega
  unfold f_M_readDecimal_127
  rw [if_pos hz, hcl, if_neg n46, if_pos hz]
  have some1 : (0 < k ∨ zdv (tx i) ≠ 0) → ∃ r' y6 y7 y8, f_M_readDecimal_163 t s o c p tx r x2 x3 g x6 x7 x9 1 = some (Sum.inl (r', x3 + 1, y6, y7, y8, x9, 1)) ∧ mOK r' ∧ mV r' 0 = (dst beh (zdv (tx i)) (A, k, q)).1 ∧ y6.toInt = ((dst beh (zdv (tx i)) (A, k, q)).2.1 : Int) ∧ y7.toInt = (dst beh (zdv (tx i)) (A, k, q)).2.2 ∧ y8 = if 0 < (dst beh (zdv (tx i)) (A, k, q)).2.1 then 1 else 0 := by
    intro hc
    unfold f_M_readDecimal_163 f_M_readDecimal_168
    rw [if_neg i10]
    by_cases q20 : k = 20
    · subst q20
      rw [if_pos (show (20 : Int32) ≤ x6 by rw [i_le, h6, e20]; omega), dst_20]
      unfold f_M_readDecimal_204
      rw [if_neg i10]
      have h71 : (x7 + 1).toInt = q + 1 := by
        rw [i_add (by rw [h7, e1]; omega) (by rw [h7, e1]; omega), h7, e1]
      obtain ⟨y7, v1, v2⟩ := M_dig212 t s o c p (r := r) (tx := tx) (x2 := x2) (x3 := x3) (x6 := x6) (x8 := 1) (x10 := 1) (g := g) (beh := beh) h71 (by omega) (by omega) h9
      refine ⟨_, _, y7, _, v1, hr, hV, h6, ?_, rfl⟩
      dsimp only
      rw [v2]
      cases beh
      · rw [if_neg (by decide), if_neg (by decide)]
      · rw [if_pos rfl, if_pos rfl]; omega
    · rw [if_neg (show ¬ (20 : Int32) ≤ x6 by rw [i_le, h6, e20]; omega), if_pos hz, hcl, dst_c hc q20]
      obtain ⟨r1, t1, t2, t3, t4⟩ := M_times t s o c p hr (a := 0) (m := 10) (p := zdv (tx i)) (x1 := 0) (x2 := 10) (x3 := tx i - 48) (by decide) rfl rfl hdv
      rw [t1, Option.bind_some]
      obtain ⟨y7, v1, v2⟩ := M_dig212 t s o c p (r := r1) (tx := tx) (x2 := x2) (x3 := x3) (x6 := x6 + 1) (x8 := 1) (x10 := 1) (g := g) (beh := beh) h7 (by omega) (by omega) h9
      have hk1 : k < 20 := by omega
      refine ⟨_, _, y7, _, v1, t2, ?_, i_suc h6 (by omega), v2, ?_⟩
      · dsimp only
        rw [t3, hV, Nat.mul_comm A 10, Nat.mod_eq_of_lt]
        apply mTop_big
        have a1 : 10 ^ k ≤ 10 ^ 20 := p10le (by omega)
        have a2 : 10 ^ 21 < 2 ^ 2400 := by decide +kernel
        have a3 : (10 : Nat) ^ 21 = 10 * 10 ^ 20 := by decide
        generalize (2 : Nat) ^ 2400 = Z at a2 ⊢
        generalize (10 : Nat) ^ 20 = Y at a1 a3
        generalize (10 : Nat) ^ 21 = X at a2 a3
        generalize (10 : Nat) ^ k = W at a1 i2
        omega
      · dsimp only
        rw [if_pos (Nat.succ_pos _)]
  by_cases hk : 0 < k
  · have h81 : ¬ x8 = 0 := by rw [h8, if_pos hk]; decide
    rw [if_neg h81]
    exact some1 (Or.inl hk)
  · have h80 : x8 = 0 := by rw [h8, if_neg hk]
    rw [if_pos h80]
    by_cases hz0 : zdv (tx i) = 0
    · have hk0 : k = 0 := by omega
      subst hk0
      rw [if_pos (h48.mpr hz0), hz0, dst_z]
      unfold f_M_readDecimal_168 f_M_readDecimal_204
      rw [if_pos rfl, if_pos rfl]
      obtain ⟨y7, v1, v2⟩ := M_dig212 t s o c p (r := r) (tx := tx) (x2 := x2) (x3 := x3) (x6 := x6) (x8 := 0) (x10 := 1) (g := g) (beh := beh) h7 (by omega) (by omega) h9
      exact ⟨_, _, y7, _, v1, hr, hV, h6, v2, rfl⟩
    · rw [if_neg (fun w => hz0 (h48.mp w))]
      exact some1 (Or.inr hz0)
/-- where the digits end: the place, amount and power, how many there are -/
def dEnd (tx : Nat → Int32) (e f a b P : Nat) (S : Nat × Nat × Int) (n : Nat) : Prop :=
  zrn tx e f a ∧ (((f + a < e ∧ tx (f + a) = 46) ∧ zrn tx e (f + a + 1) b ∧ P = f + a + 1 + b ∧ S = dF true tx (f + a + 1) (dF false tx f (0, 0, 0) a) b ∧ n = a + b) ∨ (¬ (f + a < e ∧ tx (f + a) = 46) ∧ P = f + a ∧ S = dF false tx f (0, 0, 0) a ∧ n = a))
theorem M_dec94 (t s o c p : Int32) {tx : Nat → Int32} {x2 : Int32} {e : Nat} (he : x2.toInt = e) (h600 : e ≤ 600) {x3 : Int32} {f a b P n : Nat} {S : Nat × Nat × Int} (hx3 : x3.toInt = f) (hE : dEnd tx e f a b P S n) {r : Nat → Int32} (hr : mOK r) (hv0 : mV r 0 = 0) (g : Int64) {d : Int64}
    (hend : ∀ r' y3 y7, mOK r' → mV r' 0 = S.1 → y3.toInt = (P : Int) → y7.toInt = S.2.2 → ∃ r'', f_M_readDecimal_234 t s o c p tx r' x2 y3 g y7 (if 0 < n then 1 else 0) = some (d, r'') ∧ mOK r'') :
    ∃ r'', f_M_readDecimal_94 t s o c p tx r x2 x3 g 0 0 0 0 0 = some (d, r'') ∧ mOK r'' := by
  have n46 : ¬ zdg (46 : Int32) := fun h => absurd h.1 (by decide)
  obtain ⟨ha, hab⟩ := hE
  unfold f_M_readDecimal_94
  obtain ⟨⟨d', r'⟩, h1, h2, h3⟩ := zrun_inv (step := f_M_readDecimal_94_step t s o c p tx x2 g) (x := (r, x3, 0, 0, 0, 0, 0)) (fun z => mOK z.1 ∧ ∃ (beh : Bool) (k w : Nat) (T : Nat × Nat × Int), ((beh = false ∧ k ≤ a ∧ z.2.1.toInt = ((f + k : Nat) : Int) ∧ T = dF false tx f (0, 0, 0) k ∧ w = k) ∨ (beh = true ∧ (f + a < e ∧ tx (f + a) = 46) ∧ k ≤ b ∧ z.2.1.toInt = ((f + a + 1 + k : Nat) : Int) ∧ T = dF true tx (f + a + 1) (dF false tx f (0, 0, 0) a) k ∧ w = a + k)) ∧ mV z.1 0 = T.1 ∧ z.2.2.1.toInt = (T.2.1 : Int) ∧ z.2.2.2.1.toInt = T.2.2 ∧ z.2.2.2.2.1 = (if 0 < T.2.1 then 1 else 0) ∧ z.2.2.2.2.2.1 = (if beh = true then 1 else 0) ∧ z.2.2.2.2.2.2 = (if 0 < w then 1 else 0)) (fun z => (e - z.2.1.toInt).toNat)
    (fun y => y.1 = d ∧ mOK y.2) (by
      rintro ⟨q, y3, y6, y7, y8, y9, y10⟩ ⟨hq, beh, k, w, T, hph, hV, h6, h7, h8, h9, h10⟩
      dsimp only at hq hph hV h6 h7 h8 h9 h10
      unfold f_M_readDecimal_94_step f_M_readDecimal_94_body
      dsimp only
      rcases hph with ⟨hb, hk, hy3, hT, hw⟩ | ⟨hb, hdot, hk, hy3, hT, hw⟩
      · subst hb
        by_cases ck : k < a
        · have hdg := ha.1 k ck
          have hlt : f + k < e := by have := ha.2.1; omega
          have hz : zin y3 600 := ⟨by omega, by omega⟩
          have hcl : y3.toNatClampNeg = f + k := by rw [i_cl, hy3, Int.toNat_natCast]
          have hI := dI_F (beh := false) (tx := tx) (f := f) dI_0 (k := k) (fun i hi => ha.1 i (by omega))
          rw [← hT] at hI
          obtain ⟨r1, z6, z7, z8, t1, t2, t3, t4, t5, t6⟩ := M_dig t s o c p (tx := tx) (x2 := x2) (x10 := y10) (g := g) (beh := false) hq hz hcl hdg hV h6 h7 h8 h9 hI (by omega)
          have hmu : ((e : Int) - ((f + (k + 1) : Nat) : Int)).toNat < ((e : Int) - ((f + k : Nat) : Int)).toNat := by omega
          have hs : (y3 + 1).toInt = ((f + (k + 1) : Nat) : Int) := i_suc (k := f + k) hy3 (by omega)
          rw [if_neg (show ¬ x2 ≤ y3 by rw [i_le, he, hy3]; clear hs; omega), if_pos hz, hcl, dg_M1 hdg, Option.bind_some, if_neg i10, t1]
          rw [hT] at t3 t4 t5 t6
          refine Or.inl ⟨_, rfl, ⟨t2, false, k + 1, k + 1, _, Or.inl ⟨rfl, ck, hs, rfl, rfl⟩, t3, t4, t5, t6, h9, ?_⟩, ?_⟩
          · rw [if_pos (Nat.succ_pos _)]
          · dsimp only
            rw [hs, hy3]
            exact hmu
        · have hka : k = a := by omega
          subst hka
          rcases hab with ⟨hdot, hzb, hP, hS, hn⟩ | ⟨hdot, hP, hS, hn⟩
          · have hz : zin y3 600 := ⟨by omega, by omega⟩
            have hcl : y3.toNatClampNeg = f + k := by rw [i_cl, hy3, Int.toNat_natCast]
            have hd0 : ¬ zdg (tx (f + k)) := by rw [hdot.2]; exact n46
            have h90 : y9 = 0 := h9
            have hmu : ((e : Int) - ((f + k + 1 + 0 : Nat) : Int)).toNat < ((e : Int) - ((f + k : Nat) : Int)).toNat := by have := hdot.1; omega
            have hs : (y3 + 1).toInt = ((f + k + 1 + 0 : Nat) : Int) := i_suc (k := f + k) hy3 (by have := hdot.1; omega)
            rw [if_neg (show ¬ x2 ≤ y3 by rw [i_le, he, hy3]; have := hdot.1; clear hs; omega), if_pos hz, hcl, dg_M0 hd0, Option.bind_some, if_pos rfl, if_pos hz, if_pos hdot.2, if_pos h90]
            unfold f_M_readDecimal_127 f_M_readDecimal_228
            rw [if_pos hz, hcl, if_pos hdot.2]
            refine Or.inl ⟨_, rfl, ⟨hq, true, 0, k, T, Or.inr ⟨rfl, hdot, Nat.zero_le _, hs, hT, rfl⟩, hV, h6, h7, h8, rfl, ?_⟩, ?_⟩
            · dsimp only
              rw [h10, hw]
            · dsimp only
              rw [hs, hy3]
              exact hmu
          · obtain ⟨r2, u1, u2⟩ := hend q y3 y7 hq (by rw [hV, hT, hS]) (by rw [hy3, hP]) (by rw [h7, hT, hS])
            rw [hn, ← hw, ← h10] at u1
            by_cases ce : f + k < e
            · have hz : zin y3 600 := ⟨by omega, by omega⟩
              have hcl : y3.toNatClampNeg = f + k := by rw [i_cl, hy3, Int.toNat_natCast]
              have hd0 := ha.2.2 ce
              have hn46 : ¬ tx (f + k) = 46 := fun h => hdot ⟨ce, h⟩
              rw [if_neg (show ¬ x2 ≤ y3 by rw [i_le, he, hy3]; omega), if_pos hz, hcl, dg_M0 hd0, Option.bind_some, if_pos rfl, if_pos hz, if_neg hn46, u1]
              exact Or.inr ⟨_, rfl, rfl, u2⟩
            · rw [if_pos (show x2 ≤ y3 by rw [i_le, he, hy3]; omega), u1]
              exact Or.inr ⟨_, rfl, rfl, u2⟩
      · subst hb
        rcases hab with ⟨_, hzb, hP, hS, hn⟩ | ⟨hno, _⟩
        · by_cases ck : k < b
          · have hdg := hzb.1 k ck
            have hlt : f + a + 1 + k < e := by have := hzb.2.1; omega
            have hz : zin y3 600 := ⟨by omega, by omega⟩
            have hcl : y3.toNatClampNeg = f + a + 1 + k := by rw [i_cl, hy3, Int.toNat_natCast]
            have hI0 := dI_F (beh := false) (tx := tx) (f := f) dI_0 (k := a) ha.1
            have hI := dI_F (beh := true) (tx := tx) (f := f + a + 1) hI0 (k := k) (fun i hi => hzb.1 i (by omega))
            rw [← hT] at hI
            obtain ⟨r1, z6, z7, z8, t1, t2, t3, t4, t5, t6⟩ := M_dig t s o c p (tx := tx) (x2 := x2) (x10 := y10) (g := g) (beh := true) hq hz hcl hdg hV h6 h7 h8 h9 hI (by omega)
            have hmu : ((e : Int) - ((f + a + 1 + (k + 1) : Nat) : Int)).toNat < ((e : Int) - ((f + a + 1 + k : Nat) : Int)).toNat := by omega
            have hs : (y3 + 1).toInt = ((f + a + 1 + (k + 1) : Nat) : Int) := i_suc (k := f + a + 1 + k) hy3 (by omega)
            rw [if_neg (show ¬ x2 ≤ y3 by rw [i_le, he, hy3]; clear hs; omega), if_pos hz, hcl, dg_M1 hdg, Option.bind_some, if_neg i10, t1]
            rw [hT] at t3 t4 t5 t6
            refine Or.inl ⟨_, rfl, ⟨t2, true, k + 1, a + (k + 1), _, Or.inr ⟨rfl, hdot, ck, hs, rfl, rfl⟩, t3, t4, t5, t6, h9, ?_⟩, ?_⟩
            · rw [if_pos (show 0 < a + (k + 1) by omega)]
            · dsimp only
              rw [hs, hy3]
              exact hmu
          · have hkb : k = b := by omega
            subst hkb
            obtain ⟨r2, u1, u2⟩ := hend q y3 y7 hq (by rw [hV, hT, hS]) (by rw [hy3, hP]) (by rw [h7, hT, hS])
            rw [hn, ← hw, ← h10] at u1
            have h91 : ¬ y9 = 0 := by rw [h9]; decide
            by_cases ce : f + a + 1 + k < e
            · have hz : zin y3 600 := ⟨by omega, by omega⟩
              have hcl : y3.toNatClampNeg = f + a + 1 + k := by rw [i_cl, hy3, Int.toNat_natCast]
              have hd0 := hzb.2.2 ce
              rw [if_neg (show ¬ x2 ≤ y3 by rw [i_le, he, hy3]; omega), if_pos hz, hcl, dg_M0 hd0, Option.bind_some, if_pos rfl, if_pos hz]
              by_cases h46 : tx (f + a + 1 + k) = 46
              · rw [if_pos h46, if_neg h91, u1]
                exact Or.inr ⟨_, rfl, rfl, u2⟩
              · rw [if_neg h46, u1]
                exact Or.inr ⟨_, rfl, rfl, u2⟩
            · rw [if_pos (show x2 ≤ y3 by rw [i_le, he, hy3]; omega), u1]
              exact Or.inr ⟨_, rfl, rfl, u2⟩
        · exact absurd hdot hno) ⟨hr, false, 0, 0, (0, 0, 0), Or.inl ⟨rfl, Nat.zero_le _, hx3, rfl, rfl⟩, hv0, rfl, rfl, rfl, rfl, rfl⟩
  dsimp only at h2 h3
  exact ⟨r', by rw [h1, h2], h3⟩
