/-! decimal texts: class and reference -/
theorem zq_0 (y : Nat) : zq 0 y 1074 = 0 := by
  rw [zq_1074, Nat.zero_mul, zRB_0]
theorem zq_same {A : Nat} {p1 p2 : Int} (hA : A < 10 ^ 20) (h : p1 = p2 ∨ (400 ≤ p1 ∧ 400 ≤ p2) ∨ (p1 ≤ -400 ∧ p2 ≤ -400)) : zq (A * 10 ^ p1.toNat) (10 ^ (-p1).toNat) 1074 = zq (A * 10 ^ p2.toNat) (10 ^ (-p2).toNat) 1074 := by
  rcases h with h | h | h
  · rw [h]
  · by_cases c : A = 0
    · rw [c, Nat.zero_mul, Nat.zero_mul, zq_0, zq_0]
    · have big : ∀ p : Int, 400 ≤ p → zq (A * 10 ^ p.toNat) (10 ^ (-p).toNat) 1074 = 9218868437227405312 := by
        intro p hp
        rw [show (-p).toNat = 0 by omega, Nat.pow_zero]
        apply zq_huge
        have a1 : 10 ^ 309 ≤ 10 ^ p.toNat := p10le (by omega)
        exact Nat.le_trans a1 (Nat.le_mul_of_pos_left _ (Nat.pos_of_ne_zero c))
      rw [big p1 h.1, big p2 h.2]
  · have tiny : ∀ p : Int, p ≤ -400 → zq (A * 10 ^ p.toNat) (10 ^ (-p).toNat) 1074 = 0 := by
      intro p hp
      rw [show p.toNat = 0 by omega, Nat.pow_zero, Nat.mul_one]
      exact zq_tiny hA (by omega)
    rw [tiny p1 h.1, tiny p2 h.2]
theorem M_dec270 (t s o c p : Int32) {tx r : Nat → Int32} {x2 x3 x7 : Int32} {g : Int64} {e P : Nat} (he : x2.toInt = e) (h600 : e ≤ 600) (hx3 : x3.toInt = P) (hP : P < e) :
    ∃ s0 : Int32, f_M_readDecimal_270 t s o c p tx r x2 x3 g x7 = f_M_readDecimal_331 t s o c p tx r x2 g x7 (if zun tx e (P + 1) = 45 then 1 else 0) s0 ∧ s0.toInt = (zpe tx e P : Int) := by
  have h1 : (x3 + 1).toInt = ((P + 1 : Nat) : Int) := i_suc hx3 (by omega)
  have e2 : (2 : Int32).toInt = 2 := rfl
  have h2 : (x3 + 2).toInt = ((P + 2 : Nat) : Int) := by
    clear h1
    rw [i_add (by rw [hx3, e2]; omega) (by rw [hx3, e2]; omega), hx3, e2]
    omega
  unfold f_M_readDecimal_270 f_M_readDecimal_294 f_M_readDecimal_295 f_M_readDecimal_322 f_M_readDecimal_328
  unfold zpe zsn zun
  clear hx3
  generalize x3 + 1 = y1 at h1 ⊢
  generalize x3 + 2 = y2 at h2 ⊢
  by_cases c1 : P + 1 < e
  · have hz : zin y1 600 := ⟨by omega, by omega⟩
    have hcl : y1.toNatClampNeg = P + 1 := by rw [i_cl, h1, Int.toNat_natCast]
    rw [if_neg (show ¬ x2 ≤ y1 by rw [i_le, he, h1]; omega), if_pos hz, hcl, if_pos c1]
    by_cases c45 : tx (P + 1) = 45
    · rw [if_pos c45, if_neg (show ¬ x2 ≤ y1 by rw [i_le, he, h1]; omega), if_neg i10, if_pos c45, if_pos (Or.inr c45)]
      exact ⟨y2, rfl, h2⟩
    · rw [if_neg c45, if_neg (show ¬ x2 ≤ y1 by rw [i_le, he, h1]; omega), if_pos rfl, if_pos hz, if_neg c45]
      by_cases c43 : tx (P + 1) = 43
      · rw [if_pos c43, if_pos (Or.inl c43)]
        exact ⟨y2, rfl, h2⟩
      · rw [if_neg c43, if_neg (show ¬ (tx (P + 1) = 43 ∨ tx (P + 1) = 45) from fun h => h.elim c43 c45)]
        exact ⟨y1, rfl, h1⟩
  · have hle : x2 ≤ y1 := by rw [i_le, he, h1]; omega
    rw [if_pos hle, if_pos hle, if_neg c1, if_neg (by decide), if_neg (by decide)]
    exact ⟨y1, rfl, h1⟩
theorem dI_1 {n : Nat} {S : Nat × Nat × Int} (h : dI n S) : S.1 < 10 ^ 20 ∧ (S.1 ≠ 0 → 0 < S.2.1 ∧ 10 ^ (S.2.1 - 1) ≤ S.1) := by
  obtain ⟨h1, h2, h3, _, _⟩ := h
  refine ⟨Nat.lt_of_lt_of_le h2 (p10le h1), fun hne => ?_⟩
  have hc : 0 < S.2.1 := by
    rcases Nat.eq_zero_or_pos S.2.1 with q | q
    · rw [q, Nat.pow_zero] at h2
      omega
    · exact q
  exact ⟨hc, h3 hc⟩
theorem M_dec416 (t s o c p : Int32) {tx r : Nat → Int32} (hr : mOK r) {x2 x3 x7 : Int32} {g : Int64} {e P n : Nat} {S : Nat × Nat × Int} {q : Int} (he : x2.toInt = e) (hx3 : x3.toInt = P) (hP : P ≤ e) (hV : mV r 0 = S.1) (h7 : x7.toInt = q) (hI : dI n S) :
    ∃ r', f_M_readDecimal_416 t s o c p tx r x2 x3 g x7 = some (if P = e then g ||| lN (zq (S.1 * 10 ^ q.toNat) (10 ^ (-q).toNat) 1074) else 9221120237041090560, r') ∧ mOK r' := by
  unfold f_M_readDecimal_416
  by_cases ce : P = e
  · rw [if_pos (show x2 ≤ x3 by rw [i_le, he, hx3]; omega), if_pos ce]
    have hd := dI_1 hI
    obtain ⟨r', u1, u2⟩ := M_scaledByTens t s o c p hr g h7 hI.1 (by rw [hV]; exact hI.2.1) (by rw [hV]; exact hd.2)
    rw [u1, Option.bind_some, hV]
    exact ⟨r', rfl, u2⟩
  · rw [if_neg (show ¬ x2 ≤ x3 by rw [i_le, he, hx3]; omega), if_neg ce]
    exact ⟨r, rfl, hr⟩
theorem same_dec (c1 t s o c p : Int32) {tx nl dl : Nat → Int32} {en at' cn pw nu du : Int32} {e f : Nat} (he : en.toInt = e) (h600 : e ≤ 600) (hat : at'.toInt = f) (hf : f ≤ e) {x3 : Int32} (hx3 : x3.toInt = f) {r : Nat → Int32} (hr : mOK r) (hv0 : mV r 0 = 0) (g : Int64) :
    ∃ d y r', ((f_R_takeDecimal c1 at' en cn pw tx nu nl).bind fun (r_104, u104_t_at, u104_t_counting, u104_t_power, u104_t_numerator_used, u104_t_numerator_limbs) => (if r_104 = 0 then (some ((9221120237041090560 : Int64), (u104_t_at, en, u104_t_counting, u104_t_power, u104_t_numerator_used, u104_t_numerator_limbs, du, dl))) else ((f_R_roundedDecimal c1 u104_t_at en u104_t_counting u104_t_power u104_t_numerator_used u104_t_numerator_limbs du dl).bind fun (r_112, u112_t_numerator_used, u112_t_numerator_limbs, u112_t_denominator_used, u112_t_denominator_limbs) => (some ((g ||| r_112), (u104_t_at, en, u104_t_counting, u104_t_power, u112_t_numerator_used, u112_t_numerator_limbs, u112_t_denominator_used, u112_t_denominator_limbs)))))) = some (d, y) ∧ f_M_readDecimal_94 t s o c p tx r en x3 g 0 0 0 0 0 = some (d, r') ∧ mOK r' := by
  obtain ⟨a, b, P, S, n, ok, at2, cn2, pw2, nu2, nl2, hE, k1, k2, k3, k4, k5, k6⟩ := R_takeDecimal c1 (tx := tx) (nl := nl) (cn := cn) (pw := pw) (nu := nu) he h600 hat hf
  have hPe := dEnd_le hE
  have hI := dEnd_I hE h600
  have hd := dI_1 hI
  have hp1 := hI.2.2.2.1
  have hp2 := hI.2.2.2.2
  rw [k1, Option.bind_some]
  dsimp only
  -- what the class answers, by its power
  have cls : ok = 1 → ∀ q : Int, pw2.toInt = q → -2000000 < q → q < 2000000 → ∃ y, ((f_R_roundedDecimal c1 at2 en cn2 pw2 nu2 nl2 du dl).bind fun (r_112, u112_t_numerator_used, u112_t_numerator_limbs, u112_t_denominator_used, u112_t_denominator_limbs) => (some ((g ||| r_112), (at2, en, cn2, pw2, u112_t_numerator_used, u112_t_numerator_limbs, u112_t_denominator_used, u112_t_denominator_limbs)))) = some (g ||| lN (zq (S.1 * 10 ^ q.toNat) (10 ^ (-q).toNat) 1074), y) := by
    intro _ q hq q1 q2
    obtain ⟨⟨y1, y2, y3, y4⟩, u1⟩ := R_roundedDecimal c1 at2 en (du := du) (dl := dl) k2 k3 hq hI.1 (by omega) (by omega) hI.2.1 (fun h => (hd.2 h).2)
    rw [u1, Option.bind_some]
    exact ⟨_, rfl⟩
  by_cases cn0 : n = 0
  · rw [if_pos (k4 cn0)]
    obtain ⟨r', w1, w2⟩ := M_dec94 t s o c p (tx := tx) he h600 hx3 hE hr hv0 g (d := 9221120237041090560) (by
      intro r' y3 y7 z1 z2 z3 z4
      unfold f_M_readDecimal_234
      rw [cn0, if_neg (Nat.lt_irrefl _), if_pos rfl]
      exact ⟨r', rfl, z1⟩)
    exact ⟨_, _, r', rfl, w1, w2⟩
  · have hn0 : 0 < n := by omega
    by_cases cE : P < e ∧ (tx P = 101 ∨ tx P = 69)
    · obtain ⟨m, j1, j2, j3⟩ := k6 hn0 cE
      obtain ⟨x1, x2, x3'⟩ := x_rel j1.1
      have j1e := j1.2.1
      -- the reference's power
      obtain ⟨qr, hqr⟩ : ∃ qr : Int, qr = (if zun tx e (P + 1) = 45 then S.2.2 - (xM tx (zpe tx e P) m : Int) else S.2.2 + (xM tx (zpe tx e P) m : Int)) := ⟨_, rfl⟩
      have hM : ∀ r' y3 y7, mOK r' → mV r' 0 = S.1 → y3.toInt = (P : Int) → y7.toInt = S.2.2 → ∃ r'', f_M_readDecimal_234 t s o c p tx r' en y3 g y7 (if 0 < n then 1 else 0) = some ((if 0 < m ∧ zpe tx e P + m = e then g ||| lN (zq (S.1 * 10 ^ qr.toNat) (10 ^ (-qr).toNat) 1074) else 9221120237041090560), r'') ∧ mOK r'' := by
        intro r' y3 y7 z1 z2 z3 z4
        have hz : zin y3 600 := ⟨by omega, by omega⟩
        have hcl : y3.toNatClampNeg = P := by rw [i_cl, z3, Int.toNat_natCast]
        obtain ⟨s0, v1, v2⟩ := M_dec270 t s o c p (tx := tx) (r := r') (x7 := y7) (g := g) he h600 z3 cE.1
        have h270 : f_M_readDecimal_234 t s o c p tx r' en y3 g y7 (if 0 < n then 1 else 0) = f_M_readDecimal_270 t s o c p tx r' en y3 g y7 := by
          unfold f_M_readDecimal_234
          rw [if_pos hn0, if_neg i10, if_neg (show ¬ en ≤ y3 by rw [i_le, he, z3]; have := cE.1; omega), if_pos hz, hcl, if_pos hz]
          rcases cE.2 with q | q
          · rw [if_pos q]
          · have q1 : ¬ tx P = 101 := by rw [q]; decide
            rw [if_neg q1, if_pos q]
        rw [h270, v1]
        unfold f_M_readDecimal_331
        by_cases cq : zpe tx e P = e
        · rw [if_pos (show s0 = en by rw [i_eq, v2, he, cq])]
          rw [if_neg (show ¬ (0 < m ∧ zpe tx e P + m = e) by omega)]
          exact ⟨r', rfl, z1⟩
        · rw [if_neg (show ¬ s0 = en by rw [i_eq, v2, he]; omega)]
          refine M_exp344 t s o c p he h600 v2 j1 g ?_
          intro w3 w12 ww1 ww2
          have key : ∀ (y : Int32), y.toInt = qr → ∃ r'', f_M_readDecimal_416 t s o c p tx r' en w3 g y = some ((if 0 < m ∧ zpe tx e P + m = e then g ||| lN (zq (S.1 * 10 ^ qr.toNat) (10 ^ (-qr).toNat) 1074) else 9221120237041090560), r'') ∧ mOK r'' := by
            intro y hy
            obtain ⟨r2, b1, b2⟩ := M_dec416 t s o c p (tx := tx) (g := g) z1 he ww1 j1e z2 hy hI
            refine ⟨r2, ?_, b2⟩
            rw [b1]
            by_cases c2 : zpe tx e P + m = e
            · rw [if_pos c2, if_pos ⟨by omega, c2⟩]
            · rw [if_neg c2, if_neg (fun h => c2 h.2)]
          unfold f_M_readDecimal_396 f_M_readDecimal_414
          by_cases c45 : zun tx e (P + 1) = 45
          · rw [if_pos c45, if_neg i10]
            apply key
            rw [if_pos c45] at hqr
            rw [i_sub (by rw [z4, ww2]; omega) (by rw [z4, ww2]; omega), z4, ww2, hqr]
          · rw [if_neg c45, if_pos rfl]
            apply key
            rw [if_neg c45] at hqr
            rw [i_add (by rw [z4, ww2]; omega) (by rw [z4, ww2]; omega), z4, ww2, hqr]
      obtain ⟨r', w1, w2⟩ := M_dec94 t s o c p (tx := tx) he h600 hx3 hE hr hv0 g hM
      by_cases cok : 0 < m ∧ zpe tx e P + m = e
      · rw [if_pos cok] at j2
        obtain ⟨qc, hqc⟩ : ∃ qc : Int, qc = (if zun tx e (P + 1) = 45 then S.2.2 - (xC tx (zpe tx e P) m : Int) else S.2.2 + (xC tx (zpe tx e P) m : Int)) := ⟨_, rfl⟩
        have hqb : -2000000 < qc ∧ qc < 2000000 := by
          rw [hqc]
          split <;> omega
        obtain ⟨y, u1⟩ := cls j2 qc (by rw [j3, hqc]) hqb.1 hqb.2
        rw [if_neg (show ¬ ok = 0 by rw [j2]; exact i10), u1]
        refine ⟨_, y, r', rfl, ?_, w2⟩
        rw [w1, if_pos cok]
        have : zq (S.1 * 10 ^ qr.toNat) (10 ^ (-qr).toNat) 1074 = zq (S.1 * 10 ^ qc.toNat) (10 ^ (-qc).toNat) 1074 := by
          apply zq_same hd.1
          rw [hqr, hqc]
          by_cases c45 : zun tx e (P + 1) = 45
          · rw [if_pos c45, if_pos c45]
            omega
          · rw [if_neg c45, if_neg c45]
            omega
        rw [this]
      · rw [if_neg cok] at j2
        rw [if_pos j2]
        refine ⟨_, _, r', rfl, ?_, w2⟩
        rw [w1, if_neg cok]
    · obtain ⟨j1, j2⟩ := k5 hn0 cE
      obtain ⟨r', w1, w2⟩ := M_dec94 t s o c p (tx := tx) he h600 hx3 hE hr hv0 g (d := if P = e then g ||| lN (zq (S.1 * 10 ^ S.2.2.toNat) (10 ^ (-S.2.2).toNat) 1074) else 9221120237041090560) (by
        intro r' y3 y7 z1 z2 z3 z4
        have h416 : f_M_readDecimal_234 t s o c p tx r' en y3 g y7 (if 0 < n then 1 else 0) = f_M_readDecimal_416 t s o c p tx r' en y3 g y7 := by
          unfold f_M_readDecimal_234
          rw [if_pos hn0, if_neg i10]
          by_cases ce : P < e
          · have hz : zin y3 600 := ⟨by omega, by omega⟩
            have hcl : y3.toNatClampNeg = P := by rw [i_cl, z3, Int.toNat_natCast]
            rw [if_neg (show ¬ en ≤ y3 by rw [i_le, he, z3]; omega), if_pos hz, hcl, if_pos hz, if_neg (fun h => cE ⟨ce, Or.inl h⟩), if_neg (fun h => cE ⟨ce, Or.inr h⟩)]
          · rw [if_pos (show en ≤ y3 by rw [i_le, he, z3]; omega)]
        rw [h416]
        exact M_dec416 t s o c p z1 he z3 hPe z2 z4 hI)
      by_cases ce : P = e
      · rw [if_pos ce] at j1
        obtain ⟨y, u1⟩ := cls j1 S.2.2 j2 (by omega) (by omega)
        rw [if_neg (show ¬ ok = 0 by rw [j1]; exact i10), u1]
        refine ⟨_, y, r', rfl, ?_, w2⟩
        rw [w1, if_pos ce]
      · rw [if_neg ce] at j1
        rw [if_pos j1]
        refine ⟨_, _, r', rfl, ?_, w2⟩
        rw [w1, if_neg ce]
