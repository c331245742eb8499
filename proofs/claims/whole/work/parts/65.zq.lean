/-! exact quotients: x / y * 2^(G - 1074) rounded -/
def zq (x y : Nat) (G : Int) : Nat := zRB (x * 2 ^ G.toNat) (y * 2 ^ (-G).toNat)
theorem zRB_pow {x y a b a' b' : Nat} (h : a + b' = a' + b) : zRB (x * 2 ^ a) (y * 2 ^ b) = zRB (x * 2 ^ a') (y * 2 ^ b') := by
  have h1 := zRB_mul (p2pos b') (x * 2 ^ a) (y * 2 ^ b)
  have h2 := zRB_mul (p2pos b) (x * 2 ^ a') (y * 2 ^ b')
  rw [Nat.mul_assoc, ← Nat.pow_add, Nat.mul_assoc, ← Nat.pow_add] at h1 h2
  rw [← h1, ← h2, h, Nat.add_comm b b']
theorem zq_pow (x y a b : Nat) (G : Int) : zq (x * 2 ^ a) (y * 2 ^ b) G = zq x y (G + a - b) := by
  unfold zq
  rw [Nat.mul_assoc, ← Nat.pow_add, Nat.mul_assoc, ← Nat.pow_add]
  exact zRB_pow (by omega)
theorem zq_mul {c : Nat} (hc : 0 < c) (x y : Nat) (G : Int) : zq (x * c) (y * c) G = zq x y G := by
  unfold zq
  rw [Nat.mul_right_comm x c, Nat.mul_right_comm y c, zRB_mul hc]
theorem zrd_zq (V : Nat) (E : Int) : zrd V 0 E = zq V 1 E := by
  unfold zrd zq
  rw [Nat.add_zero, Nat.mul_assoc 2 V, Nat.mul_comm 2 (V * _), Nat.mul_comm 2 (2 ^ _), zRB_mul (by decide), Nat.one_mul]
theorem zrd_hi {V mo : Nat} {E : Int} (hz : 54 ≤ zlen V) (hmo : mo < 2) : ∃ L o : Nat, 0 < o ∧ zlen V ≤ o + 53 ∧ (L : Int) = max ((zlen V : Int) + E - 53) 0 ∧ (o : Int) = L - E ∧ zrd V mo E = zpk L (zup V mo o) := by
  have hV : 0 < V := by
    rcases Nat.eq_zero_or_pos V with q | q
    · subst q; exact absurd hz (by decide)
    · exact q
  obtain ⟨L, hL⟩ : ∃ L : Nat, (L : Int) = max ((zlen V : Int) + E - 53) 0 := ⟨(max ((zlen V : Int) + E - 53) 0).toNat, by omega⟩
  refine ⟨L, ((L : Int) - E).toNat, by omega, by omega, hL, by omega, ?_⟩
  unfold zrd
  rw [zRB_row hV hmo L hL, if_pos (by omega)]
theorem app_div {V t R : Nat} (hR : R < 2 ^ t) : (V * 2 ^ t + R) / 2 ^ t = V := by
  rw [Nat.add_comm, Nat.add_mul_div_right _ _ (p2pos t), Nat.div_eq_of_lt hR, Nat.zero_add]
theorem app_mod {V t R : Nat} (hR : R < 2 ^ t) : (V * 2 ^ t + R) % 2 ^ t = R := by
  rw [Nat.add_comm, Nat.add_mul_mod_self_right, Nat.mod_eq_of_lt hR]
theorem zlen_gt {n k : Nat} (h : 2 ^ k ≤ n) : k < zlen n := by
  rcases Nat.lt_or_ge k (zlen n) with q | q
  · exact q
  · have h1 := zlen_lt n
    have h2 : 2 ^ zlen n ≤ 2 ^ k := p2le q
    omega
theorem zlen_app {V t R : Nat} (hV : 0 < V) (hR : R < 2 ^ t) : zlen (V * 2 ^ t + R) = zlen V + t := by
  have h := zlen_div (V * 2 ^ t + R) t
  rw [app_div hR] at h
  have := zlen_pos hV
  omega
theorem zup_cut {V t R mo o : Nat} (hR : R < 2 ^ t) (ho : 0 < o) (hmo : mo < 2) : zup (V * 2 ^ t + R) mo (o + t) = zup V (if R = 0 ∧ mo = 0 then 0 else 1) o := by
  obtain ⟨n, rfl⟩ : ∃ n, o = n + 1 := ⟨o - 1, by omega⟩
  have d : ∀ k, (V * 2 ^ t + R) / 2 ^ (k + t) = V / 2 ^ k := by
    intro k
    rw [Nat.add_comm k t, Nat.pow_add, ← Nat.div_div_eq_div_mul, app_div hR]
  have m : (V * 2 ^ t + R) % 2 ^ (n + t) = R + 2 ^ t * (V % 2 ^ n) := by
    rw [Nat.add_comm n t, Nat.pow_add, Nat.mod_mul, app_div hR, app_mod hR]
  unfold zup
  rw [show n + 1 + t - 1 = n + t by omega, show n + 1 - 1 = n by omega, d, d, m]
  have hP := p2pos t
  generalize 2 ^ t = P at hP ⊢
  generalize V % 2 ^ n = w
  generalize V / 2 ^ (n + 1) = q
  generalize V / 2 ^ n = h
  have key : (mo = 1 ∨ R + P * w ≠ 0 ∨ q % 2 = 1) ↔ ((if R = 0 ∧ mo = 0 then 0 else 1) = 1 ∨ w ≠ 0 ∨ q % 2 = 1) := by
    by_cases hc : R = 0 ∧ mo = 0
    · have hw : R + P * w ≠ 0 ↔ w ≠ 0 := by
        rw [hc.1, Nat.zero_add]
        exact ⟨fun a b => a (by rw [b, Nat.mul_zero]), fun a b => by
          rcases Nat.mul_eq_zero.mp b with z | z
          · omega
          · exact a z⟩
      rw [if_pos hc, hw, hc.2]
    · rw [if_neg hc]
      refine ⟨fun _ => Or.inl rfl, fun _ => ?_⟩
      by_cases hm : mo = 1
      · exact Or.inl hm
      · exact Or.inr (Or.inl (by omega))
  exact ifc (and_congr Iff.rfl key)
theorem zup_odd {V o : Nat} (ho : 2 ≤ o) : zup (V / 2 * 2 + 1) 0 o = zup V 1 o := by
  obtain ⟨n, rfl⟩ : ∃ n, o = n + 2 := ⟨o - 2, by omega⟩
  have d : ∀ k, (V / 2 * 2 + 1) / 2 ^ (k + 1) = V / 2 ^ (k + 1) := by
    intro k
    rw [Nat.pow_succ, Nat.mul_comm (2 ^ k) 2, ← Nat.div_div_eq_div_mul, ← Nat.div_div_eq_div_mul, show (V / 2 * 2 + 1) / 2 = V / 2 by omega]
  have m : (V / 2 * 2 + 1) % 2 ^ (n + 1) ≠ 0 := by
    intro h
    have h2 : (V / 2 * 2 + 1) % 2 ^ (n + 1) % 2 = (V / 2 * 2 + 1) % 2 := by
      rw [Nat.pow_succ, Nat.mul_comm (2 ^ n) 2, Nat.mod_mul_right_mod]
    rw [h] at h2
    omega
  unfold zup
  rw [show n + 2 - 1 = n + 1 by omega, d, d (n + 1)]
  exact ifc (and_congr Iff.rfl ⟨fun _ => Or.inl rfl, fun _ => Or.inr (Or.inl m)⟩)
theorem zrd_odd {V : Nat} {E : Int} (hz : 55 ≤ zlen V) : zrd (V / 2 * 2 + 1) 0 E = zrd V 1 E := by
  have hl : zlen (V / 2 * 2 + 1) = zlen V := by
    have h1 := zlen_div V 1
    rw [Nat.pow_one] at h1
    have h2 : 0 < V / 2 := by
      rcases Nat.eq_zero_or_pos (V / 2) with q | q
      · rw [q] at h1
        have : zlen 0 = 0 := rfl
        omega
      · exact q
    rw [Nat.mul_comm, zlen_dbl h2 (by decide)]
    omega
  obtain ⟨L, o, a1, a2, a3, a4, a5⟩ := zrd_hi (V := V) (mo := 1) (E := E) (by omega) (by decide)
  obtain ⟨L', o', b1, b2, b3, b4, b5⟩ := zrd_hi (V := V / 2 * 2 + 1) (mo := 0) (E := E) (by omega) (by decide)
  have e1 : L' = L := by omega
  have e2 : o' = o := by omega
  subst e1 e2
  rw [b5, a5, zup_odd (by omega)]
theorem zrd_cut {V t R mo : Nat} {E : Int} (hz : 54 ≤ zlen V) (hR : R < 2 ^ t) (hmo : mo < 2) : zrd (V * 2 ^ t + R) mo E = zrd V (if R = 0 ∧ mo = 0 then 0 else 1) (E + t) := by
  have hV : 0 < V := by
    rcases Nat.eq_zero_or_pos V with q | q
    · subst q; exact absurd hz (by decide)
    · exact q
  have hl := zlen_app hV hR
  have hmo' : (if R = 0 ∧ mo = 0 then 0 else 1) < 2 := by split <;> decide
  obtain ⟨L, o, a1, a2, a3, a4, a5⟩ := zrd_hi (V := V * 2 ^ t + R) (mo := mo) (E := E) (by omega) hmo
  obtain ⟨L', o', b1, b2, b3, b4, b5⟩ := zrd_hi (V := V) (E := E + t) hz hmo'
  rw [hl] at a2 a3
  have e1 : L' = L := by omega
  have e2 : o = o' + t := by omega
  subst e1 e2
  rw [b5, a5, zup_cut hR b1 hmo]
theorem rhe_quot {x y o : Nat} (hy : 0 < y) (ho : 0 < o) : rhe x (y * 2 ^ o) = zup (x / y) (if x % y = 0 then 0 else 1) o := by
  obtain ⟨n, rfl⟩ : ∃ n, o = n + 1 := ⟨o - 1, by omega⟩
  unfold rhe zup
  rw [← Nat.div_div_eq_div_mul, Nat.mod_mul, Nat.add_sub_cancel, Nat.mod_pow_succ]
  have hr : x % y < y := Nat.mod_lt _ hy
  have hlow : x / y % 2 ^ n < 2 ^ n := Nat.mod_lt _ (p2pos n)
  have hh : x / y / 2 ^ n % 2 < 2 := Nat.mod_lt _ (by decide)
  have e4 : y * 2 ^ (n + 1) = 2 * (y * 2 ^ n) := by rw [Nat.pow_succ, ← Nat.mul_assoc, Nat.mul_comm]
  rw [e4, Nat.mul_add y, ← Nat.mul_assoc y]
  have h5 : y * (x / y % 2 ^ n) + y ≤ y * 2 ^ n := by
    rw [← Nat.mul_succ]
    exact Nat.mul_le_mul_left _ hlow
  have h6 : y * (x / y % 2 ^ n) = 0 ↔ x / y % 2 ^ n = 0 := by
    rw [Nat.mul_eq_zero]
    exact ⟨fun h => h.resolve_left (by omega), Or.inr⟩
  generalize x / y / 2 ^ (n + 1) = q
  generalize x / y / 2 ^ n % 2 = h at hh ⊢
  generalize x / y % 2 ^ n = low at h5 h6 ⊢
  generalize x % y = r at hr ⊢
  generalize y * low = z at h5 h6 ⊢
  generalize y * 2 ^ n = P at h5 ⊢
  rcases Nat.lt_or_ge 0 h with c | c
  · have : h = 1 := by omega
    subst this
    rw [Nat.mul_one]
    by_cases c1 : r = 0 ∧ low = 0
    · have z0 : z = 0 := h6.mpr c1.2
      rw [if_pos c1.1]
      refine ifc ⟨?_, ?_⟩
      · rintro (u | u)
        · omega
        · exact ⟨rfl, Or.inr (Or.inr u.2)⟩
      · rintro ⟨_, u | u | u⟩
        · omega
        · exact absurd c1.2 u
        · exact Or.inr ⟨by omega, u⟩
    · have z1 : 0 < r + z := by
        rcases Nat.eq_zero_or_pos (r + z) with u | u
        · exact absurd ⟨by omega, h6.mp (by omega)⟩ c1
        · exact u
      rw [if_pos (Or.inl (by omega))]
      rw [if_pos]
      refine ⟨rfl, ?_⟩
      by_cases c2 : r = 0
      · exact Or.inr (Or.inl (fun h => c1 ⟨c2, h⟩))
      · rw [if_neg c2]; exact Or.inl rfl
  · have : h = 0 := by omega
    subst this
    rw [Nat.mul_zero, if_neg (by omega), if_neg (by omega)]
theorem zrd_div {x y : Nat} {G : Int} (hy : 0 < y) (hz : 54 ≤ zlen (x / y)) : zrd (x / y) (if x % y = 0 then 0 else 1) G = zq x y G := by
  have hmo : (if x % y = 0 then 0 else 1) < 2 := by split <;> decide
  obtain ⟨L, o, a1, a2, a3, a4, a5⟩ := zrd_hi (V := x / y) (E := G) hz hmo
  have hQ : 0 < x / y := by
    rcases Nat.eq_zero_or_pos (x / y) with q | q
    · rw [q] at hz; exact absurd hz (by decide)
    · exact q
  have hl : zlen (x * 2 ^ G.toNat / (y * 2 ^ (-G).toNat)) - 53 = L := by
    rcases Int.lt_or_le G 0 with q | q
    · rw [show G.toNat = 0 by omega, Nat.pow_zero, Nat.mul_one, ← Nat.div_div_eq_div_mul, zlen_div]
      omega
    · have hr : x % y < y := Nat.mod_lt _ hy
      have hB : x % y * 2 ^ G.toNat / y < 2 ^ G.toNat := Nat.div_lt_of_lt_mul ((Nat.mul_lt_mul_right (p2pos _)).mpr hr)
      have hx : x * 2 ^ G.toNat = y * (x / y * 2 ^ G.toNat) + x % y * 2 ^ G.toNat := by
        rw [← Nat.mul_assoc, ← Nat.add_mul, Nat.div_add_mod]
      rw [show (-G).toNat = 0 by omega, Nat.pow_zero, Nat.mul_one, hx, Nat.mul_add_div hy, zlen_app hQ hB]
      omega
  have hr : rhe (x * 2 ^ G.toNat) (y * 2 ^ (-G).toNat * 2 ^ L) = zup (x / y) (if x % y = 0 then 0 else 1) o := by
    rw [Nat.mul_assoc, ← Nat.pow_add, show (-G).toNat + L = o + G.toNat by omega, Nat.pow_add, ← Nat.mul_assoc, rhe_mul (p2pos _), rhe_quot hy a1]
  rw [a5]
  unfold zq zRB
  rw [hl, hr]
def ztr (x y : Nat) : Nat := if x % y = 0 then x / y else x / y / 2 * 2 + 1
theorem zrd_tr {x y : Nat} {G : Int} (hy : 0 < y) (hz : x % y ≠ 0 → 55 ≤ zlen (x / y)) : zrd (ztr x y) 0 G = zq x y G := by
  unfold ztr
  by_cases h : x % y = 0
  · rw [if_pos h, zrd_zq, ← zq_mul hy (x / y) 1, Nat.one_mul, Nat.div_mul_cancel (Nat.dvd_of_mod_eq_zero h)]
  · have := hz h
    rw [if_neg h, zrd_odd this, ← zrd_div hy (by omega), if_neg h]
theorem ztr_add {x Y D : Nat} (hD : 0 < D) (hx : x % 2 = 0) : ztr (x * D + Y) D = x + ztr Y D := by
  unfold ztr
  rw [Nat.add_comm (x * D) Y, Nat.add_mul_div_right _ _ hD, Nat.add_mul_mod_self_right]
  by_cases h : Y % D = 0
  · rw [if_pos h, if_pos h, Nat.add_comm]
  · rw [if_neg h, if_neg h]
    omega
theorem ztr_sub {x Y D : Nat} (hD : 0 < D) (hx : x % 2 = 0) (hle : Y ≤ x * D) : ztr Y D ≤ x ∧ ztr (x * D - Y) D = x - ztr Y D := by
  have hm := Nat.mod_lt Y hD
  have hdm := Nat.div_add_mod Y D
  by_cases h : Y % D = 0
  · have hY : Y = Y / D * D := (Nat.div_mul_cancel (Nat.dvd_of_mod_eq_zero h)).symm
    have hq : Y / D ≤ x := by
      rw [hY] at hle
      exact Nat.le_of_mul_le_mul_right hle hD
    have e : x * D - Y = (x - Y / D) * D := by
      rw [Nat.sub_mul, Nat.div_mul_cancel (Nat.dvd_of_mod_eq_zero h)]
    have e1 : ztr Y D = Y / D := by unfold ztr; rw [if_pos h]
    rw [e1, e]
    refine ⟨hq, ?_⟩
    unfold ztr
    rw [Nat.mul_mod_left, if_pos rfl, Nat.mul_div_cancel _ hD]
  · have hq : Y / D < x := by
      rcases Nat.lt_or_ge (Y / D) x with q | q
      · exact q
      · have := Nat.mul_le_mul_left D q
        rw [Nat.mul_comm x D] at hle
        omega
    have e : x * D - Y = (x - Y / D - 1) * D + (D - Y % D) := by
      obtain ⟨k, hk⟩ : ∃ k, x = Y / D + 1 + k := ⟨x - Y / D - 1, by omega⟩
      have e2 : x * D = D * (Y / D) + D + k * D := by rw [hk, Nat.add_mul, Nat.add_mul, Nat.one_mul, Nat.mul_comm D]
      rw [show x - Y / D - 1 = k by omega, e2]
      omega
    have hlt : D - Y % D < D := by omega
    have e1 : ztr Y D = Y / D / 2 * 2 + 1 := by unfold ztr; rw [if_neg h]
    have d1 : ((x - Y / D - 1) * D + (D - Y % D)) / D = x - Y / D - 1 := by
      rw [Nat.add_comm, Nat.add_mul_div_right _ _ hD, Nat.div_eq_of_lt hlt, Nat.zero_add]
    have d2 : ((x - Y / D - 1) * D + (D - Y % D)) % D = D - Y % D := by
      rw [Nat.add_comm, Nat.add_mul_mod_self_right, Nat.mod_eq_of_lt hlt]
    rw [e1, e]
    unfold ztr
    rw [d1, d2, if_neg (by omega)]
    clear e d1 d2 e1 hdm hle
    generalize Y / D = q at *
    omega
theorem ztr_le (x y : Nat) : ztr x y ≤ x / y + 1 := by
  unfold ztr
  split <;> omega
/-! the class's trace -/
theorem l_or1 {x : Int64} {n : Nat} (hx : x.toInt = n) : (x ||| 1).toInt = ((n / 2 * 2 + 1 : Nat) : Int) := by
  have e1 : (1 : Int64).toInt = 1 := rfl
  have rx := l_rng x
  by_cases h : n % 2 = 0
  · have := l_or (x := x) (y := 1) 1 (n / 2) 1 (by rw [hx, Nat.pow_one]; omega) rfl (by decide)
    rw [this, hx, e1]
    omega
  · have hy : (x - 1).toInt = ((n - 1 : Nat) : Int) := by
      rw [l_sub, hx, e1] <;> (try rw [hx, e1]) <;> omega
    have h1 := l_or (x := x - 1) (y := 1) 1 (n / 2) 1 (by rw [hy, Nat.pow_one]; omega) rfl (by decide)
    have h2 : x = (x - 1) ||| 1 := by
      apply l_ext
      rw [h1, hy, hx, e1]
      omega
    have h3 : x ||| 1 = x := by
      have h4 : (x - 1) ||| 1 ||| 1 = (x - 1) ||| 1 := Int64.toBitVec_inj.mp (by rw [Int64.toBitVec_or, Int64.toBitVec_or, BitVec.or_assoc, BitVec.or_self])
      rw [← h2] at h4
      exact h4
    rw [h3, hx]
    omega
theorem B_trace {x : Int64} {s : Int32} {n d : Nat} (hx : x.toInt = n) (hn : n < 4611686018427387904) (hs : s.toInt = d) : ∃ v, f_B_shiftDownWithTrace x s = some v ∧ v.toInt = (ztr n (2 ^ d) : Int) := by
  have e0 : (0 : Int32).toInt = 0 := rfl
  have e62 : (62 : Int32).toInt = 62 := rfl
  unfold f_B_shiftDownWithTrace
  by_cases h0 : d = 0
  · rw [if_neg (show ¬ 0 < s by rw [i_lt, e0, hs]; omega)]
    refine ⟨_, rfl, ?_⟩
    unfold ztr
    rw [h0, Nat.pow_zero, Nat.mod_one, if_pos rfl, Nat.div_one, hx]
  · rw [if_pos (show 0 < s by rw [i_lt, e0, hs]; omega)]
    by_cases h62 : d ≤ 62
    · have hm := B_mask hs (by omega) (by omega) hx
      have hk := B_ushr hs (by omega) hx
      rw [if_pos (show s ≤ 62 by rw [i_le, e62, hs]; omega)]
      by_cases hc : n % 2 ^ d = 0
      · rw [if_pos (by rw [l_eq, hm, hc]; rfl)]
        refine ⟨_, rfl, ?_⟩
        unfold ztr
        rw [if_pos hc, hk]
      · rw [if_neg (by rw [l_eq, hm]; show ¬ _ = (0 : Int); omega)]
        refine ⟨_, rfl, ?_⟩
        unfold ztr
        rw [if_neg hc, l_or1 hk]
    · rw [if_neg (show ¬ s ≤ 62 by rw [i_le, e62, hs]; omega)]
      have hp : 2 ^ 62 ≤ 2 ^ d := p2le (by omega)
      have hlt : n < 2 ^ d := Nat.lt_of_lt_of_le hn hp
      by_cases hc : n = 0
      · rw [if_pos (by rw [l_eq, hx, hc]; rfl)]
        refine ⟨_, rfl, ?_⟩
        unfold ztr
        rw [hc, Nat.zero_mod, if_pos rfl, Nat.zero_div]
        rfl
      · rw [if_neg (by rw [l_eq, hx]; show ¬ _ = (0 : Int); omega)]
        refine ⟨_, rfl, ?_⟩
        unfold ztr
        rw [Nat.mod_eq_of_lt hlt, if_neg hc, Nat.div_eq_of_lt hlt]
        rfl
