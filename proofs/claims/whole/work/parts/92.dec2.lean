/-! decimal texts: signs and exponents of the class -/
def zun (tx : Nat → Int32) (e i : Nat) : Int32 := if i < e then tx i else -1
theorem R_unitAt (c1 c2 c4 c5 : Int32) {tx : Nat → Int32} {en : Int32} {e : Nat} (he : en.toInt = e) (h600 : e ≤ 600) {x : Int32} {i : Nat} (hx : x.toInt = i) : f_R_unitAt c1 c2 en c4 c5 tx x = some (zun tx e i) := by
  have e0 : (0 : Int32).toInt = 0 := rfl
  unfold f_R_unitAt zun
  rw [if_neg (show ¬ x < 0 by rw [i_lt, hx, e0]; omega)]
  by_cases c : i < e
  · rw [if_neg (show ¬ en ≤ x by rw [i_le, he, hx]; omega), if_pos (show zin x 600 from ⟨by omega, by omega⟩), if_pos c, i_cl, hx, Int.toNat_natCast]
  · rw [if_pos (show en ≤ x by rw [i_le, he, hx]; omega), if_neg c]
def zsn (c : Int32) : Nat := if c = 43 ∨ c = 45 then 1 else 0
theorem R_takeMinus (c1 c4 c5 : Int32) {tx : Nat → Int32} {en : Int32} {e : Nat} (he : en.toInt = e) (h600 : e ≤ 600) {at' : Int32} {f : Nat} (hat : at'.toInt = f) (hf : f ≤ 600) : ∃ at2, f_R_takeMinus c1 at' en c4 c5 tx = some (if zun tx e f = 45 then 1 else 0, at2) ∧ at2.toInt = ((f + zsn (zun tx e f) : Nat) : Int) := by
  have hs : (at' + 1).toInt = ((f + 1 : Nat) : Int) := i_suc hat (by omega)
  unfold f_R_takeMinus f_R_takeMinus_21 f_R_takeMinus_31
  rw [R_unitAt c1 at' c4 c5 he h600 hat, Option.bind_some]
  unfold zsn
  generalize zun tx e f = c
  by_cases c43 : c = 43
  · rw [if_pos c43, if_pos (Or.inl c43)]
    have c45 : ¬ c = 45 := by rw [c43]; decide
    rw [if_neg c45, if_neg c45]
    exact ⟨_, rfl, hs⟩
  · rw [if_neg c43]
    by_cases c45 : c = 45
    · rw [if_pos c45, if_pos (Or.inr c45), if_pos c45, if_pos c45]
      exact ⟨_, rfl, hs⟩
    · rw [if_neg c45, if_neg (show ¬ (c = 43 ∨ c = 45) from fun h => h.elim c43 c45)]
      exact ⟨at', by rw [if_neg c45, if_neg c45], hat⟩
def xC (tx : Nat → Int32) (q : Nat) : Nat → Nat
  | 0 => 0
  | k + 1 => if 100000 ≤ xC tx q k then xC tx q k else 10 * xC tx q k + zdv (tx (q + k))
def xM (tx : Nat → Int32) (q : Nat) : Nat → Nat
  | 0 => 0
  | k + 1 => if xM tx q k ≤ 100000 then 10 * xM tx q k + zdv (tx (q + k)) else xM tx q k
theorem xC_s (tx : Nat → Int32) (q k : Nat) : xC tx q (k + 1) = if 100000 ≤ xC tx q k then xC tx q k else 10 * xC tx q k + zdv (tx (q + k)) := rfl
theorem xM_s (tx : Nat → Int32) (q k : Nat) : xM tx q (k + 1) = if xM tx q k ≤ 100000 then 10 * xM tx q k + zdv (tx (q + k)) else xM tx q k := rfl
theorem x_rel {tx : Nat → Int32} {q : Nat} : ∀ {k : Nat}, (∀ i, i < k → zdg (tx (q + i))) → xC tx q k ≤ 1000009 ∧ xM tx q k ≤ 1000009 ∧ (xC tx q k = xM tx q k ∨ (100000 ≤ xC tx q k ∧ 100000 ≤ xM tx q k))
  | 0, _ => ⟨Nat.zero_le _, Nat.zero_le _, Or.inl rfl⟩
  | k + 1, h => by
    obtain ⟨h1, h2, h3⟩ := x_rel (tx := tx) (q := q) (k := k) (fun i hi => h i (by omega))
    have h9 := zdv_9 (h k (by omega))
    rw [xC_s, xM_s]
    generalize xC tx q k = x at h1 h3 ⊢
    generalize xM tx q k = y at h2 h3 ⊢
    generalize zdv (tx (q + k)) = d at h9 ⊢
    by_cases c1 : 100000 ≤ x
    · rw [if_pos c1]
      by_cases c2 : y ≤ 100000
      · rw [if_pos c2]; omega
      · rw [if_neg c2]; omega
    · rw [if_neg c1]
      by_cases c2 : y ≤ 100000
      · rw [if_pos c2]; omega
      · rw [if_neg c2]; omega
theorem R_exp12 (c1 c4 : Int32) {tx : Nat → Int32} {en : Int32} {e : Nat} (he : en.toInt = e) (h600 : e ≤ 600) {at' pw x1 : Int32} {q : Nat} {p : Int} {neg : Bool} (hat : at'.toInt = q) (hq : q ≤ e) (hpw : pw.toInt = p) (hp1 : -100000 < p) (hp2 : p < 100000) (hx1 : x1 = if neg = true then 1 else 0) :
    ∃ n at2 pw2, zrn tx e q n ∧ f_R_takeExponent_12 c1 at' en c4 pw tx x1 at' 0 = some (if 0 < n then 1 else 0, at2, pw2) ∧ at2.toInt = ((q + n : Nat) : Int) ∧ pw2.toInt = (if neg = true then p - xC tx q n else p + xC tx q n) := by
  have e48 : (48 : Int32).toInt = 48 := rfl
  have e10 : (10 : Int32).toInt = 10 := rfl
  have e100 : (100000 : Int32).toInt = 100000 := rfl
  unfold f_R_takeExponent_12
  obtain ⟨⟨d, at2, pw2⟩, h1, n, h2, h3, h4, h5⟩ := zrun_inv (step := f_R_takeExponent_12_step c1 en c4 tx x1 at') (x := (at', pw, 0)) (fun z => ∃ k : Nat, (∀ i, i < k → zdg (tx (q + i))) ∧ q + k ≤ e ∧ z.1.toInt = ((q + k : Nat) : Int) ∧ z.2.1 = pw ∧ z.2.2.toInt = (xC tx q k : Int)) (fun z => (e - z.1.toInt).toNat)
    (fun y => ∃ n : Nat, zrn tx e q n ∧ y.1 = (if 0 < n then 1 else 0) ∧ y.2.1.toInt = ((q + n : Nat) : Int) ∧ y.2.2.toInt = (if neg = true then p - xC tx q n else p + xC tx q n)) (by
      rintro ⟨at2, pw2, x3⟩ ⟨k, hk, hke, ha, hp, hx⟩
      dsimp only at ha hp hx
      subst hp
      unfold f_R_takeExponent_12_step f_R_takeExponent_12_body
      dsimp only
      obtain ⟨r1, r2, r3⟩ := x_rel hk
      have fin : zrn tx e q k → ∃ y, f_R_takeExponent_79 c1 at2 en c4 pw2 tx x1 at' x3 = some y ∧ ∃ n : Nat, zrn tx e q n ∧ y.1 = (if 0 < n then 1 else 0) ∧ y.2.1.toInt = ((q + n : Nat) : Int) ∧ y.2.2.toInt = (if neg = true then p - xC tx q n else p + xC tx q n) := by
        intro hz
        unfold f_R_takeExponent_79 f_R_takeExponent_99
        have h99 : ∀ s1 : Int32, (if at2 ≤ at' then some ((0 : Int32), at2, s1) else some (1, at2, s1)) = some ((if 0 < k then 1 else 0), at2, s1) := by
          intro s1
          by_cases c : 0 < k
          · rw [if_neg (show ¬ at2 ≤ at' by rw [i_le, ha, hat]; omega), if_pos c]
          · rw [if_pos (show at2 ≤ at' by rw [i_le, ha, hat]; omega), if_neg c]
        rw [h99, h99]
        subst hx1
        cases neg
        · rw [if_pos (by decide)]
          refine ⟨_, rfl, k, hz, rfl, ha, ?_⟩
          dsimp only
          rw [if_neg (by decide), i_add (by rw [hpw, hx]; omega) (by rw [hpw, hx]; omega), hpw, hx]
        · rw [if_neg (by decide)]
          refine ⟨_, rfl, k, hz, rfl, ha, ?_⟩
          dsimp only
          rw [if_pos rfl, i_sub (by rw [hpw, hx]; omega) (by rw [hpw, hx]; omega), hpw, hx]
      by_cases ck : q + k = e
      · rw [if_pos (show en ≤ at2 by rw [i_le, he, ha]; omega)]
        obtain ⟨y, y1, y2⟩ := fin ⟨hk, hke, fun h => by omega⟩
        rw [y1]
        exact Or.inr ⟨y, rfl, y2⟩
      · have hz : zin at2 600 := ⟨by omega, by omega⟩
        have hcl : at2.toNatClampNeg = q + k := by rw [i_cl, ha, Int.toNat_natCast]
        rw [if_neg (show ¬ en ≤ at2 by rw [i_le, he, ha]; omega), if_pos hz, hcl]
        by_cases cd : zdg (tx (q + k))
        · rw [dg_R1 cd, Option.bind_some, if_neg i10, if_pos hz]
          have hlt : q + k < e := by omega
          have hgs : ∀ i, i < k + 1 → zdg (tx (q + i)) := by
            intro i hi
            by_cases ci : i = k
            · subst ci; exact cd
            · exact hk i (by omega)
          have hmu : ((e : Int) - ((q + (k + 1) : Nat) : Int)).toNat < ((e : Int) - ((q + k : Nat) : Int)).toNat := by omega
          have hs : (at2 + 1).toInt = ((q + (k + 1) : Nat) : Int) := i_suc (k := q + k) ha (by omega)
          unfold f_R_takeExponent_65
          by_cases c1 : 100000 ≤ xC tx q k
          · rw [if_pos (show (100000 : Int32) ≤ x3 by rw [i_le, e100, hx]; omega)]
            refine Or.inl ⟨_, rfl, ⟨k + 1, hgs, hlt, hs, rfl, ?_⟩, by dsimp only; rw [hs]; (try rw [ha]); exact hmu⟩
            dsimp only
            rw [xC_s, if_pos c1, hx]
          · rw [if_neg (show ¬ (100000 : Int32) ≤ x3 by rw [i_le, e100, hx]; omega)]
            have hm : (x3 * 10).toInt = ((xC tx q k * 10 : Nat) : Int) := by
              rw [i_mul (by rw [hx, e10]; omega) (by rw [hx, e10]; omega), hx, e10]
              omega
            have cd1 := cd.1
            have cd2 := cd.2
            have hadd : (x3 * 10 + tx (q + k)).toInt = ((xC tx q k * 10 : Nat) : Int) + (tx (q + k)).toInt := by
              rw [i_add (by rw [hm]; omega) (by rw [hm]; omega), hm]
            have hsub : (x3 * 10 + tx (q + k) - 48).toInt = ((10 * xC tx q k + zdv (tx (q + k)) : Nat) : Int) := by
              rw [i_sub (by rw [hadd, e48]; omega) (by rw [hadd, e48]; omega), hadd, e48]
              unfold zdv
              omega
            refine Or.inl ⟨_, rfl, ⟨k + 1, hgs, hlt, hs, rfl, ?_⟩, by dsimp only; rw [hs]; (try rw [ha]); exact hmu⟩
            dsimp only
            rw [xC_s, if_neg c1, hsub]
        · rw [dg_R0 cd, Option.bind_some, if_pos rfl]
          obtain ⟨y, y1, y2⟩ := fin ⟨hk, hke, fun _ => cd⟩
          rw [y1]
          exact Or.inr ⟨y, rfl, y2⟩) ⟨0, fun i hi => absurd hi (Nat.not_lt_zero _), hq, hat, rfl, rfl⟩
  dsimp only at h3 h4 h5
  exact ⟨n, at2, pw2, h2, by rw [h1, h3], h4, h5⟩
theorem R_takeExponent (c1 c4 : Int32) {tx : Nat → Int32} {en : Int32} {e : Nat} (he : en.toInt = e) (h600 : e ≤ 600) {at' pw : Int32} {f : Nat} {p : Int} (hat : at'.toInt = f) (hf : f + zsn (zun tx e f) ≤ e) (hpw : pw.toInt = p) (hp1 : -100000 < p) (hp2 : p < 100000) :
    ∃ n at2 pw2, zrn tx e (f + zsn (zun tx e f)) n ∧ f_R_takeExponent c1 at' en c4 pw tx = some (if 0 < n then 1 else 0, at2, pw2) ∧ at2.toInt = ((f + zsn (zun tx e f) + n : Nat) : Int) ∧ pw2.toInt = (if zun tx e f = 45 then p - xC tx (f + zsn (zun tx e f)) n else p + xC tx (f + zsn (zun tx e f)) n) := by
  obtain ⟨at1, t1, t2⟩ := R_takeMinus c1 c4 pw he h600 (tx := tx) hat (by omega)
  unfold f_R_takeExponent
  rw [t1, Option.bind_some]
  dsimp only
  by_cases c : zun tx e f = 45
  · obtain ⟨n, at2, pw2, u1, u2, u3, u4⟩ := R_exp12 c1 c4 he h600 (tx := tx) (neg := true) t2 hf hpw hp1 hp2 rfl
    rw [if_pos c]
    rw [if_pos rfl] at u2 u4
    exact ⟨n, at2, pw2, u1, u2, u3, by rw [if_pos c]; exact u4⟩
  · obtain ⟨n, at2, pw2, u1, u2, u3, u4⟩ := R_exp12 c1 c4 he h600 (tx := tx) (neg := false) t2 hf hpw hp1 hp2 rfl
    rw [if_neg c]
    rw [if_neg (show ¬ false = true by decide)] at u2 u4
    exact ⟨n, at2, pw2, u1, u2, u3, by rw [if_neg c]; exact u4⟩
theorem zsn_in {tx : Nat → Int32} {e f : Nat} (hf : f ≤ e) : f + zsn (zun tx e f) ≤ e := by
  unfold zsn zun
  by_cases c : f < e
  · rw [if_pos c]
    split <;> omega
  · rw [if_neg c, if_neg (by decide)]
    omega
