/-! decimal texts: the class's decimal; the reference's exponent -/
theorem R_dec106 (c1 : Int32) {tx nl : Nat → Int32} {en at' cn pw nu : Int32} {e P : Nat} (he : en.toInt = e) (hat : at'.toInt = P) (hP : P ≤ e) : f_R_takeDecimal_106 c1 at' en cn pw tx nu nl = some (if P = e then 1 else 0, at', cn, pw, nu, nl) := by
  unfold f_R_takeDecimal_106
  by_cases c : P = e
  · rw [if_neg (show ¬ at' < en by rw [i_lt, he, hat]; omega), if_pos c]
  · rw [if_pos (show at' < en by rw [i_lt, he, hat]; omega), if_neg c]
def zpe (tx : Nat → Int32) (e P : Nat) : Nat := P + 1 + zsn (zun tx e (P + 1))
theorem R_dec55 (c1 : Int32) {tx nl : Nat → Int32} {en at' cn pw nu x1 : Int32} {e P n : Nat} {p : Int} (he : en.toInt = e) (h600 : e ≤ 600) (hat : at'.toInt = P) (hP : P ≤ e) (hx1 : x1.toInt = n) (hpw : pw.toInt = p) (hp1 : -100000 < p) (hp2 : p < 100000) :
    ∃ ok at2 pw2, f_R_takeDecimal_55 c1 at' en cn pw tx nu nl x1 = some (ok, at2, cn, pw2, nu, nl) ∧ (n = 0 → ok = 0) ∧ (0 < n → ¬ (P < e ∧ (tx P = 101 ∨ tx P = 69)) → ok = (if P = e then 1 else 0) ∧ pw2.toInt = p) ∧ (0 < n → (P < e ∧ (tx P = 101 ∨ tx P = 69)) → ∃ m, zrn tx e (zpe tx e P) m ∧ ok = (if 0 < m ∧ zpe tx e P + m = e then 1 else 0) ∧ pw2.toInt = (if zun tx e (P + 1) = 45 then p - xC tx (zpe tx e P) m else p + xC tx (zpe tx e P) m)) := by
  have e0 : (0 : Int32).toInt = 0 := rfl
  unfold f_R_takeDecimal_55
  by_cases c0 : n = 0
  · rw [if_pos (show x1 = 0 by rw [i_eq, hx1, e0]; omega)]
    exact ⟨0, at', pw, rfl, fun _ => rfl, fun h => by omega, fun h => by omega⟩
  · rw [if_neg (show ¬ x1 = 0 by rw [i_eq, hx1, e0]; omega), R_unitAt c1 at' cn pw he h600 hat, Option.bind_some, Option.bind_some]
    by_cases cE : P < e ∧ (tx P = 101 ∨ tx P = 69)
    · have h87 : ∃ ok at2 pw2, f_R_takeDecimal_87 c1 at' en cn pw tx nu nl = some (ok, at2, cn, pw2, nu, nl) ∧ ∃ m, zrn tx e (zpe tx e P) m ∧ ok = (if 0 < m ∧ zpe tx e P + m = e then 1 else 0) ∧ pw2.toInt = (if zun tx e (P + 1) = 45 then p - xC tx (zpe tx e P) m else p + xC tx (zpe tx e P) m) := by
        have hs : (at' + 1).toInt = ((P + 1 : Nat) : Int) := i_suc hat (by omega)
        obtain ⟨m, at2, pw2, u1, u2, u3, u4⟩ := R_takeExponent c1 cn he h600 (tx := tx) hs (zsn_in cE.1) hpw hp1 hp2
        unfold f_R_takeDecimal_87
        rw [u2, Option.bind_some]
        dsimp only
        by_cases cm : 0 < m
        · rw [if_pos cm, if_neg i10, R_dec106 c1 he u3 u1.2.1]
          refine ⟨_, _, _, rfl, m, u1, ?_, u4⟩
          unfold zpe
          by_cases ce : P + 1 + zsn (zun tx e (P + 1)) + m = e
          · rw [if_pos ce, if_pos ⟨cm, ce⟩]
          · rw [if_neg ce, if_neg (fun h => ce h.2)]
        · rw [if_neg cm, if_pos rfl]
          exact ⟨_, _, _, rfl, m, u1, by rw [if_neg (fun h => cm h.1)], u4⟩
      obtain ⟨ok, at2, pw2, v1, m, v2, v3, v4⟩ := h87
      have hzu : zun tx e P = tx P := by unfold zun; rw [if_pos cE.1]
      rw [hzu, v1]
      refine ⟨ok, at2, pw2, ?_, fun h => by omega, fun _ h => absurd cE h, fun _ _ => ⟨m, v2, v3, v4⟩⟩
      rcases cE.2 with q | q
      · rw [if_pos q]
      · have q1 : ¬ tx P = 101 := by rw [q]; decide
        rw [if_neg q1, if_pos q]
    · have n101 : ¬ zun tx e P = 101 := by
        unfold zun
        by_cases c : P < e
        · rw [if_pos c]; exact fun h => cE ⟨c, Or.inl h⟩
        · rw [if_neg c]; decide
      have n69 : ¬ zun tx e P = 69 := by
        unfold zun
        by_cases c : P < e
        · rw [if_pos c]; exact fun h => cE ⟨c, Or.inr h⟩
        · rw [if_neg c]; decide
      rw [if_neg n101, if_neg n69, R_dec106 c1 he hat hP]
      exact ⟨_, _, _, rfl, fun h => by omega, fun _ _ => ⟨rfl, hpw⟩, fun _ h => absurd h cE⟩
theorem dEnd_le {tx : Nat → Int32} {e f a b P n : Nat} {S : Nat × Nat × Int} (h : dEnd tx e f a b P S n) : P ≤ e := by
  obtain ⟨h1, h2⟩ := h
  have := h1.2.1
  rcases h2 with ⟨_, h3, h4, _⟩ | ⟨_, h4, _⟩
  · have := h3.2.1
    omega
  · omega
theorem dEnd_I {tx : Nat → Int32} {e f a b P n : Nat} {S : Nat × Nat × Int} (h : dEnd tx e f a b P S n) (h600 : e ≤ 600) : dI 1200 S := by
  obtain ⟨h1, h2⟩ := h
  have up : ∀ {k : Nat} {T : Nat × Nat × Int}, dI k T → k ≤ 1200 → dI 1200 T := by
    intro k T h hk
    obtain ⟨a1, a2, a3, a4, a5⟩ := h
    exact ⟨a1, a2, a3, by omega, by omega⟩
  have i1 := dI_F (beh := false) (tx := tx) (f := f) dI_0 h1.1
  have l1 := h1.2.1
  rcases h2 with ⟨_, h3, _, h5, _⟩ | ⟨_, _, h5, _⟩
  · have i2 := dI_F (beh := true) (tx := tx) (f := f + a + 1) i1 h3.1
    have l2 := h3.2.1
    rw [h5]
    exact up i2 (by omega)
  · rw [h5]
    exact up i1 (by omega)
theorem R_takeDecimal (c1 : Int32) {tx nl : Nat → Int32} {en at' cn pw nu : Int32} {e f : Nat} (he : en.toInt = e) (h600 : e ≤ 600) (hat : at'.toInt = f) (hf : f ≤ e) :
    ∃ a b P S n ok at2 cn2 pw2 nu2 nl2, dEnd tx e f a b P S n ∧ f_R_takeDecimal c1 at' en cn pw tx nu nl = some (ok, at2, cn2, pw2, nu2, nl2) ∧ nR nu2 nl2 S.1 ∧ cn2.toInt = (S.2.1 : Int) ∧ (n = 0 → ok = 0) ∧ (0 < n → ¬ (P < e ∧ (tx P = 101 ∨ tx P = 69)) → ok = (if P = e then 1 else 0) ∧ pw2.toInt = S.2.2) ∧ (0 < n → (P < e ∧ (tx P = 101 ∨ tx P = 69)) → ∃ m, zrn tx e (zpe tx e P) m ∧ ok = (if 0 < m ∧ zpe tx e P + m = e then 1 else 0) ∧ pw2.toInt = (if zun tx e (P + 1) = 45 then S.2.2 - xC tx (zpe tx e P) m else S.2.2 + xC tx (zpe tx e P) m)) := by
  obtain ⟨u0, l0, s1, s2⟩ := N_set (us := nu) (l := nl) 0
  have s3 : nR u0 l0 ((0, 0, 0) : Nat × Nat × Int).1 := s2
  obtain ⟨a, d1, at1, cn1, pw1, nu1, nl1, t1, t2, t3, t4, t5, t6, t7⟩ := R_takeDigits c1 (tx := tx) he h600 (cn := 0) (pw := 0) (x1 := 0) (beh := false) (s := (0, 0, 0)) hat hf s3 rfl rfl dI_0 (by decide) rfl
  unfold f_R_takeDecimal
  rw [s1, Option.bind_some]
  dsimp only
  rw [t2, Option.bind_some]
  dsimp only
  rw [R_unitAt c1 at1 cn1 pw1 he h600 t4, Option.bind_some]
  have i1 := dI_F (beh := false) (tx := tx) (f := f) dI_0 t1.1
  have l1 := t1.2.1
  by_cases cd : f + a < e ∧ tx (f + a) = 46
  · have hzu : zun tx e (f + a) = 46 := by unfold zun; rw [if_pos cd.1]; exact cd.2
    rw [if_pos hzu]
    have hs : (at1 + 1).toInt = ((f + a + 1 : Nat) : Int) := i_suc t4 (by omega)
    obtain ⟨b, d2, at2, cn2, pw2, nu2, nl2, v1, v2, v3, v4, v5, v6, v7⟩ := R_takeDigits c1 (tx := tx) he h600 (x1 := 1) (beh := true) hs cd.1 t5 t6 t7 i1 (by omega) rfl
    rw [v2, Option.bind_some]
    dsimp only
    have l2 := v1.2.1
    have hE : dEnd tx e f a b (f + a + 1 + b) (dF true tx (f + a + 1) (dF false tx f (0, 0, 0) a) b) (a + b) := ⟨t1, Or.inl ⟨cd, v1, rfl, rfl, rfl⟩⟩
    have hI := dEnd_I hE h600
    have hsum : (d1 + d2).toInt = ((a + b : Nat) : Int) := by
      rw [i_add (by rw [t3, v3]; omega) (by rw [t3, v3]; omega), t3, v3]
      omega
    have hp1 := hI.2.2.2.1
    have hp2 := hI.2.2.2.2
    obtain ⟨ok, at3, pw3, w1, w2, w3, w4⟩ := R_dec55 c1 (tx := tx) (nl := nl2) (cn := cn2) (nu := nu2) he h600 v4 l2 hsum v7 (by omega) (by omega)
    rw [w1]
    exact ⟨a, b, _, _, _, ok, at3, cn2, pw3, nu2, nl2, hE, rfl, v5, v6, w2, w3, w4⟩
  · have hzu : ¬ zun tx e (f + a) = 46 := by
      unfold zun
      by_cases c : f + a < e
      · rw [if_pos c]; exact fun h => cd ⟨c, h⟩
      · rw [if_neg c]; decide
    rw [if_neg hzu]
    have hE : dEnd tx e f a 0 (f + a) (dF false tx f (0, 0, 0) a) a := ⟨t1, Or.inr ⟨cd, rfl, rfl, rfl⟩⟩
    have hI := dEnd_I hE h600
    have hp1 := hI.2.2.2.1
    have hp2 := hI.2.2.2.2
    obtain ⟨ok, at3, pw3, w1, w2, w3, w4⟩ := R_dec55 c1 (tx := tx) (nl := nl1) (cn := cn1) (nu := nu1) he h600 t4 l1 t3 t7 (by omega) (by omega)
    rw [w1]
    exact ⟨a, 0, _, _, _, ok, at3, cn1, pw3, nu1, nl1, hE, rfl, t5, t6, w2, w3, w4⟩
/-! the reference's exponent -/
theorem M_exp344 (t s o c p : Int32) {tx : Nat → Int32} {x2 : Int32} {e : Nat} (he : x2.toInt = e) (h600 : e ≤ 600) {x3 x7 x11 : Int32} {q n : Nat} (hx3 : x3.toInt = q) (hz : zrn tx e q n) {r : Nat → Int32} (g : Int64) {d : Int64}
    (hend : ∀ y3 y12, y3.toInt = ((q + n : Nat) : Int) → y12.toInt = (xM tx q n : Int) → ∃ r'', f_M_readDecimal_396 t s o c p tx r x2 y3 g x7 x11 y12 = some (d, r'') ∧ mOK r'') :
    ∃ r'', f_M_readDecimal_344 t s o c p tx r x2 x3 g x7 x11 0 = some (d, r'') ∧ mOK r'' := by
  have e48 : (48 : Int32).toInt = 48 := rfl
  have e10 : (10 : Int32).toInt = 10 := rfl
  have e100 : (100000 : Int32).toInt = 100000 := rfl
  have hqe := hz.2.1
  unfold f_M_readDecimal_344
  obtain ⟨⟨d', r'⟩, h1, h2, h3⟩ := zrun_inv (step := f_M_readDecimal_344_step t s o c p tx x2 g x7 x11) (x := (r, x3, 0)) (fun z => z.1 = r ∧ ∃ k : Nat, k ≤ n ∧ z.2.1.toInt = ((q + k : Nat) : Int) ∧ z.2.2.toInt = (xM tx q k : Int)) (fun z => (e - z.2.1.toInt).toNat)
    (fun y => y.1 = d ∧ mOK y.2) (by
      rintro ⟨w, y3, y12⟩ ⟨hw, k, hk, hy, hx⟩
      dsimp only at hw hy hx
      subst hw
      unfold f_M_readDecimal_344_step f_M_readDecimal_344_body
      dsimp only
      obtain ⟨r1, r2, r3⟩ := x_rel (tx := tx) (q := q) (k := k) (fun i hi => hz.1 i (by omega))
      by_cases ck : k < n
      · have hdg := hz.1 k ck
        have hzi : zin y3 600 := ⟨by omega, by omega⟩
        have hcl : y3.toNatClampNeg = q + k := by rw [i_cl, hy, Int.toNat_natCast]
        rw [if_neg (show ¬ x2 ≤ y3 by rw [i_le, he, hy]; omega), if_pos hzi, hcl, dg_M1 hdg, Option.bind_some, if_neg i10, if_pos hzi]
        have hmu : ((e : Int) - ((q + (k + 1) : Nat) : Int)).toNat < ((e : Int) - ((q + k : Nat) : Int)).toNat := by omega
        have hs : (y3 + 1).toInt = ((q + (k + 1) : Nat) : Int) := i_suc (k := q + k) hy (by omega)
        unfold f_M_readDecimal_388
        by_cases c1 : xM tx q k ≤ 100000
        · rw [if_pos (show y12 ≤ (100000 : Int32) by rw [i_le, e100, hx]; omega)]
          have hm : (10 * y12).toInt = ((10 * xM tx q k : Nat) : Int) := by
            rw [i_mul (by rw [hx, e10]; omega) (by rw [hx, e10]; omega), hx, e10]
            omega
          have cd1 := hdg.1
          have cd2 := hdg.2
          have hadd : (10 * y12 + tx (q + k)).toInt = ((10 * xM tx q k : Nat) : Int) + (tx (q + k)).toInt := by
            rw [i_add (by rw [hm]; omega) (by rw [hm]; omega), hm]
          have hsub : (10 * y12 + tx (q + k) - 48).toInt = ((10 * xM tx q k + zdv (tx (q + k)) : Nat) : Int) := by
            rw [i_sub (by rw [hadd, e48]; omega) (by rw [hadd, e48]; omega), hadd, e48]
            unfold zdv
            omega
          refine Or.inl ⟨_, rfl, ⟨rfl, k + 1, ck, hs, ?_⟩, by dsimp only; rw [hs]; (try rw [hy]); exact hmu⟩
          dsimp only
          rw [xM_s, if_pos c1, hsub]
        · rw [if_neg (show ¬ y12 ≤ (100000 : Int32) by rw [i_le, e100, hx]; omega)]
          refine Or.inl ⟨_, rfl, ⟨rfl, k + 1, ck, hs, ?_⟩, by dsimp only; rw [hs]; (try rw [hy]); exact hmu⟩
          dsimp only
          rw [xM_s, if_neg c1, hx]
      · have hkn : k = n := by omega
        subst hkn
        obtain ⟨r'', u1, u2⟩ := hend y3 y12 hy hx
        by_cases ce : q + k < e
        · have hzi : zin y3 600 := ⟨by omega, by omega⟩
          have hcl : y3.toNatClampNeg = q + k := by rw [i_cl, hy, Int.toNat_natCast]
          rw [if_neg (show ¬ x2 ≤ y3 by rw [i_le, he, hy]; omega), if_pos hzi, hcl, dg_M0 (hz.2.2 ce), Option.bind_some, if_pos rfl, u1]
          exact Or.inr ⟨_, rfl, rfl, u2⟩
        · rw [if_pos (show x2 ≤ y3 by rw [i_le, he, hy]; omega), u1]
          exact Or.inr ⟨_, rfl, rfl, u2⟩) ⟨rfl, 0, Nat.zero_le _, hx3, rfl⟩
  dsimp only at h2 h3
  exact ⟨r', by rw [h1, h2], h3⟩
