/-! the shortest digits: the reference -/
theorem M_drop229 (t s o : Int32) {cn pt : Int32} {out r dg : Nat → Int32} {c V : Nat} (h : eR 420 cn dg c V) : ∃ cn', f_M_shortest_229 t s o cn pt out r dg = some (cn', pt, out, r, dg) ∧ eR 420 cn' dg (dz c V).1 (dz c V).2 := by
  have e1 : (1 : Int32).toInt = 1 := rfl
  unfold f_M_shortest_229
  obtain ⟨⟨c1, p1, o1, r1, d1⟩, t1, t2, t3, t4, t5, t6⟩ := zrun_inv (step := f_M_shortest_229_step t s o) (x := (cn, pt, out, r, dg)) (fun z => z.2.1 = pt ∧ z.2.2.1 = out ∧ z.2.2.2.1 = r ∧ z.2.2.2.2 = dg ∧ ∃ c' V' : Nat, eR 420 z.1 dg c' V' ∧ dz c' V' = dz c V) (fun z => z.1.toInt.toNat) (fun y => y.2.1 = pt ∧ y.2.2.1 = out ∧ y.2.2.2.1 = r ∧ y.2.2.2.2 = dg ∧ eR 420 y.1 dg (dz c V).1 (dz c V).2) (by
    rintro ⟨z, p1, o1, r1, d1⟩ ⟨q1, q2, q3, q4, c', V', hR, hdz⟩
    dsimp only at q1 q2 q3 q4 hR
    subst q1 q2 q3 q4
    have h1 := hR.1
    have h2 := hR.2.1
    unfold f_M_shortest_229_step f_M_shortest_229_body
    dsimp only
    rw [← hdz]
    cases c' with
    | zero =>
      rw [if_pos (show z ≤ 1 by rw [i_le, h1, e1]; omega)]
      exact Or.inr ⟨_, rfl, rfl, rfl, rfl, rfl, hR⟩
    | succ c' =>
      rw [dz_s]
      by_cases c0 : 0 < c'
      · have hmu : ((c' : Int)).toNat < (((c' + 1 : Nat) : Int)).toNat := by omega
        have hz1 : (z - 1).toInt = (c' : Int) := by
          rw [i_sub (by rw [h1, e1]; omega) (by rw [h1, e1]; omega), h1, e1]
          omega
        have hd := hR.2.2.2 c' (by omega)
        have hl : zdt (c' + 1) V' c' = V' % 10 := by rw [zdt_lt (by omega), show c' + 1 - 1 - c' = 0 by omega, Nat.pow_zero, Nat.div_one]
        rw [hl] at hd
        rw [if_neg (show ¬ z ≤ 1 by rw [i_le, h1, e1]; omega), if_pos (show zin (z - 1) 420 by clear h1; exact ⟨by omega, by omega⟩), i_cl, hz1, Int.toNat_natCast]
        by_cases c9 : V' % 10 = 0
        · rw [if_pos (show d1 c' = 0 by rw [i_eq, hd, c9]; rfl)]
          refine Or.inl ⟨_, rfl, ⟨rfl, rfl, rfl, rfl, c', V' / 10, eR_drop hR c9 hz1, ?_⟩, by dsimp only; rw [hz1, h1]; exact hmu⟩
          rw [if_pos ⟨c0, c9⟩]
        · rw [if_neg (show ¬ d1 c' = 0 by rw [i_eq, hd]; show ¬ _ = (0 : Int); omega), if_neg (fun q => c9 q.2)]
          exact Or.inr ⟨_, rfl, rfl, rfl, rfl, rfl, hR⟩
      · rw [if_pos (show z ≤ 1 by rw [i_le, h1, e1]; omega), if_neg (fun q => c0 q.1)]
        exact Or.inr ⟨_, rfl, rfl, rfl, rfl, rfl, hR⟩) ⟨rfl, rfl, rfl, rfl, c, V, h, rfl⟩
  dsimp only at t2 t3 t4 t5 t6
  subst t2 t3 t4 t5
  exact ⟨c1, t1, t6⟩
theorem M_short203 (t s o c p : Int32) {out r dg : Nat → Int32} (hr : mOK r) {x3 x8 : Int32} {x13 : Int64} {k V : Nat} {P : Int} (h3 : x3.toInt = P) (hP1 : -1000 < P) (hP2 : P < 1000) (h8 : x8.toInt = k) (hk0 : 0 < k) (hk : k ≤ 17) (h13 : x13.toInt = V) (hV1 : 10 ^ (k - 1) ≤ V) (hV2 : V ≤ 10 ^ k) :
    ∃ cn' pt' out' r' dg', f_M_shortest_203 t s o c p out r dg x3 x8 x13 = some (cn', pt', out', r', dg') ∧ mOK r' ∧ eR 420 cn' dg' (dz (sC k V) V).1 (dz (sC k V) V).2 ∧ pt'.toInt = sP P k V := by
  have e1 : (1 : Int32).toInt = 1 := rfl
  obtain ⟨r1, t1, R1⟩ := M_set t s o c p hr (a := 3) (x1 := 3) (x2 := x13) (by decide) rfl
  have hv : mV r1 3 = V := by rw [R1.2.1, am_bv h13]
  obtain ⟨n, cn1, out1, r2, dg1, t2, t3, t4, t5, _⟩ := M_layRow t s o c p (out := out) (dg := dg) R1.1 hv (Nat.lt_of_le_of_lt hV2 (Nat.pow_lt_pow_right (by decide) (by omega)))
  have hn : n = sC k V := by
    unfold sC
    by_cases q : V = 10 ^ k
    · rw [if_pos q]
      exact dig_n t4.2.2.1 t5 (by rw [q]; exact Nat.le_refl _) (by omega) (by rw [q]; exact Nat.pow_lt_pow_right (by decide) (by omega))
    · rw [if_neg q]
      exact dig_n t4.2.2.1 t5 hV1 hk0 (by omega)
  rw [hn] at t4
  have hc := t4.1
  unfold f_M_shortest_203 f_M_lay f_M_shortest_226
  rw [t1, Option.bind_some, t2, Option.bind_some, Option.bind_some]
  dsimp only
  unfold sC at hc
  by_cases q : V = 10 ^ k
  · rw [if_pos q] at hc
    rw [if_neg (show ¬ cn1 ≤ x8 by rw [i_le, hc, h8]; omega)]
    obtain ⟨cn2, u1, u2⟩ := M_drop229 t s o (pt := x3 + 1) (out := out1) (r := r2) t4
    rw [u1]
    refine ⟨cn2, x3 + 1, out1, r2, dg1, rfl, t3, u2, ?_⟩
    unfold sP
    rw [if_pos q, i_add (by rw [h3, e1]; omega) (by rw [h3, e1]; omega), h3, e1]
  · rw [if_neg q] at hc
    rw [if_pos (show cn1 ≤ x8 by rw [i_le, hc, h8]; omega)]
    obtain ⟨cn2, u1, u2⟩ := M_drop229 t s o (pt := x3) (out := out1) (r := r2) t4
    rw [u1]
    refine ⟨cn2, x3, out1, r2, dg1, rfl, t3, u2, ?_⟩
    unfold sP
    rw [if_neg q]
    exact h3
theorem sF_cut {m : Nat} {E P : Int} {k : Nat} (hk : k ≤ 17) : sF m E (P - (17 : Nat)) / 10 ^ (17 - k) = sF m E (P - k) := by
  have hv := v_pow m E (P - k) (17 - k)
  rw [show P - (k : Int) - ((17 - k : Nat) : Int) = P - ((17 : Nat) : Int) by omega] at hv
  unfold sF
  rw [Nat.div_div_eq_div_mul]
  apply feq_div (Nat.mul_pos (vD_pos _ _) (p10p _)) (vD_pos _ _)
  rw [← hv, Nat.mul_assoc, Nat.mul_comm (vD E (P - (17 : Nat)))]
theorem rBe_F {m b : Nat} {ev : Bool} {E t : Int} : rBe (sF m E t) m b ev E t ↔ sSt m b ev E t := Iff.rfl
theorem rAb_F {m : Nat} {ev : Bool} {E t : Int} : rAb (sF m E t + 1) m ev E t ↔ sUp m ev E t := Iff.rfl
theorem rAb_low {m : Nat} {ev : Bool} {E t : Int} (hm0 : 0 < m) : rAb (sF m E t) m ev E t := by
  left
  have hq := vU_pos E t
  have h1 : sF m E t * vD E t ≤ vN m E t := Nat.div_mul_le_self _ _
  rw [vN_U] at h1
  generalize vN 1 E t = q at *
  have e2 : (4 * m + 2) * q = 4 * (m * q) + 2 * q := by rw [Nat.add_mul, Nat.mul_assoc]
  have e3 : sF m E t * 4 * vD E t = 4 * (sF m E t * vD E t) := by rw [Nat.mul_comm (sF m E t) 4, Nat.mul_assoc]
  rw [e2, e3]
  omega
theorem rBe_up {m b : Nat} {ev : Bool} {E t : Int} (hm0 : 0 < m) (hb : b = 1 ∨ b = 2) : rBe (sF m E t + 1) m b ev E t := by
  left
  have hq := vU_pos E t
  have h1 : vN m E t < (sF m E t + 1) * vD E t := by
    have := Nat.lt_div_mul_add (vD_pos E t) (a := vN m E t)
    rw [Nat.add_mul, Nat.one_mul]
    exact this
  rw [vN_U] at h1
  generalize vN 1 E t = q at *
  have e1 : (4 * m - b) * q = 4 * (m * q) - b * q := by rw [Nat.sub_mul, Nat.mul_assoc]
  have e3 : (sF m E t + 1) * 4 * vD E t = 4 * ((sF m E t + 1) * vD E t) := by rw [Nat.mul_comm (sF m E t + 1) 4, Nat.mul_assoc]
  rw [e1, e3]
  generalize b * q = y
  omega
theorem M_short115 (t s o c p : Int32) {out r dg : Nat → Int32} (hr : mOK r) {a : Int64} {x3 x8 x11 x12 : Int32} {x9 : Int64} {k : Nat} {P : Int} (hfin : zmg a < 9218868437227405312) (hz : zmg a ≠ 0) (hPi : isP (zam (zmg a)) ((zep (zmg a) : Int) - 1074) P) (h3 : x3.toInt = P) (hP1 : -326 ≤ P) (hP2 : P ≤ 310) (h8 : x8.toInt = k) (hk0 : 0 < k) (hk : k ≤ 17) (h9 : x9.toInt = (sF (zam (zmg a)) ((zep (zmg a) : Int) - 1074) (P - k) : Int))
    (h11 : (x11 = 0 ↔ ¬ sSt (zam (zmg a)) (zqb a) (zev a) ((zep (zmg a) : Int) - 1074) (P - k))) (h12 : (x12 = 0 ↔ ¬ sUp (zam (zmg a)) (zev a) ((zep (zmg a) : Int) - 1074) (P - k))) (hend : sEnd (zam (zmg a)) (zqb a) (zev a) ((zep (zmg a) : Int) - 1074) (P - k)) :
    ∃ cn' pt' out' r' dg', f_M_shortest_115 t s o c p out r dg a x3 x8 x9 x11 x12 = some (cn', pt', out', r', dg') ∧ mOK r' ∧ eR 420 cn' dg' (dz (sC k (sV (zam (zmg a)) (zqb a) (zev a) ((zep (zmg a) : Int) - 1074) (P - k))) (sV (zam (zmg a)) (zqb a) (zev a) ((zep (zmg a) : Int) - 1074) (P - k))).1 (dz (sC k (sV (zam (zmg a)) (zqb a) (zev a) ((zep (zmg a) : Int) - 1074) (P - k))) (sV (zam (zmg a)) (zqb a) (zev a) ((zep (zmg a) : Int) - 1074) (P - k))).2 ∧ pt'.toInt = sP P k (sV (zam (zmg a)) (zqb a) (zev a) ((zep (zmg a) : Int) - 1074) (P - k)) := by
  obtain ⟨f1, f2⟩ := sF_rng hPi hk0
  have hp17 : 10 ^ k ≤ 10 ^ 17 := p10le hk
  have e17 : (10 : Nat) ^ 17 = 100000000000000000 := by decide
  have l1 : (1 : Int64).toInt = 1 := rfl
  have l2 : (2 : Int64).toInt = 2 := rfl
  have hup : (x9 + 1).toInt = ((sF (zam (zmg a)) ((zep (zmg a) : Int) - 1074) (P - k) + 1 : Nat) : Int) := by
    rw [l_add (by rw [h9, l1]; omega) (by rw [h9, l1]; omega), h9, l1]
    omega
  -- laid, above or below
  have goUp : ∀ {r : Nat → Int32}, mOK r → sGo (zam (zmg a)) (zqb a) (zev a) ((zep (zmg a) : Int) - 1074) (P - k) → ∃ cn' pt' out' r' dg', f_M_shortest_203 t s o c p out r dg x3 x8 (x9 + 1) = some (cn', pt', out', r', dg') ∧ mOK r' ∧ eR 420 cn' dg' (dz (sC k (sV (zam (zmg a)) (zqb a) (zev a) ((zep (zmg a) : Int) - 1074) (P - k))) (sV (zam (zmg a)) (zqb a) (zev a) ((zep (zmg a) : Int) - 1074) (P - k))).1 (dz (sC k (sV (zam (zmg a)) (zqb a) (zev a) ((zep (zmg a) : Int) - 1074) (P - k))) (sV (zam (zmg a)) (zqb a) (zev a) ((zep (zmg a) : Int) - 1074) (P - k))).2 ∧ pt'.toInt = sP P k (sV (zam (zmg a)) (zqb a) (zev a) ((zep (zmg a) : Int) - 1074) (P - k)) := by
    intro r hr hgo
    rw [sV_go hgo]
    exact M_short203 t s o c p hr h3 (by omega) (by omega) h8 hk0 hk hup (by omega) (by omega)
  have stay : ∀ {r : Nat → Int32}, mOK r → ¬ sGo (zam (zmg a)) (zqb a) (zev a) ((zep (zmg a) : Int) - 1074) (P - k) → ∃ cn' pt' out' r' dg', f_M_shortest_203 t s o c p out r dg x3 x8 x9 = some (cn', pt', out', r', dg') ∧ mOK r' ∧ eR 420 cn' dg' (dz (sC k (sV (zam (zmg a)) (zqb a) (zev a) ((zep (zmg a) : Int) - 1074) (P - k))) (sV (zam (zmg a)) (zqb a) (zev a) ((zep (zmg a) : Int) - 1074) (P - k))).1 (dz (sC k (sV (zam (zmg a)) (zqb a) (zev a) ((zep (zmg a) : Int) - 1074) (P - k))) (sV (zam (zmg a)) (zqb a) (zev a) ((zep (zmg a) : Int) - 1074) (P - k))).2 ∧ pt'.toInt = sP P k (sV (zam (zmg a)) (zqb a) (zev a) ((zep (zmg a) : Int) - 1074) (P - k)) := by
    intro r hr hgo
    rw [sV_st hgo]
    exact M_short203 t s o c p hr h3 (by omega) (by omega) h8 hk0 hk h9 f1 (by omega)
  unfold f_M_shortest_115 f_M_shortest_194 f_M_shortest_180 f_M_shortest_185 f_M_shortest_189
  by_cases cs : sSt (zam (zmg a)) (zqb a) (zev a) ((zep (zmg a) : Int) - 1074) (P - k)
  · have n11 : ¬ x11 = 0 := fun w => h11.mp w cs
    rw [if_neg n11]
    by_cases cu : sUp (zam (zmg a)) (zev a) ((zep (zmg a) : Int) - 1074) (P - k)
    · have n12 : ¬ x12 = 0 := fun w => h12.mp w cu
      obtain ⟨m, hm1, hm2⟩ := M_amount a
      obtain ⟨e, he1, he2⟩ := M_power a
      have lm := @zam_lt' (zmg a)
      have le := zep_lt hfin
      have x2m : (2 * m).toInt = ((2 * zam (zmg a) : Nat) : Int) := by
        rw [l_mul (by rw [l2, hm2]; omega) (by rw [l2, hm2]; omega), l2, hm2]
        omega
      have x2v : (2 * x9).toInt = ((2 * sF (zam (zmg a)) ((zep (zmg a) : Int) - 1074) (P - k) : Nat) : Int) := by
        rw [l_mul (by rw [l2, h9]; omega) (by rw [l2, h9]; omega), l2, h9]
        omega
      have x2w : (2 * x9 + 1).toInt = ((2 * sF (zam (zmg a)) ((zep (zmg a) : Int) - 1074) (P - k) + 1 : Nat) : Int) := by
        rw [l_add (by rw [x2v, l1]; omega) (by rw [x2v, l1]; omega), x2v, l1]
        omega
      have hT : (x3 - x8).toInt = P - k := by
        rw [i_sub (by rw [h3, h8]; omega) (by rw [h3, h8]; omega), h3, h8]
      have p60 : (2 : Nat) ^ 60 = 1152921504606846976 := rfl
      obtain ⟨r1, t1, t2⟩ := M_against t s o c p hr x2w x2m (by rw [p60]; omega) (by rw [p60]; omega) hT (by omega) (by omega) he2 (by omega) (by omega)
      rw [cmpR' (E := (zep (zmg a) : Int) - 1074) (j := 2) (W4 := 8 * zam (zmg a)) (by omega) (by omega)] at t1
      clear hT x2v
      rw [if_neg n12, hm1, Option.bind_some, he1, Option.bind_some, t1, Option.bind_some]
      dsimp only
      have hbit : (x9 &&& 1).toInt = ((sF (zam (zmg a)) ((zep (zmg a) : Int) - 1074) (P - k) % 2 : Nat) : Int) := by
        rw [l_and 1 (by decide) rfl, h9]
        exact (Int.natCast_emod _ _).symm
      have hgo : sGo (zam (zmg a)) (zqb a) (zev a) ((zep (zmg a) : Int) - 1074) (P - k) ↔ sMi (zam (zmg a)) ((zep (zmg a) : Int) - 1074) (P - k) := ⟨fun w => w.2 cs, fun w => ⟨cu, fun _ => w⟩⟩
      by_cases c1 : 8 * zam (zmg a) * vN 1 ((zep (zmg a) : Int) - 1074) (P - k) < (2 * sF (zam (zmg a)) ((zep (zmg a) : Int) - 1074) (P - k) + 1) * 4 * vD ((zep (zmg a) : Int) - 1074) (P - k)
      · rw [if_pos (zsg_gt.mpr c1)]
        apply stay t2
        intro w
        rcases hgo.mp w with y | y
        · omega
        · have := y.1; omega
      · rw [if_neg (fun w => c1 (zsg_gt.mp w))]
        by_cases c2 : (2 * sF (zam (zmg a)) ((zep (zmg a) : Int) - 1074) (P - k) + 1) * 4 * vD ((zep (zmg a) : Int) - 1074) (P - k) = 8 * zam (zmg a) * vN 1 ((zep (zmg a) : Int) - 1074) (P - k)
        · rw [if_pos (zsg_0.mpr c2)]
          by_cases c3 : sF (zam (zmg a)) ((zep (zmg a) : Int) - 1074) (P - k) % 2 = 0
          · rw [if_pos (show (x9 &&& 1) = 0 by rw [l_eq, hbit, c3]; rfl)]
            apply stay t2
            intro w
            rcases hgo.mp w with y | y
            · omega
            · have := y.2; omega
          · rw [if_neg (show ¬ (x9 &&& 1) = 0 by rw [l_eq, hbit]; show ¬ _ = (0 : Int); omega)]
            apply goUp t2
            exact hgo.mpr (Or.inr ⟨c2, by omega⟩)
        · rw [if_neg (fun w => c2 (zsg_0.mp w))]
          apply goUp t2
          exact hgo.mpr (Or.inl (by omega))
    · rw [if_pos (h12.mpr cu), if_neg n11]
      exact stay hr (fun w => cu w.1)
  · have cu : sUp (zam (zmg a)) (zev a) ((zep (zmg a) : Int) - 1074) (P - k) := hend.resolve_left cs
    rw [if_pos (h11.mpr cs), if_pos (h11.mpr cs)]
    exact goUp hr ⟨cu, fun w => absurd w cs⟩
