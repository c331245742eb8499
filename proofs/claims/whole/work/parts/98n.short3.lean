/-! the shortest digits: the class's loop -/
theorem E_makeShortest84 {cn pt ru su bu au uu : Int32} {dg rl sl bl al ul : Nat → Int32} {R S B n m b K : Nat} {E P : Int} {ev : Bool} {x3 : Int32} (hm0 : 0 < m) (hP : isP m E P) (hPb1 : -326 ≤ P) (hPb2 : P ≤ 310) (hRm : R = 4 * m * B) (hf : R * vD E P = vN m E P * S) (hS0 : 0 < S) (hB0 : 0 < B) (hn : su.toInt = ((n + 1 : Nat) : Int)) (hz : zlen S = 30 * (n + 1)) (hn42 : n < 42) (hb : b = 1 ∨ b = 2)
    (hcn : cn = 0) (hpt : pt.toInt = P) (hNR : nR ru rl R) (hNS : nR su sl S) (hNB : nR bu bl (b * B)) (hNA : nR au al (2 * B)) (hx3 : x3 = if ev = true then 1 else 0) (hK : sK m b ev E P K) :
    ∃ cn' pt' dg' y, f_E_makeShortest_84 cn pt dg ru rl su sl bu bl au al uu ul x3 0 0 = some (cn', pt', dg', y) ∧ eR 48 cn' dg' (dz (sC K (sV m b ev E (P - K))) (sV m b ev E (P - K))).1 (dz (sC K (sV m b ev E (P - K))) (sV m b ev E (P - K))).2 ∧ pt'.toInt = sP P K (sV m b ev E (P - K)) := by
  obtain ⟨k1, k2, k3, k4⟩ := hK
  have hRS := isP_RS hP hf hS0
  have e17 : (17 : Int32).toInt = 17 := rfl
  have hBS : 4 * B ≤ R := by
    rw [hRm]
    exact Nat.mul_le_mul_right _ (by omega)
  subst hcn
  unfold f_E_makeShortest_84
  obtain ⟨⟨cn', pt', dg', y⟩, h1, h2, h3⟩ := zrun_inv (step := f_E_makeShortest_84_step x3) (x := (0, pt, dg, ru, rl, su, sl, bu, bl, au, al, uu, ul, 0, 0)) (fun z => z.2.2.2.2.2.1 = su ∧ z.2.2.2.2.2.2.1 = sl ∧ ∃ k : Nat, k ≤ K ∧ z.2.2.2.2.2.2.2.2.2.2.2.2.2.2.toInt = (k : Int) ∧ ((z.2.2.2.2.2.2.2.2.2.2.2.2.2.1 = 0 ∧ k < K ∧ eR 48 z.1 z.2.2.1 k (R * 10 ^ k / S) ∧ z.2.1.toInt = P ∧ nR z.2.2.2.1 z.2.2.2.2.1 (R * 10 ^ k % S) ∧ nR z.2.2.2.2.2.2.2.1 z.2.2.2.2.2.2.2.2.1 (b * B * 10 ^ k) ∧ nR z.2.2.2.2.2.2.2.2.2.1 z.2.2.2.2.2.2.2.2.2.2.1 (2 * B * 10 ^ k) ∧ b * B * 10 ^ k ≤ S ∧ 2 * B * 10 ^ k ≤ S) ∨ (z.2.2.2.2.2.2.2.2.2.2.2.2.2.1 = 1 ∧ k = K ∧ eR 48 z.1 z.2.2.1 (sC K (sV m b ev E (P - K))) (sV m b ev E (P - K)) ∧ z.2.1.toInt = sP P K (sV m b ev E (P - K))))) (fun z => (18 - z.2.2.2.2.2.2.2.2.2.2.2.2.2.2.toInt).toNat)
    (fun y => eR 48 y.1 y.2.2.1 (dz (sC K (sV m b ev E (P - K))) (sV m b ev E (P - K))).1 (dz (sC K (sV m b ev E (P - K))) (sV m b ev E (P - K))).2 ∧ y.2.1.toInt = sP P K (sV m b ev E (P - K))) (by
      rintro ⟨c1, p1, d1, r1, rl1, s1, sl1, bu1, bl1, au1, al1, u1, ul1, fl, x6⟩ ⟨q1, q2, k, hk, hx6, hst⟩
      dsimp only at q1 q2 hx6 hst
      subst q1 q2
      unfold f_E_makeShortest_84_step f_E_makeShortest_84_body f_E_makeShortest_154
      dsimp only
      rcases hst with ⟨hfl, hkK, hE, hp1, hNr, hNb, hNa, hsB, hsA⟩ | ⟨hfl, hkK, hE, hp1⟩
      · rw [if_neg (show ¬ (17 : Int32) ≤ x6 by rw [i_le, e17, hx6]; omega), if_pos hfl]
        obtain ⟨ru', rl', bu', bl', au', al', r2, rl2, dd, cn1, dg1, fl', cn', pt', dg', uu', ul', a1, a2, a3, a4, a5, a6, a7, a8, a9, a10⟩ := E_short_step (uu := u1) (ul := ul1) hm0 hP hPb1 hPb2 hRm hf hS0 hB0 hn hz hn42 hb hE (by omega) hp1 hNr hNS hNb hNa hsB hsA hx3
        rw [a1, Option.bind_some]
        dsimp only
        rw [a2, Option.bind_some]
        dsimp only
        rw [a3, Option.bind_some]
        dsimp only
        rw [a4, Option.bind_some]
        dsimp only
        rw [a5, Option.bind_some]
        dsimp only
        rw [a6, Option.bind_some]
        have hs : (x6 + 1).toInt = ((k + 1 : Nat) : Int) := i_suc hx6 (by omega)
        have hmu : ((18 : Int) - ((k + 1 : Nat) : Int)).toNat < ((18 : Int) - (k : Int)).toNat := mu_up (u := 18) (by omega)
        rcases a10 with ⟨e1, e2, e3, e4⟩ | ⟨e1, e2, e3, e4, e5, e6⟩
        · have hKk : k + 1 = K := by
            rcases Nat.lt_or_ge (k + 1) K with w | w
            · exact absurd e1 (k4 (k + 1) (by omega) w)
            · omega
          rw [hKk] at e3 e4
          exact Or.inl ⟨_, rfl, ⟨rfl, rfl, k + 1, by omega, hs, Or.inr ⟨e2, hKk, e3, e4⟩⟩, by dsimp only; rw [hs, hx6]; exact hmu⟩
        · have hKk : k + 1 < K := by
            rcases Nat.lt_or_ge (k + 1) K with w | w
            · exact w
            · have : k + 1 = K := by omega
              rw [this] at e1
              exact absurd k3 e1
          exact Or.inl ⟨_, rfl, ⟨rfl, rfl, k + 1, by omega, hs, Or.inl ⟨e2, hKk, e3, e4, a7, a8, a9, e5, e6⟩⟩, by dsimp only; rw [hs, hx6]; exact hmu⟩
      · obtain ⟨c2, v1, v2⟩ := E_dropTrailing (pt := p1) hE
        rw [v1, Option.bind_some]
        have hfin : ∃ r, some (c2, p1, d1, r1, rl1, s1, sl1, bu1, bl1, au1, al1, u1, ul1) = some r ∧ eR 48 r.1 r.2.2.1 (dz (sC K (sV m b ev E (P - K))) (sV m b ev E (P - K))).1 (dz (sC K (sV m b ev E (P - K))) (sV m b ev E (P - K))).2 ∧ r.2.1.toInt = sP P K (sV m b ev E (P - K)) := ⟨_, rfl, v2, hp1⟩
        obtain ⟨r, w1, w2⟩ := hfin
        right
        by_cases c17 : (17 : Int32) ≤ x6
        · rw [if_pos c17, w1]
          exact ⟨r, rfl, w2⟩
        · rw [if_neg c17, if_neg (show ¬ fl = 0 by rw [hfl]; exact i10), w1]
          exact ⟨r, rfl, w2⟩) ⟨rfl, rfl, 0, Nat.zero_le _, rfl, Or.inl ⟨rfl, k1, by
          rw [Nat.pow_zero, Nat.mul_one, Nat.div_eq_of_lt hRS]
          exact eR_0 48 dg, hpt, by
          rw [Nat.pow_zero, Nat.mul_one, Nat.mod_eq_of_lt hRS]
          exact hNR, by
          rw [Nat.pow_zero, Nat.mul_one]
          exact hNB, by
          rw [Nat.pow_zero, Nat.mul_one]
          exact hNA, by
          rw [Nat.pow_zero, Nat.mul_one]
          rcases hb with w | w
          · rw [w]; omega
          · rw [w]; omega, by
          rw [Nat.pow_zero, Nat.mul_one]
          omega⟩⟩
  exact ⟨cn', pt', dg', y, h1, h2, h3⟩
/-- how many quarters of a last place lie below -/
def zqb (x : Int64) : Nat := if zmg x % 4503599627370496 = 0 ∧ 0 < zep (zmg x) then 1 else 2
def zev (x : Int64) : Bool := decide (zmg x % 2 = 0)
theorem zqb_ok {x : Int64} (hz : zmg x ≠ 0) : zqb x = 2 ∨ (zqb x = 1 ∧ zam (zmg x) = 4503599627370496) := by
  unfold zqb
  by_cases c : zmg x % 4503599627370496 = 0 ∧ 0 < zep (zmg x)
  · rw [if_pos c]
    right
    refine ⟨rfl, ?_⟩
    have h1 := c.1
    have h2 := c.2
    unfold zep at h2
    unfold zam
    rw [if_neg (by omega)]
    omega
  · rw [if_neg c]
    left
    rfl
theorem E_makeShortest {cn pt ru su bu au uu : Int32} {dg rl sl bl al ul : Nat → Int32} {x : Int64} (hfin : zmg x < 9218868437227405312) (hz : zmg x ≠ 0) :
    ∃ cn' pt' dg' y P K, isP (zam (zmg x)) ((zep (zmg x) : Int) - 1074) P ∧ -326 ≤ P ∧ P ≤ 310 ∧ sK (zam (zmg x)) (zqb x) (zev x) ((zep (zmg x) : Int) - 1074) P K ∧ f_E_makeShortest cn pt dg ru rl su sl bu bl au al uu ul x = some (cn', pt', dg', y) ∧ eR 48 cn' dg' (dz (sC K (sV (zam (zmg x)) (zqb x) (zev x) ((zep (zmg x) : Int) - 1074) (P - K))) (sV (zam (zmg x)) (zqb x) (zev x) ((zep (zmg x) : Int) - 1074) (P - K))).1 (dz (sC K (sV (zam (zmg x)) (zqb x) (zev x) ((zep (zmg x) : Int) - 1074) (P - K))) (sV (zam (zmg x)) (zqb x) (zev x) ((zep (zmg x) : Int) - 1074) (P - K))).2 ∧ pt'.toInt = sP P K (sV (zam (zmg x)) (zqb x) (zev x) ((zep (zmg x) : Int) - 1074) (P - K)) := by
  obtain ⟨pt1, r1, rl1, s1, sl1, b1', bl1, P, R, S, B, n, t1, t2, t3, t4, t5, t6, t7, t8, t9, t10, t11, t12, t13, t14, t15⟩ := E_begin (cn := cn) (pt := pt) (ru := ru) (su := su) (bu := bu) (rl := rl) (sl := sl) (bl := bl) hfin hz
  have hm0 := zam_pos hz
  have hRS := isP_RS t3 t10 t11
  obtain ⟨K, hK⟩ := sK_ex (b := zqb x) (ev := zev x) t3 zam_lt' hm0 (zqb_ok hz)
  have hBS : 4 * B ≤ R := by
    rw [t9]
    exact Nat.mul_le_mul_right _ (by omega)
  have fitS : ∀ {v : Nat}, v < S → v * 2 ^ 1 < 1073741824 ^ 48 := by
    intro v hv
    have : zlen v ≤ 30 * (n + 1) := by rw [← t13]; exact zlen_mono (Nat.lt_trans hv (zlen_lt S))
    exact n_fits this (by omega)
  obtain ⟨al1, a1, a2⟩ := N_copy (us := au) (l := al) t8
  obtain ⟨au2, al2, a3, a4⟩ := N_shiftUp a2 (x := 1) (n := 1) rfl (fitS (by omega))
  obtain ⟨bu2, bl2, a5, a6⟩ := N_shiftUp t8 (x := 1) (n := 1) rfl (fitS (by omega))
  rw [Nat.pow_one, Nat.mul_comm] at a4 a6
  have hev : (if (x &&& 1) = 0 then f_E_makeShortest_18 0 pt1 dg r1 rl1 s1 sl1 b1' bl1 au al uu ul x 1 else f_E_makeShortest_18 0 pt1 dg r1 rl1 s1 sl1 b1' bl1 au al uu ul x 0) = f_E_makeShortest_18 0 pt1 dg r1 rl1 s1 sl1 b1' bl1 au al uu ul x (if zev x = true then 1 else 0) := by
    have hbit : (x &&& 1).toInt = ((zmg x % 2 : Nat) : Int) := by
      have h := l_andN (x := x) (m := 1) 1 (by decide) rfl
      rw [h]
      unfold zmg
      rw [Nat.pow_one]
      omega
    unfold zev
    by_cases c : zmg x % 2 = 0
    · rw [if_pos (show (x &&& 1) = 0 by rw [l_eq, hbit, c]; rfl), decide_eq_true c, if_pos rfl]
    · rw [if_neg (show ¬ (x &&& 1) = 0 by rw [l_eq, hbit]; show ¬ _ = (0 : Int); omega), decide_eq_false c, if_neg (by decide)]
  have h44 : ∀ (s0 : Int32), (s0 = 0 ↔ zqb x = 2) → ∃ cn' pt' dg' y, f_E_makeShortest_44 0 pt1 dg r1 rl1 s1 sl1 b1' bl1 au al uu ul (if zev x = true then 1 else 0) s0 = some (cn', pt', dg', y) ∧ eR 48 cn' dg' (dz (sC K (sV (zam (zmg x)) (zqb x) (zev x) ((zep (zmg x) : Int) - 1074) (P - K))) (sV (zam (zmg x)) (zqb x) (zev x) ((zep (zmg x) : Int) - 1074) (P - K))).1 (dz (sC K (sV (zam (zmg x)) (zqb x) (zev x) ((zep (zmg x) : Int) - 1074) (P - K))) (sV (zam (zmg x)) (zqb x) (zev x) ((zep (zmg x) : Int) - 1074) (P - K))).2 ∧ pt'.toInt = sP P K (sV (zam (zmg x)) (zqb x) (zev x) ((zep (zmg x) : Int) - 1074) (P - K)) := by
    intro s0 hs0
    unfold f_E_makeShortest_44 f_E_makeShortest_78
    rw [a1, Option.bind_some]
    dsimp only
    rw [a3, Option.bind_some]
    dsimp only
    by_cases c : zqb x = 2
    · rw [if_pos (hs0.mpr c), a5, Option.bind_some]
      dsimp only
      exact E_makeShortest84 hm0 t3 t4 t5 t9 t10 t11 t12 t14 t13 t15 (Or.inr c) rfl t2 t6 t7 (by rw [c]; exact a6) a4 rfl hK
    · have c1 : zqb x = 1 := by
        rcases zqb_ok hz with w | w
        · exact absurd w c
        · exact w.1
      rw [if_neg (fun w => c (hs0.mp w))]
      exact E_makeShortest84 hm0 t3 t4 t5 t9 t10 t11 t12 t14 t13 t15 (Or.inl c1) rfl t2 t6 t7 (by rw [c1, Nat.one_mul]; exact t8) a4 rfl hK
  unfold f_E_makeShortest
  rw [t1, Option.bind_some]
  dsimp only
  rw [hev]
  unfold f_E_makeShortest_18 f_E_makeShortest_43
  have hfr := l_frac x
  obtain ⟨e, he1, he2⟩ := B_exponent x
  have em : (-1074 : Int32).toInt = -1074 := rfl
  have fin : ∀ {o : Option (Int32 × Int32 × (Nat → Int32) × Int32 × (Nat → Int32) × Int32 × (Nat → Int32) × Int32 × (Nat → Int32) × Int32 × (Nat → Int32) × Int32 × (Nat → Int32))}, (∃ cn' pt' dg' y, o = some (cn', pt', dg', y) ∧ eR 48 cn' dg' (dz (sC K (sV (zam (zmg x)) (zqb x) (zev x) ((zep (zmg x) : Int) - 1074) (P - K))) (sV (zam (zmg x)) (zqb x) (zev x) ((zep (zmg x) : Int) - 1074) (P - K))).1 (dz (sC K (sV (zam (zmg x)) (zqb x) (zev x) ((zep (zmg x) : Int) - 1074) (P - K))) (sV (zam (zmg x)) (zqb x) (zev x) ((zep (zmg x) : Int) - 1074) (P - K))).2 ∧ pt'.toInt = sP P K (sV (zam (zmg x)) (zqb x) (zev x) ((zep (zmg x) : Int) - 1074) (P - K))) → ∃ cn' pt' dg' y P K, isP (zam (zmg x)) ((zep (zmg x) : Int) - 1074) P ∧ -326 ≤ P ∧ P ≤ 310 ∧ sK (zam (zmg x)) (zqb x) (zev x) ((zep (zmg x) : Int) - 1074) P K ∧ o = some (cn', pt', dg', y) ∧ eR 48 cn' dg' (dz (sC K (sV (zam (zmg x)) (zqb x) (zev x) ((zep (zmg x) : Int) - 1074) (P - K))) (sV (zam (zmg x)) (zqb x) (zev x) ((zep (zmg x) : Int) - 1074) (P - K))).1 (dz (sC K (sV (zam (zmg x)) (zqb x) (zev x) ((zep (zmg x) : Int) - 1074) (P - K))) (sV (zam (zmg x)) (zqb x) (zev x) ((zep (zmg x) : Int) - 1074) (P - K))).2 ∧ pt'.toInt = sP P K (sV (zam (zmg x)) (zqb x) (zev x) ((zep (zmg x) : Int) - 1074) (P - K)) := by
    rintro o ⟨c, p, d, y, w1, w2, w3⟩
    exact ⟨c, p, d, y, P, K, t3, t4, t5, hK, w1, w2, w3⟩
  have h2 : ¬ (zmg x % 4503599627370496 = 0 ∧ 0 < zep (zmg x)) → zqb x = 2 := by
    intro h
    unfold zqb
    rw [if_neg h]
  by_cases cf : zmg x % 4503599627370496 = 0
  · rw [if_pos (show (x &&& 4503599627370495) = 0 by rw [l_eq, hfr, cf]; rfl), he1, Option.bind_some]
    by_cases ce : 0 < zep (zmg x)
    · rw [if_neg (show ¬ e ≤ (-1074) by rw [i_le, he2, em]; omega)]
      apply fin
      apply h44
      have : zqb x = 1 := by unfold zqb; rw [if_pos ⟨cf, ce⟩]
      rw [this]
      exact ⟨fun w => absurd w i10, fun w => absurd w (by decide)⟩
    · rw [if_pos (show e ≤ (-1074) by rw [i_le, he2, em]; omega)]
      apply fin
      apply h44
      exact ⟨fun _ => h2 (fun w => ce w.2), fun _ => rfl⟩
  · rw [if_neg (show ¬ (x &&& 4503599627370495) = 0 by rw [l_eq, hfr]; show ¬ _ = (0 : Int); omega)]
    apply fin
    apply h44
    exact ⟨fun _ => h2 (fun w => cf w.1), fun _ => rfl⟩
