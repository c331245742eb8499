/-! the shortest digits: the reference's loop -/
theorem p10_l {j : Nat} (h : j ≤ 17) : 10 ^ j ≤ 100000000000000000 := by
  have := p10le h
  have e : (10 : Nat) ^ 17 = 100000000000000000 := by decide
  omega
theorem M_short37 (t s o c p : Int32) {out r dg : Nat → Int32} (hr : mOK r) {a x4 : Int64} {x3 : Int32} {K : Nat} {P : Int} (hfin : zmg a < 9218868437227405312) (hz : zmg a ≠ 0) (hPi : isP (zam (zmg a)) ((zep (zmg a) : Int) - 1074) P) (h3 : x3.toInt = P) (hP1 : -326 ≤ P) (hP2 : P ≤ 310) (h4 : x4.toInt = (sF (zam (zmg a)) ((zep (zmg a) : Int) - 1074) (P - (17 : Nat)) : Int)) (hK : sK (zam (zmg a)) (zqb a) (zev a) ((zep (zmg a) : Int) - 1074) P K) :
    ∃ cn' pt' out' r' dg', f_M_shortest_37 t s o c p out r dg a x3 x4 100000000000000000 1 = some (cn', pt', out', r', dg') ∧ mOK r' ∧ eR 420 cn' dg' (dz (sC K (sV (zam (zmg a)) (zqb a) (zev a) ((zep (zmg a) : Int) - 1074) (P - K))) (sV (zam (zmg a)) (zqb a) (zev a) ((zep (zmg a) : Int) - 1074) (P - K))).1 (dz (sC K (sV (zam (zmg a)) (zqb a) (zev a) ((zep (zmg a) : Int) - 1074) (P - K))) (sV (zam (zmg a)) (zqb a) (zev a) ((zep (zmg a) : Int) - 1074) (P - K))).2 ∧ pt'.toInt = sP P K (sV (zam (zmg a)) (zqb a) (zev a) ((zep (zmg a) : Int) - 1074) (P - K)) := by
  obtain ⟨k1, k2, k3, k4⟩ := hK
  have e17 : (17 : Int32).toInt = 17 := rfl
  have l10 : (10 : Int64).toInt = 10 := rfl
  have l0 : (0 : Int64).toInt = 0 := rfl
  have l1 : (1 : Int64).toInt = 1 := rfl
  have hm0 := zam_pos hz
  have hb12 : zqb a = 1 ∨ zqb a = 2 := by
    rcases zqb_ok hz with w | w
    · exact Or.inr w
    · exact Or.inl w.1
  unfold f_M_shortest_37
  obtain ⟨⟨cn', pt', out', r', dg'⟩, g1, g2, g3, g4⟩ := zrun_inv (step := f_M_shortest_37_step t s o a x3 x4) (x := (c, p, out, r, dg, 100000000000000000, 1)) (fun z => mOK z.2.2.2.1 ∧ ∃ k : Nat, 1 ≤ k ∧ k ≤ K ∧ z.2.2.2.2.2.2.toInt = (k : Int) ∧ z.2.2.2.2.2.1.toInt = ((10 ^ (18 - k) : Nat) : Int)) (fun z => (18 - z.2.2.2.2.2.2.toInt).toNat)
    (fun y => mOK y.2.2.2.1 ∧ eR 420 y.1 y.2.2.2.2 (dz (sC K (sV (zam (zmg a)) (zqb a) (zev a) ((zep (zmg a) : Int) - 1074) (P - K))) (sV (zam (zmg a)) (zqb a) (zev a) ((zep (zmg a) : Int) - 1074) (P - K))).1 (dz (sC K (sV (zam (zmg a)) (zqb a) (zev a) ((zep (zmg a) : Int) - 1074) (P - K))) (sV (zam (zmg a)) (zqb a) (zev a) ((zep (zmg a) : Int) - 1074) (P - K))).2 ∧ y.2.1.toInt = sP P K (sV (zam (zmg a)) (zqb a) (zev a) ((zep (zmg a) : Int) - 1074) (P - K))) (by
      rintro ⟨c1, p1, o1, q, d1, x6, x8⟩ ⟨hq, k, hk1, hkK, h8, h6⟩
      dsimp only at hq h8 h6
      unfold f_M_shortest_37_step f_M_shortest_37_body
      dsimp only
      have hk17 : k ≤ 17 := by omega
      have hten : (x6 / 10).toInt = ((10 ^ (17 - k) : Nat) : Int) := by
        have e : 10 ^ (18 - k) = 10 ^ (17 - k) * 10 := by rw [← Nat.pow_succ, show (17 - k).succ = 18 - k by omega]
        rw [l_div (by rw [h6]; exact Int.natCast_nonneg _) (by decide), h6, l10, e]
        have : (((10 ^ (17 - k) * 10 : Nat) : Int)) / 10 = ((10 ^ (17 - k) : Nat) : Int) := by
          generalize 10 ^ (17 - k) = z
          omega
        exact this
      have hp0 := p10p (17 - k)
      have hp1 := p10_l (show 17 - k ≤ 17 by omega)
      obtain ⟨f1, f2⟩ := sF_rng hPi hk1
      have hpk := p10_l hk17
      have hpk0 := p10p (k - 1)
      have hlow : (x4 / (x6 / 10)).toInt = (sF (zam (zmg a)) ((zep (zmg a) : Int) - 1074) (P - k) : Int) := by
        rw [l_div (by rw [h4]; exact Int.natCast_nonneg _) (by rw [hten]; omega), h4, hten, ← sF_cut hk17]
        exact (Int.natCast_ediv _ _).symm
      rw [if_neg (show ¬ (17 : Int32) < x8 by rw [i_lt, e17, h8]; omega), if_pos (show ¬ x6 / 10 = 0 by rw [l_eq, hten, l0]; omega)]
      generalize x6 / 10 = x6' at hten hlow ⊢
      generalize x4 / x6' = lw at hlow ⊢
      rw [if_pos (show 0 < lw by rw [l_lt, l0, hlow]; omega)]
      have hT : (x3 - x8).toInt = P - k := by
        rw [i_sub (by rw [h3, h8]; omega) (by rw [h3, h8]; omega), h3, h8]
      have p60 : (2 : Nat) ^ 60 = 1152921504606846976 := rfl
      obtain ⟨d, r1, t1, t2, t3, t4⟩ := M_roundsTo t s o c1 p1 hq hfin hz hlow (by rw [p60]; omega) hT (by omega) (by omega)
      have hup : (lw + 1).toInt = ((sF (zam (zmg a)) ((zep (zmg a) : Int) - 1074) (P - k) + 1 : Nat) : Int) := by
        rw [l_add (by rw [hlow, l1]; omega) (by rw [hlow, l1]; omega), hlow, l1]
        omega
      obtain ⟨d2, r2, u1, u2, u3, u4⟩ := M_roundsTo t s o c1 p1 t2 hfin hz hup (by rw [p60]; omega) hT (by omega) (by omega)
      clear hT hup
      rw [t1, Option.bind_some]
      dsimp only
      have hs1 : d = 0 ↔ ¬ sSt (zam (zmg a)) (zqb a) (zev a) ((zep (zmg a) : Int) - 1074) (P - k) := by
        constructor
        · intro w v
          have := t3 ⟨rAb_low hm0, rBe_F.mpr v⟩
          rw [this] at w
          exact absurd w i10
        · intro w
          exact t4 (fun v => w (rBe_F.mp v.2))
      have hs2 : d2 = 0 ↔ ¬ sUp (zam (zmg a)) (zev a) ((zep (zmg a) : Int) - 1074) (P - k) := by
        constructor
        · intro w v
          have := u3 ⟨rAb_F.mpr v, rBe_up hm0 hb12⟩
          rw [this] at w
          exact absurd w i10
        · intro w
          exact u4 (fun v => w (rAb_F.mp v.1))
      have hsplit : (if d = 0 then f_M_shortest_84 t s o c1 p1 o1 r1 d1 a x3 x4 x6' x8 lw else f_M_shortest_85 t s o c1 p1 o1 r1 d1 a x3 x4 x6' x8 lw 1) = f_M_shortest_85 t s o c1 p1 o1 r1 d1 a x3 x4 x6' x8 lw (if d = 0 then 0 else 1) := by
        unfold f_M_shortest_84
        by_cases c0 : d = 0
        · rw [if_pos c0, if_pos c0]
        · rw [if_neg c0, if_neg c0]
      rw [hsplit]
      unfold f_M_shortest_85
      rw [u1, Option.bind_some]
      dsimp only
      by_cases hend : sEnd (zam (zmg a)) (zqb a) (zev a) ((zep (zmg a) : Int) - 1074) (P - k)
      · have hkk : k = K := by
          rcases Nat.lt_or_ge k K with w | w
          · exact absurd hend (k4 k hk1 w)
          · omega
        have fin : ∀ x11 : Int32, (x11 = 0 ↔ ¬ sSt (zam (zmg a)) (zqb a) (zev a) ((zep (zmg a) : Int) - 1074) (P - k)) → ∃ y, f_M_shortest_115 t s o c1 p1 o1 r2 d1 a x3 x8 lw x11 d2 = some y ∧ mOK y.2.2.2.1 ∧ eR 420 y.1 y.2.2.2.2 (dz (sC K (sV (zam (zmg a)) (zqb a) (zev a) ((zep (zmg a) : Int) - 1074) (P - K))) (sV (zam (zmg a)) (zqb a) (zev a) ((zep (zmg a) : Int) - 1074) (P - K))).1 (dz (sC K (sV (zam (zmg a)) (zqb a) (zev a) ((zep (zmg a) : Int) - 1074) (P - K))) (sV (zam (zmg a)) (zqb a) (zev a) ((zep (zmg a) : Int) - 1074) (P - K))).2 ∧ y.2.1.toInt = sP P K (sV (zam (zmg a)) (zqb a) (zev a) ((zep (zmg a) : Int) - 1074) (P - K)) := by
          intro x11 hx11
          obtain ⟨cn', pt', out', r', dg', w1, w2, w3, w4⟩ := M_short115 t s o c1 p1 (out := o1) (dg := d1) u2 hfin hz hPi h3 hP1 hP2 h8 (by omega) hk17 hlow hx11 hs2 hend
          rw [hkk] at w3 w4
          exact ⟨_, w1, w2, w3, w4⟩
        by_cases c0 : d = 0
        · rw [if_pos c0, if_pos rfl]
          have hu : sUp (zam (zmg a)) (zev a) ((zep (zmg a) : Int) - 1074) (P - k) := hend.resolve_left (hs1.mp c0)
          rw [if_neg (fun w => hs2.mp w hu)]
          obtain ⟨y, y1, y2⟩ := fin 0 ⟨fun _ => hs1.mp c0, fun _ => rfl⟩
          rw [y1]
          exact Or.inr ⟨y, rfl, y2⟩
        · rw [if_neg c0, if_neg i10]
          obtain ⟨y, y1, y2⟩ := fin 1 ⟨fun w => absurd w i10, fun w => absurd (hs1.mpr w) c0⟩
          rw [y1]
          exact Or.inr ⟨y, rfl, y2⟩
      · have hn1 : d = 0 := hs1.mpr (fun w => hend (Or.inl w))
        have hn2 : d2 = 0 := hs2.mpr (fun w => hend (Or.inr w))
        have hkk : k < K := by
          rcases Nat.lt_or_ge k K with w | w
          · exact w
          · have : k = K := by omega
            rw [this] at hend
            exact absurd k3 hend
        rw [if_pos hn1, if_pos rfl, if_pos hn2]
        have hs : (x8 + 1).toInt = ((k + 1 : Nat) : Int) := i_suc h8 (by omega)
        exact Or.inl ⟨_, rfl, ⟨u2, k + 1, by omega, hkk, hs, by rw [show 18 - (k + 1) = 17 - k by omega]; exact hten⟩, by dsimp only; rw [hs, h8]; exact mu_up (u := 18) (by omega)⟩) ⟨hr, 1, by omega, k1, rfl, by
        show (100000000000000000 : Int64).toInt = ((10 ^ 17 : Nat) : Int)
        decide⟩
  exact ⟨cn', pt', out', r', dg', g1, g2, g3, g4⟩
theorem M_shortest (t s o c p : Int32) {out r dg : Nat → Int32} (hr : mOK r) {a : Int64} {K : Nat} {P : Int} (hfin : zmg a < 9218868437227405312) (hz : zmg a ≠ 0) (hPi : isP (zam (zmg a)) ((zep (zmg a) : Int) - 1074) P) (hP1 : -326 ≤ P) (hP2 : P ≤ 310) (hK : sK (zam (zmg a)) (zqb a) (zev a) ((zep (zmg a) : Int) - 1074) P K) :
    ∃ cn' pt' out' r' dg', f_M_shortest t s o c p out r dg a = some (cn', pt', out', r', dg') ∧ mOK r' ∧ eR 420 cn' dg' (dz (sC K (sV (zam (zmg a)) (zqb a) (zev a) ((zep (zmg a) : Int) - 1074) (P - K))) (sV (zam (zmg a)) (zqb a) (zev a) ((zep (zmg a) : Int) - 1074) (P - K))).1 (dz (sC K (sV (zam (zmg a)) (zqb a) (zev a) ((zep (zmg a) : Int) - 1074) (P - K))) (sV (zam (zmg a)) (zqb a) (zev a) ((zep (zmg a) : Int) - 1074) (P - K))).2 ∧ pt'.toInt = sP P K (sV (zam (zmg a)) (zqb a) (zev a) ((zep (zmg a) : Int) - 1074) (P - K)) := by
  obtain ⟨d, r1, P', t1, t2, t3, t4, t5, t6⟩ := M_decimals t s o c p hr hfin hz
  have hPP := isP_uniq t4 hPi
  subst hPP
  have e17 : (17 : Int32).toInt = 17 := rfl
  have hsub : (d - 17).toInt = P' - (17 : Nat) := by
    rw [i_sub (by rw [t3, e17]; omega) (by rw [t3, e17]; omega), t3, e17]
    omega
  obtain ⟨r2, u1, u2, u3, u4⟩ := M_fraction t s o c p t2 hfin hsub (by omega) (by omega)
  have hrng := sF_rng hPi (w := 17) (by decide)
  have hD := vD_pos ((zep (zmg a) : Int) - 1074) (P' - (17 : Nat))
  have le := zep_lt hfin
  have bD : vD ((zep (zmg a) : Int) - 1074) (P' - (17 : Nat)) < 2 ^ 2340 := by
    unfold vD
    have h1 : 10 ^ (P' - (17 : Nat)).toNat ≤ 2 ^ 1264 := Nat.le_trans (p10le (show (P' - (17 : Nat)).toNat ≤ 380 by omega)) (by decide +kernel)
    have h2 : 2 ^ (-((zep (zmg a) : Int) - 1074)).toNat ≤ 2 ^ 1074 := p2le (by omega)
    have h5 := Nat.mul_le_mul h1 h2
    rw [← Nat.pow_add] at h5
    exact Nat.lt_of_le_of_lt h5 (p2lt (by decide))
  obtain ⟨r3, w1, w2, w3, _⟩ := M_quotient t s o c p u2 (n := 60) (x1 := 60) rfl (by decide) (by rw [u4]; exact hD) (by
    rw [u4]
    apply mTop_big
    have h1 : vD ((zep (zmg a) : Int) - 1074) (P' - (17 : Nat)) * 2 ^ 60 < 2 ^ 2340 * 2 ^ 60 := (Nat.mul_lt_mul_right (p2pos _)).mpr bD
    rw [← Nat.pow_add] at h1
    exact h1) (by
    rw [u3, u4]
    have h1 := hrng.2
    unfold sF at h1
    have h2 : vN (zam (zmg a)) ((zep (zmg a) : Int) - 1074) (P' - (17 : Nat)) < vD ((zep (zmg a) : Int) - 1074) (P' - (17 : Nat)) * 10 ^ 17 := (Nat.div_lt_iff_lt_mul hD).mp h1 |> fun w => by rw [Nat.mul_comm]; exact w
    have h3 : vD ((zep (zmg a) : Int) - 1074) (P' - (17 : Nat)) * 10 ^ 17 ≤ vD ((zep (zmg a) : Int) - 1074) (P' - (17 : Nat)) * 2 ^ (60 + 1) := Nat.mul_le_mul_left _ (by decide)
    exact Nat.lt_of_lt_of_le h2 h3)
  rw [u3, u4] at w3
  have hbF : mV r3 3 = sF (zam (zmg a)) ((zep (zmg a) : Int) - 1074) (P' - (17 : Nat)) := w3
  obtain ⟨al, v1, v2⟩ := M_bits t s o c p w2 (a := 3) (n := 0) (x1 := 3) (x2 := 0) (by decide) rfl rfl (by decide)
  rw [hbF, Nat.pow_zero, Nat.div_one, Nat.mod_eq_of_lt (Nat.lt_of_lt_of_le hrng.2 (by decide))] at v2
  unfold f_M_shortest
  rw [t1, Option.bind_some]
  dsimp only
  rw [u1, Option.bind_some, w1, Option.bind_some, v1, Option.bind_some]
  exact M_short37 t s o c p w2 hfin hz hPi t3 hP1 hP2 v2 hK
