/-! decimals: the reference; begin: the class -/
theorem M_leading {x : Int64} {m : Nat} (hx : x.toInt = m) (hm : m ≠ 0) : ∃ d, f_M_leading x = some d ∧ d.toInt = 64 - (zlen m : Int) := by
  have rx := l_rng x
  have hz : zlen m ≤ 63 := zlen_mono (by omega)
  have hz0 := zlen_pos (Nat.pos_of_ne_zero hm)
  have e64 : (64 : Int32).toInt = 64 := rfl
  have e63 : (63 : Int32).toInt = 63 := rfl
  unfold f_M_leading f_M_leading_2
  refine zrun_inv (step := f_M_leading_2_step x) (x := 0) (fun z => ∃ n : Nat, n ≤ 64 - zlen m ∧ z.toInt = (n : Int)) (fun z => (64 - z.toInt).toNat) (fun d => d.toInt = 64 - (zlen m : Int)) ?_ ⟨0, Nat.zero_le _, rfl⟩
  rintro z ⟨n, hn, hz1⟩
  unfold f_M_leading_2_step f_M_leading_2_body
  rw [if_neg (show ¬ (64 : Int32) ≤ z by rw [i_le, e64, hz1]; omega)]
  have hs : (63 - z).toInt = ((63 - n : Nat) : Int) := by
    rw [i_sub (by rw [e63, hz1]; omega) (by rw [e63, hz1]; omega), e63, hz1]
    omega
  have hq : (jlshr x (63 - z)).toInt = ((m / 2 ^ (63 - n) : Nat) : Int) := by
    rw [l_shr hs (by omega), hx]
    exact (Int.natCast_ediv _ _).symm
  clear hs
  by_cases c : n = 64 - zlen m
  · have hne : m / 2 ^ (63 - n) ≠ 0 := by
      have h1 := zlen_ge (n := m) (k := 63 - n) (by omega)
      have := Nat.div_pos h1 (p2pos _)
      omega
    rw [if_neg (show ¬ jlshr x (63 - z) = 0 by rw [l_eq, hq]; show ¬ _ = (0 : Int); omega)]
    exact Or.inr ⟨_, rfl, by rw [hz1]; omega⟩
  · have h0 : m / 2 ^ (63 - n) = 0 := Nat.div_eq_of_lt (Nat.lt_of_lt_of_le (zlen_lt m) (p2le (by omega)))
    rw [if_pos (show jlshr x (63 - z) = 0 by rw [l_eq, hq, h0]; rfl)]
    clear hq
    have hs : (z + 1).toInt = ((n + 1 : Nat) : Int) := i_suc hz1 (by omega)
    exact Or.inl ⟨_, rfl, ⟨n + 1, by omega, hs⟩, by rw [hs, hz1]; exact mu_up (u := 64) (by omega)⟩
theorem i_tdiv {x : Int32} {v : Int} (hx : x.toInt = v) : (x / 100000).toInt = if 0 ≤ v then v / 100000 else -((-v) / 100000) := by
  have rx := i_rng x
  have e : (100000 : Int32).toInt = 100000 := rfl
  rw [Int32.toInt_div, hx, e]
  by_cases c : 0 ≤ v
  · rw [if_pos c, Int.tdiv_eq_ediv_of_nonneg c]
    exact Int.bmod_eq_of_le (by omega) (by omega)
  · have e2 : v.tdiv 100000 = -((-v) / 100000) := by
      have h := Int.neg_tdiv (-v) 100000
      rw [Int.neg_neg, Int.tdiv_eq_ediv_of_nonneg (show 0 ≤ -v by omega)] at h
      exact h
    rw [if_neg c, e2]
    exact Int.bmod_eq_of_le (by omega) (by omega)
theorem cI_rng {p : Int} (h1 : -1074 ≤ p) (h2 : p ≤ 1024) : -326 ≤ cI p ∧ cI p ≤ 308 := by
  unfold cI
  split <;> omega
theorem cK_rng {p : Int} (h1 : -1074 ≤ p) (h2 : p ≤ 1024) : -324 ≤ cK p ∧ cK p ≤ 308 := by
  unfold cK
  omega
/-- where a number's places before the point end -/
theorem M_decimals (t s o c p : Int32) {r : Nat → Int32} (hr : mOK r) {a : Int64} (hfin : zmg a < 9218868437227405312) (hz : zmg a ≠ 0) :
    ∃ d r' P, f_M_decimals t s o c p r a = some (d, r') ∧ mOK r' ∧ d.toInt = P ∧ isP (zam (zmg a)) ((zep (zmg a) : Int) - 1074) P ∧ -326 ≤ P ∧ P ≤ 310 := by
  obtain ⟨m, hm1, hm2⟩ := M_amount a
  obtain ⟨e, he1, he2⟩ := M_power a
  have hne : zam (zmg a) ≠ 0 := Nat.ne_of_gt (zam_pos hz)
  obtain ⟨l, l1, l2⟩ := M_leading hm2 hne
  have le := zep_lt hfin
  have hz53 : zlen (zam (zmg a)) ≤ 53 := zlen_mono zam_lt'
  have hz0 := zlen_pos (zam_pos hz)
  have e64 : (64 : Int32).toInt = 64 := rfl
  have e1 : (1 : Int32).toInt = 1 := rfl
  have ec : (30103 : Int32).toInt = 30103 := rfl
  obtain ⟨E, hE⟩ : ∃ E : Int, E = (zep (zmg a) : Int) - 1074 := ⟨_, rfl⟩
  rw [← hE] at he2 ⊢
  obtain ⟨q, hq⟩ : ∃ q : Int, q = (zlen (zam (zmg a)) : Int) + E - 1 := ⟨_, rfl⟩
  have hq1 : -1074 ≤ q := by omega
  have hq2 : q ≤ 1024 := by omega
  have x1 : (64 - l).toInt = (zlen (zam (zmg a)) : Int) := by
    rw [i_sub (by rw [e64, l2]; omega) (by rw [e64, l2]; omega), e64, l2]
    omega
  have x2 : (64 - l + e).toInt = q + 1 := by
    rw [i_add (by rw [x1, he2]; omega) (by rw [x1, he2]; omega), x1, he2]
    omega
  have x3 : (64 - l + e - 1).toInt = q := by
    rw [i_sub (by rw [x2, e1]; omega) (by rw [x2, e1]; omega), x2, e1]
    omega
  have x4 : ((64 - l + e - 1) * 30103).toInt = q * 30103 := by
    rw [i_mul (by rw [x3, ec]; omega) (by rw [x3, ec]; omega), x3, ec]
  have x5 := i_tdiv x4
  have hcr := cI_rng hq1 hq2
  have x6 : ((64 - l + e - 1) * 30103 / 100000 - 1).toInt = cI q := by
    have hc : cI q = (if 0 ≤ q * 30103 then q * 30103 / 100000 else -((-(q * 30103)) / 100000)) - 1 := rfl
    rw [hc] at hcr ⊢
    rw [← x5] at hcr ⊢
    rw [i_sub (by rw [e1]; omega) (by rw [e1]; omega), e1]
  clear x1 x2 x3 x4 x5
  obtain ⟨ch1, ch2, ch3⟩ := chk_p hq1 (show q < 1026 by omega)
  rw [hq] at ch1 ch2 ch3
  have lowI := v_ge hne ch3
  have topK := v_lt (m := zam (zmg a)) ch2
  rw [← hq] at lowI topK
  have hkr := cK_rng hq1 hq2
  unfold f_M_decimals
  rw [hm1, Option.bind_some, l1, Option.bind_some, he1, Option.bind_some]
  generalize (64 - l + e - 1) * 30103 / 100000 - 1 = y at x6 ⊢
  unfold f_M_decimals_33
  obtain ⟨⟨d, r'⟩, h1, h2, P, h3, h4, h5⟩ := zrun_inv (step := f_M_decimals_33_step t s o c p a) (x := (r, y, 1)) (fun z => mOK z.1 ∧ ∃ n : Int, z.2.1.toInt = n ∧ -326 ≤ n ∧ n ≤ cK q + 2 ∧ ((z.2.2 = 1 ∧ vD E n ≤ vN (zam (zmg a)) E n) ∨ (z.2.2 = 0 ∧ isP (zam (zmg a)) E n))) (fun z => (2 * (cK q + 3 - z.2.1.toInt)).toNat + z.2.2.toInt.toNat) (fun y => mOK y.2 ∧ ∃ P : Int, y.1.toInt = P ∧ isP (zam (zmg a)) E P ∧ -326 ≤ P ∧ P ≤ 310) (by
    rintro ⟨w, x, f⟩ ⟨hw, n, hx, hn1, hn2, hf⟩
    dsimp only at hw hx hf
    unfold f_M_decimals_33_step f_M_decimals_33_body
    dsimp only
    rcases hf with ⟨hf1, hf2⟩ | ⟨hf1, hf2⟩
    · subst hf1
      have hn3 : n < cK q + 2 := by
        rcases Int.lt_or_le n (cK q + 2) with z | z
        · exact z
        · have : n = cK q + 2 := by omega
          rw [this] at hf2
          omega
      rw [if_neg i10]
      have hmu : ∀ g : Nat, g ≤ 1 → (2 * (cK q + 3 - (n + 1))).toNat + g < (2 * (cK q + 3 - n)).toNat + 1 := by
        intro g hg
        omega
      have hs : (x + 1).toInt = n + 1 := by
        rw [i_add (by rw [hx, e1]; omega) (by rw [hx, e1]; omega), hx, e1]
      obtain ⟨r1, t1, t2, t3, t4⟩ := M_fraction t s o c p hw hfin hs (by omega) (by omega)
      rw [← hE] at t3 t4
      rw [t1, Option.bind_some, M_order t s o c p t2 (a := 0) (b := 1) (by decide) (by decide) rfl rfl, Option.bind_some, t3, t4]
      unfold f_M_decimals_62
      by_cases cl : vN (zam (zmg a)) E (n + 1) < vD E (n + 1)
      · rw [if_pos (zsg_lt.mpr cl)]
        refine Or.inl ⟨_, rfl, ⟨t2, n + 1, hs, by omega, by omega, Or.inr ⟨rfl, cl, ?_⟩⟩, ?_⟩
        · rw [show n + 1 - 1 = n by omega]
          exact hf2
        · dsimp only
          rw [hs, hx]
          exact hmu 0 (by omega)
      · rw [if_neg (fun z => cl (zsg_lt.mp z))]
        refine Or.inl ⟨_, rfl, ⟨t2, n + 1, hs, by omega, by omega, Or.inl ⟨rfl, by omega⟩⟩, ?_⟩
        dsimp only
        rw [hs, hx]
        exact hmu 1 (by omega)
    · subst hf1
      rw [if_pos rfl]
      exact Or.inr ⟨_, rfl, hw, n, hx, hf2, hn1, by omega⟩) ⟨hr, cI q, x6, by omega, by
        rcases Int.lt_or_le (cI q) (cK q + 3) with z | z
        · omega
        · exfalso
          obtain ⟨k, hk⟩ : ∃ k : Nat, cI q = cK q + 2 + k := ⟨(cI q - (cK q + 2)).toNat, by omega⟩
          have := v_mono topK k
          rw [← hk] at this
          omega, Or.inl ⟨rfl, lowI⟩⟩
  exact ⟨d, r', P, h1, h2, h3, h4, h5⟩
