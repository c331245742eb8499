theorem zwh_len (b W n : Nat) : (zwh b W n).length ≤ n + 1 := by
  unfold zwh
  split
  · rw [List.length_singleton]; omega
  · rw [zds_len]; omega
theorem M_rad247 (t ts cc p : Int32) {b s R W n : Nat} (hb : 2 ≤ b) (hb36 : b ≤ 36) (hs : s ≤ 1074) (hR : R < 2 ^ s) {x3 x5 x6 : Int32} (h3 : x3.toInt = b) (h5 : R ≠ 0 → x5.toInt = -(s : Int)) (h6 : x6.toInt = n) (hn : n ≤ 1024) {o : Int32} {out r : Nat → Int32} (hr : mOK r) (hrR : mV r 0 = R) (hout : ∀ j, j < n → (out (1199 - j)).toInt = (zle b W j : Int)) {A : List Int32} (h : pP 1200 o out A) (hl : A.length ≤ 5) :
    ∃ o' out' r' K, f_M_radix_247 t ts o cc p out r x3 x5 x6 0 = some (o', t, o', out', r') ∧ mOK r' ∧ isK b s R K ∧ pP 1200 o' out' (A ++ zds (fun i => zle b W (n - 1 - i)) 0 n ++ zfz (zfd b s R) K) := by
  have e1200 : (1200 : Int32).toInt = 1200 := rfl
  have h36 : ∀ i, zle b W i < 36 := fun i => Nat.lt_of_lt_of_le (zle_lt (by omega) W i) hb36
  have hsub : (1200 - x6).toInt = 1200 - (n : Int) := by
    rw [i_sub (by rw [e1200, h6]; omega) (by rw [e1200, h6]; omega), e1200, h6]
  unfold f_M_radix_247
  obtain ⟨y, t1, o', out', r', K, rfl, t3, t4, t5⟩ := zrun_inv (step := f_M_radix_247_step ts cc p x3 x5 x6) (x := (t, o, out, r, 0)) (fun z => ∃ k : Nat, k ≤ n ∧ ∃ o' out' y7, z = (t, o', out', r, y7) ∧ y7.toInt = ((0 + k : Nat) : Int) ∧ (∀ j, j + k < n → (out' (1199 - j)).toInt = (zle b W j : Int)) ∧ pP 1200 o' out' (A ++ zds (fun i => zle b W (n - 1 - i)) 0 k)) (fun z => ((n : Int) - z.2.2.2.2.toInt).toNat) (fun y => ∃ o' out' r' K, y = (o', t, o', out', r') ∧ mOK r' ∧ isK b s R K ∧ pP 1200 o' out' (A ++ zds (fun i => zle b W (n - 1 - i)) 0 n ++ zfz (zfd b s R) K)) (by
    rintro _ ⟨k, hk, o0, u0, y7, rfl, h7, hu, hP⟩
    unfold f_M_radix_247_step f_M_radix_247_body
    dsimp only
    have hlen : (A ++ zds (fun i => zle b W (n - 1 - i)) 0 k).length = A.length + k := by rw [List.length_append, zds_len]
    by_cases ck : k = n
    · rw [if_pos (show x6 ≤ y7 by rw [i_le, h7, h6]; omega)]
      rw [ck] at hP hlen
      obtain ⟨o1, u1, r1, K, t1, t2, t3, t4⟩ := M_rad281 t ts cc p hb hb36 hs hR h3 h5 hr hrR hP (by omega)
      rw [t1]
      exact Or.inr ⟨_, rfl, o1, u1, r1, K, rfl, t2, t3, t4⟩
    · rw [if_neg (show ¬ x6 ≤ y7 by rw [i_le, h7, h6]; omega)]
      have hix : ((1200 - x6) + y7).toInt = ((1199 - (n - 1 - k) : Nat) : Int) := by
        rw [i_add (by rw [hsub, h7]; omega) (by rw [hsub, h7]; omega), hsub, h7]
        omega
      have hd := hu (n - 1 - k) (by omega)
      rw [if_pos (show zin ((1200 - x6) + y7) 1200 by exact ⟨by rw [hix]; omega, by rw [hix]; omega⟩), i_cl, hix, Int.toNat_natCast, M_letter hd (h36 _), Option.bind_some]
      obtain ⟨o1, u1, t1, t2, t3⟩ := M_emit t ts cc p hP (by rw [hlen]; omega) (zch (zle b W (n - 1 - k)))
      rw [t1, Option.bind_some]
      dsimp only
      rw [hlen] at t3
      have hs7 : (y7 + 1).toInt = ((0 + (k + 1) : Nat) : Int) := i_suc (k := 0 + k) h7 (by omega)
      refine Or.inl ⟨_, rfl, ⟨k + 1, by omega, o1, u1, _, rfl, hs7, fun j hj => ?_, ?_⟩, ?_⟩
      · rw [t3 (1199 - j) (by omega)]
        exact hu j (by omega)
      · rw [zds_s, Nat.zero_add, ← List.append_assoc]
        exact t2
      · dsimp only
        rw [hs7, h7]
        omega) ⟨0, by omega, o, out, 0, rfl, rfl, fun j hj => hout j (by omega), by
          show pP 1200 o out (A ++ [])
          rw [List.append_nil]
          exact h⟩
  exact ⟨o', out', r', K, t1, t3, t4, t5⟩
theorem M_rad217 (t ts o cc p : Int32) {b s R W n : Nat} (hb : 2 ≤ b) (hb36 : b ≤ 36) (hs : s ≤ 1074) (hR : R < 2 ^ s) {x3 x5 x6 : Int32} (x4 : Int32) (h3 : x3.toInt = b) (h5 : R ≠ 0 → x5.toInt = -(s : Int)) (h6 : x6.toInt = n) (hn : n ≤ 1024) {out r : Nat → Int32} (hr : mOK r) (hrR : mV r 0 = R) (hout : ∀ j, j < n → (out (1199 - j)).toInt = (zle b W j : Int)) :
    ∃ o' out' r' K, f_M_radix_217 t ts o cc p out r x3 x4 x5 x6 = some (o', t, o', out', r') ∧ mOK r' ∧ isK b s R K ∧ pP 1200 o' out' ((if x4 = 0 then [] else [45]) ++ zwh b W n ++ zfz (zfd b s R) K) := by
  have e0 : (0 : Int32).toInt = 0 := rfl
  have h233 : ∀ {o1 : Int32} {u1 : Nat → Int32} {A : List Int32}, pP 1200 o1 u1 A → A.length ≤ 3 → (∀ j, j < n → (u1 (1199 - j)).toInt = (zle b W j : Int)) → ∃ o' out' r' K, f_M_radix_233 t ts o1 cc p u1 r x3 x5 x6 = some (o', t, o', out', r') ∧ mOK r' ∧ isK b s R K ∧ pP 1200 o' out' (A ++ zwh b W n ++ zfz (zfd b s R) K) := by
    intro o1 u1 A hA hl hu
    unfold f_M_radix_233 f_M_radix_244 zwh
    by_cases c : n = 0
    · rw [if_pos (show x6 = 0 by rw [i_eq, h6, e0]; omega), if_pos c]
      obtain ⟨o2, u2, t1, t2, t3⟩ := M_emit t ts cc p hA (by omega) 48
      rw [t1, Option.bind_some]
      dsimp only
      obtain ⟨o3, u3, r3, K, q1, q2, q3, q4⟩ := M_rad247 t ts cc p (W := W) hb hb36 hs hR h3 h5 h6 hn hr hrR (fun j hj => by omega) t2 (by rw [List.length_append, List.length_singleton]; omega)
      subst c
      have q4' : pP 1200 o3 u3 (A ++ [48] ++ [] ++ zfz (zfd b s R) K) := q4
      rw [List.append_nil] at q4'
      exact ⟨o3, u3, r3, K, q1, q2, q3, q4'⟩
    · rw [if_neg (show ¬ x6 = 0 by rw [i_eq, h6, e0]; omega), if_neg c]
      exact M_rad247 t ts cc p hb hb36 hs hR h3 h5 h6 hn hr hrR hu hA (by omega)
  unfold f_M_radix_217
  by_cases c : x4 = 0
  · rw [if_pos c, if_pos c]
    exact h233 (pP_0 1200 out) (by decide) hout
  · rw [if_neg c, if_neg c]
    obtain ⟨o2, u2, t1, t2, t3⟩ := M_emit t ts cc p (pP_0 1200 out) (by decide) 45
    rw [t1, Option.bind_some]
    dsimp only
    exact h233 t2 (by decide) (fun j hj => by
      rw [t3 (1199 - j) (by show 0 < 1199 - j; omega)]
      exact hout j hj)
theorem M_rad186 (t ts o cc p : Int32) {b s R W : Nat} (hb : 2 ≤ b) (hb36 : b ≤ 36) (hs : s ≤ 1074) (hR : R < 2 ^ s) (hW : W < 2 ^ 1024) {x3 x5 : Int32} (x4 : Int32) (h3 : x3.toInt = b) (h5 : R ≠ 0 → x5.toInt = -(s : Int)) {out r : Nat → Int32} (hr : mOK r) (hrR : mV r 0 = R) (hrW : mV r 3 = W) :
    ∃ o' out' r' K n, f_M_radix_186 t ts o cc p out r x3 x4 x5 0 = some (o', t, o', out', r') ∧ mOK r' ∧ isK b s R K ∧ zln b W n ∧ pP 1200 o' out' ((if x4 = 0 then [] else [45]) ++ zwh b W n ++ zfz (zfd b s R) K) := by
  have e0 : (0 : Int32).toInt = 0 := rfl
  have e1199 : (1199 : Int32).toInt = 1199 := rfl
  unfold f_M_radix_186
  obtain ⟨y, t1, o', out', r', K, n, rfl, t3, t4, t5, t6⟩ := zrun_inv (step := f_M_radix_186_step ts cc p x3 x4 x5) (x := (t, o, out, r, 0)) (fun z => ∃ k : Nat, (∀ j, j < k → W / b ^ j ≠ 0) ∧ ∃ out' r' y6, z = (t, o, out', r', y6) ∧ y6.toInt = (k : Int) ∧ mOK r' ∧ mV r' 0 = R ∧ mV r' 3 = W / b ^ k ∧ ∀ j, j < k → (out' (1199 - j)).toInt = (zle b W j : Int)) (fun z => mV z.2.2.2.1 3) (fun y => ∃ o' out' r' K n, y = (o', t, o', out', r') ∧ mOK r' ∧ isK b s R K ∧ zln b W n ∧ pP 1200 o' out' ((if x4 = 0 then [] else [45]) ++ zwh b W n ++ zfz (zfd b s R) K)) (by
    rintro _ ⟨k, hnz, u0, r0, y6, rfl, h6, hr0, hv0, hv3, hu⟩
    unfold f_M_radix_186_step f_M_radix_186_body
    dsimp only
    obtain ⟨ln, w1, w2⟩ := M_length t ts o cc p hr0 (a := 3) (x1 := 3) (by decide) rfl
    rw [w1, Option.bind_some]
    rw [hv3] at w2
    have hk : k ≤ 1024 := by
      rcases Nat.lt_or_ge 1024 k with q | q
      · exfalso
        apply hnz 1024 q
        apply Nat.div_eq_of_lt
        exact Nat.lt_of_lt_of_le hW (Nat.pow_le_pow_left hb _)
      · exact q
    by_cases c : W / b ^ k = 0
    · rw [zlen_0.mpr c] at w2
      rw [if_pos (show ln ≤ 0 by rw [i_le, w2, e0]; exact Int.le_refl _)]
      have hln : zln b W k := by
        constructor
        · rcases Nat.div_eq_zero_iff.mp c with q | q
          · exact absurd q (Nat.ne_of_gt (Nat.pow_pos (by omega)))
          · exact q
        · rcases Nat.eq_zero_or_pos k with q | q
          · exact Or.inl q
          · right
            rcases Nat.lt_or_ge W (b ^ (k - 1)) with w | w
            · exact absurd (Nat.div_eq_of_lt w) (hnz (k - 1) (by omega))
            · exact w
      obtain ⟨o1, u1, r1, K, q1, q2, q3, q4⟩ := M_rad217 t ts o cc p hb hb36 hs hR x4 h3 h5 h6 hk hr0 hv0 hu
      rw [q1]
      exact Or.inr ⟨_, rfl, o1, u1, r1, K, k, rfl, q2, q3, hln, q4⟩
    · have hlz : zlen (W / b ^ k) ≠ 0 := fun w => c (zlen_0.mp w)
      rw [if_neg (show ¬ ln ≤ 0 by rw [i_le, w2, e0]; omega)]
      clear hlz w2
      have hk2 : k < 1024 := by
        rcases Nat.lt_or_ge k 1024 with q | q
        · exact q
        · exfalso
          apply c
          apply Nat.div_eq_of_lt
          have g1 : 2 ^ 1024 ≤ 2 ^ k := p2le q
          have g2 : 2 ^ k ≤ b ^ k := Nat.pow_le_pow_left hb _
          omega
      obtain ⟨dd, r1, w3, w4, w5⟩ := M_divide t ts o cc p hr0 (a := 3) (x1 := 3) (by decide) rfl h3 (by omega)
      rw [w3, Option.bind_some]
      dsimp only
      have hix : (1199 - y6).toInt = ((1199 - k : Nat) : Int) := by
        rw [i_sub (by rw [e1199, h6]; omega) (by rw [e1199, h6]; omega), e1199, h6]
        omega
      rw [if_pos (show zin (1199 - y6) 1200 by exact ⟨by rw [hix]; omega, by rw [hix]; omega⟩), i_cl, hix, Int.toNat_natCast]
      have hs6 : (y6 + 1).toInt = ((k + 1 : Nat) : Int) := i_suc h6 (by omega)
      have hq : mV r1 3 = W / b ^ (k + 1) := by
        rw [w5.2.1, hv3, Nat.pow_succ, Nat.div_div_eq_div_mul]
      refine Or.inl ⟨_, rfl, ⟨k + 1, fun j hj => ?_, _, r1, _, rfl, hs6, w5.1, (w5.2.2 0 (by decide) (by decide)).trans hv0, hq, fun j hj => ?_⟩, ?_⟩
      · rcases Nat.lt_or_ge j k with q | q
        · exact hnz j q
        · rw [show j = k by omega]
          exact c
      · by_cases e : j = k
        · subst e
          rw [pk_us, w4, hv3]
          rfl
        · rw [pk_un (by omega)]
          exact hu j (by omega)
      · dsimp only
        rw [hq, hv3, Nat.pow_succ, ← Nat.div_div_eq_div_mul]
        exact Nat.div_lt_self (by omega) hb) ⟨0, fun j hj => absurd hj (Nat.not_lt_zero _), out, r, 0, rfl, rfl, hr, hrR, by rw [Nat.pow_zero, Nat.div_one]; exact hrW, fun j hj => absurd hj (Nat.not_lt_zero _)⟩
  exact ⟨o', out', r', K, n, t1, t3, t4, t5, t6⟩
