theorem same_xpn (s o cc p : Int32) {out r dgm : Nat → Int32} (hr : mOK r) {pc cn pt ru su bu au uu : Int32} {pu dg rl sl bl al ul : Nat → Int32} {x : Int64} (hfin : zmg x < 9218868437227405312) {q : Int32} (h1 : -1 ≤ q.toInt) (h2 : q.toInt ≤ 20) (s0 : Int32) :
    ∃ pc' pu' y o' cc' p' out' r' dgm' L, f_T_writeExponential pc pu cn pt dg ru rl su sl bu bl au al uu ul x q = some (pc', pu', y) ∧ f_M_form_86 0 s o cc p out r dgm x 1 q s0 = some (o', 0, o', cc', p', out', r', dgm') ∧ mOK r' ∧ pP 1100 pc' pu' L ∧ pP 1200 o' out' L := by
  have e0 : (0 : Int32).toInt = 0 := rfl
  have e1 : (1 : Int32).toInt = 1 := rfl
  unfold f_M_form_86
  rw [M_isNan, Option.bind_some, if_neg (show ¬ 9218868437227405312 < zmg x by omega), if_pos rfl, M_isInfinite, Option.bind_some, if_neg (show ¬ zmg x = 9218868437227405312 by omega), if_pos rfl, if_pos rfl]
  obtain ⟨pc1, pu1, _, hB⟩ := T_begin pc pu x
  obtain ⟨a1, a2⟩ := hB hfin
  have hsl := zsq_len x
  unfold f_T_writeExponential
  rw [a1, Option.bind_some]
  dsimp only
  rw [if_pos rfl, B_isZero, Option.bind_some]
  have hmag : f_B_magnitude x = some (x &&& 9223372036854775807) := rfl
  have hq1 : (q + 1).toInt = q.toInt + 1 := by
    rw [i_add (by rw [e1]; omega) (by rw [e1]; omega), e1]
  have fin : ∀ {pc2 : Int32} {pu2 : Nat → Int32} {L : List Int32} {T : Type} {Y : T} {F : Option (Int32 × (Nat → Int32) × T)}, F = some (pc2, pu2, Y) → pP 1100 pc2 pu2 (zsq x ++ L) → (∀ s1 : Int32, ∃ o' cc' p' out' r' dgm', f_M_exponential_18 0 s o cc p out r dgm x q s1 = some (o', o', cc', p', out', r', dgm') ∧ mOK r' ∧ pP 1200 o' out' ((if s1 = 0 then [] else [45]) ++ L)) → ∃ pc' pu' y o' cc' p' out' r' dgm' L', F = some (pc', pu', y) ∧ ((f_M_exponential 0 s o cc p out r dgm x q).bind fun (r_137, u137_t_outs, u137_t_count, u137_t_point, u137_t_out, u137_t_rows, u137_t_digits) => (some (r_137, ((0 : Int32), u137_t_outs, u137_t_count, u137_t_point, u137_t_out, u137_t_rows, u137_t_digits)))) = some (o', 0, o', cc', p', out', r', dgm') ∧ mOK r' ∧ pP 1100 pc' pu' L' ∧ pP 1200 o' out' L' := by
    intro pc2 pu2 L T Y F hF hP hM
    obtain ⟨o1, cc1, p1, u1, r1, d1, b1, b2, b3⟩ := M_exp_pick 0 s o cc p hM
    rw [b1, Option.bind_some]
    exact ⟨pc2, pu2, Y, o1, _, _, u1, _, _, _, hF, rfl, b2, hP, b3⟩
  by_cases hz : zmg x = 0
  · rw [if_pos hz, if_neg (show ¬ (1 : Int32) = 0 by decide)]
    unfold f_E_makeZero
    rw [Option.bind_some]
    dsimp only
    obtain ⟨n, hn⟩ : ∃ n : Nat, ((if q < 0 then 0 else q) + 1).toInt = n ∧ 1 ≤ n ∧ n ≤ 21 ∧ ((n : Int) = q.toInt + 1 ∨ (n = 1 ∧ q.toInt = -1)) := by
      by_cases w : q < 0
      · rw [if_pos w]
        rw [i_lt, e0] at w
        exact ⟨1, rfl, by decide, by decide, Or.inr ⟨rfl, by omega⟩⟩
      · rw [if_neg w, hq1]
        rw [i_lt, e0] at w
        exact ⟨(q.toInt + 1).toNat, by omega, by omega, by omega, by omega⟩
    obtain ⟨hn, hn1, hn2, hn3⟩ := hn
    obtain ⟨pc2, pu2, a3, a4⟩ := T_addScientific (eR_0 48 dg) (pt := 1) (Q := 1) rfl (by decide) (by decide) a2 hn hn1 (by omega)
    rw [a3, Option.bind_some]
    dsimp only
    refine fin rfl a4 ?_
    intro s1
    unfold f_M_exponential_18
    rw [M_isZero, Option.bind_some, if_pos hz, if_neg (show ¬ (1 : Int32) = 0 by decide)]
    unfold f_M_exponential_42
    by_cases w : q.toInt + 1 ≤ 1
    · rw [if_pos (show q + 1 ≤ 1 by rw [i_le, hq1, e1]; exact w)]
      obtain ⟨o1, d1, u1, b1, b2⟩ := M_exp48 0 s o 1 (p := p) (out := out) (r := r) (dgm := dgm) hn1 (by omega) (by rw [e1]; omega) s1
      exact ⟨o1, _, _, u1, _, _, b1, hr, b2⟩
    · rw [if_neg (show ¬ q + 1 ≤ 1 by rw [i_le, hq1, e1]; exact w)]
      obtain ⟨o1, d1, u1, b1, b2⟩ := M_exp48 0 s o (q + 1) (p := p) (out := out) (r := r) (dgm := dgm) hn1 (by omega) (by rw [hq1]; omega) s1
      exact ⟨o1, _, _, u1, _, _, b1, hr, b2⟩
  · rw [if_neg hz, if_pos rfl, hmag]
    by_cases w : 0 ≤ q
    · have w' : 0 ≤ q.toInt := by rw [i_le, e0] at w; exact w
      obtain ⟨n, hn⟩ : ∃ n : Nat, q.toInt + 1 = n := ⟨(q.toInt + 1).toNat, by omega⟩
      rw [hn] at hq1
      rw [if_pos w, Option.bind_some]
      obtain ⟨V, Q, cn', pt', dg', ⟨y1, y2, y3, y4, y5, y6, y7, y8⟩, cc', pp', out', r', dgm', s1, s2, s3, s4, s5, s6, s7, s8, s9⟩ := digits_both 0 s o cc p (out := out) (dgm := dgm) hr (cn := cn) (pt := pt) (dg := dg) (ru := ru) (rl := rl) (su := su) (sl := sl) (bu := bu) (bl := bl) (uu := uu) (ul := ul) hfin hz hq1 (by omega) (by omega)
      rw [s1, Option.bind_some]
      dsimp only
      obtain ⟨pc2, pu2, a3, a4⟩ := T_addScientific s2 s3 (by omega) (by omega) a2 hq1 (by omega) (by omega)
      rw [a3, Option.bind_some]
      dsimp only
      refine fin rfl a4 ?_
      intro v1
      unfold f_M_exponential_18
      rw [M_isZero, Option.bind_some, if_neg hz, if_pos rfl, if_pos w, s4, Option.bind_some]
      dsimp only
      obtain ⟨o1, u1, b1, b2⟩ := M_exp107 0 s o s6 s7 (by omega) (by omega) (by omega) (by omega) v1 (out := out') (r := r')
      exact ⟨o1, _, _, u1, _, _, b1, s5, b2⟩
    · rw [if_neg w, Option.bind_some]
      obtain ⟨c, V, Q, P, cn', pt', dg', ⟨y1, y2, y3, y4, y5, y6, y7, y8, y9, y10⟩, cc', pp', out', r', dgm', s1, s2, s3, s4, s5, s6, s7, s8, s9, s10, s11, s12, s13⟩ := short_both 0 s o cc p (out := out) (dgm := dgm) hr (cn := cn) (pt := pt) (dg := dg) (ru := ru) (rl := rl) (su := su) (sl := sl) (bu := bu) (bl := bl) (au := au) (al := al) (uu := uu) (ul := ul) hfin hz
      rw [s1, Option.bind_some]
      dsimp only
      unfold f_E_length
      rw [Option.bind_some]
      obtain ⟨pc2, pu2, a3, a4⟩ := T_addScientific s2 s3 (by omega) (by omega) a2 s2.1 s8 (by omega)
      rw [a3, Option.bind_some]
      dsimp only
      refine fin rfl a4 ?_
      intro v1
      unfold f_M_exponential_18
      rw [M_isZero, Option.bind_some, if_neg hz, if_pos rfl, if_neg w, s4, Option.bind_some]
      dsimp only
      obtain ⟨o1, u1, b1, b2⟩ := M_exp107 0 s o s6 s7 s8 (by omega) (by omega) (by omega) v1 (out := out') (r := r')
      exact ⟨o1, _, _, u1, _, _, b1, s5, b2⟩
theorem T_prec38 {cn pt : Int32} {dg : Nat → Int32} {c V : Nat} (hE : eR 48 cn dg c V) {Q : Int} (hQ : pt.toInt = Q) (hQ1 : -400 < Q) (hQ2 : Q < 400) {pc ru su bu uu : Int32} {pu rl sl bl ul : Nat → Int32} {L : List Int32} (h : pP 1100 pc pu L) {x3 : Int32} {n : Nat} (h1 : x3.toInt = n) (hl : L.length ≤ 5) (hn1 : 1 ≤ n) (hn : n ≤ 40) :
    ∃ pc' pu', f_T_writePrecise_38 pc pu cn pt dg ru rl su sl bu bl uu ul x3 = some (pc', pu', cn, pt, dg, ru, rl, su, sl, bu, bl, uu, ul) ∧ pP 1100 pc' pu' (L ++ zpr (zdt c V) n Q) := by
  have e1 : (1 : Int32).toInt = 1 := rfl
  have em6 : (-6 : Int32).toInt = -6 := rfl
  have hs : (pt - 1).toInt = Q - 1 := by
    rw [i_sub (by rw [hQ, e1]; omega) (by rw [hQ, e1]; omega), hQ, e1]
  unfold f_T_writePrecise_38 f_E_pointPlace zpr
  rw [Option.bind_some]
  have h62 : ∃ pc' pu', f_T_writePrecise_62 pc pu cn pt dg ru rl su sl bu bl uu ul x3 = some (pc', pu', cn, pt, dg, ru, rl, su, sl, bu, bl, uu, ul) ∧ pP 1100 pc' pu' (L ++ zsc (zdt c V) n Q) := by
    unfold f_T_writePrecise_62
    obtain ⟨pc2, pu2, a3, a4⟩ := T_addScientific hE hQ (by omega) (by omega) h h1 hn1 (by omega)
    rw [a3, Option.bind_some]
    exact ⟨pc2, pu2, rfl, a4⟩
  by_cases c1 : Q - 1 < -6
  · rw [if_pos (show pt - 1 < -6 by rw [i_lt, hs, em6]; exact c1), if_pos (Or.inl c1)]
    exact h62
  · rw [if_neg (show ¬ pt - 1 < -6 by rw [i_lt, hs, em6]; exact c1)]
    by_cases c2 : (n : Int) ≤ Q - 1
    · rw [if_neg (show ¬ pt - 1 < x3 by rw [i_lt, hs, h1]; omega), if_pos (Or.inr c2)]
      exact h62
    · rw [if_pos (show pt - 1 < x3 by rw [i_lt, hs, h1]; omega), if_neg (show ¬ (Q - 1 < -6 ∨ (n : Int) ≤ Q - 1) by omega)]
      obtain ⟨pc2, pu2, a3, a4⟩ := T_addPlain hE hQ (by omega) (by omega) h h1 (by omega) (by omega)
      rw [a3, Option.bind_some]
      exact ⟨pc2, pu2, rfl, a4⟩
theorem same_prec (s o cc p : Int32) {out r dgm : Nat → Int32} (hr : mOK r) {pc cn pt ru su bu uu : Int32} {pu dg rl sl bl ul : Nat → Int32} {x : Int64} (hfin : zmg x < 9218868437227405312) {q : Int32} (h1 : 1 ≤ q.toInt) (h2 : q.toInt ≤ 21) (s0 : Int32) :
    ∃ pc' pu' y o' cc' p' out' r' dgm' L, f_T_writePrecise pc pu cn pt dg ru rl su sl bu bl uu ul x q = some (pc', pu', y) ∧ f_M_form_86 0 s o cc p out r dgm x 2 q s0 = some (o', 0, o', cc', p', out', r', dgm') ∧ mOK r' ∧ pP 1100 pc' pu' L ∧ pP 1200 o' out' L := by
  unfold f_M_form_86
  rw [M_isNan, Option.bind_some, if_neg (show ¬ 9218868437227405312 < zmg x by omega), if_pos rfl, M_isInfinite, Option.bind_some, if_neg (show ¬ zmg x = 9218868437227405312 by omega), if_pos rfl, if_neg (show ¬ (2 : Int32) = 1 by decide), if_pos rfl]
  obtain ⟨pc1, pu1, _, hB⟩ := T_begin pc pu x
  obtain ⟨a1, a2⟩ := hB hfin
  have hsl := zsq_len x
  unfold f_T_writePrecise
  rw [a1, Option.bind_some]
  dsimp only
  rw [if_pos rfl, B_isZero, Option.bind_some]
  have hmag : f_B_magnitude x = some (x &&& 9223372036854775807) := rfl
  obtain ⟨n, hn⟩ : ∃ n : Nat, q.toInt = n := ⟨q.toInt.toNat, by omega⟩
  have fin : ∀ {pc2 : Int32} {pu2 : Nat → Int32} {L : List Int32} {T : Type} {Y : T} {F : Option (Int32 × (Nat → Int32) × T)}, F = some (pc2, pu2, Y) → pP 1100 pc2 pu2 (zsq x ++ L) → (∀ s1 : Int32, ∃ o' cc' p' out' r' dgm', f_M_precise_18 0 s o cc p out r dgm x q s1 = some (o', o', cc', p', out', r', dgm') ∧ mOK r' ∧ pP 1200 o' out' ((if s1 = 0 then [] else [45]) ++ L)) → ∃ pc' pu' y o' cc' p' out' r' dgm' L', F = some (pc', pu', y) ∧ ((f_M_precise 0 s o cc p out r dgm x q).bind fun (r_150, u150_t_outs, u150_t_count, u150_t_point, u150_t_out, u150_t_rows, u150_t_digits) => (some (r_150, ((0 : Int32), u150_t_outs, u150_t_count, u150_t_point, u150_t_out, u150_t_rows, u150_t_digits)))) = some (o', 0, o', cc', p', out', r', dgm') ∧ mOK r' ∧ pP 1100 pc' pu' L' ∧ pP 1200 o' out' L' := by
    intro pc2 pu2 L T Y F hF hP hM
    obtain ⟨o1, cc1, p1, u1, r1, d1, b1, b2, b3⟩ := M_prec_pick 0 s o cc p hM
    rw [b1, Option.bind_some]
    exact ⟨pc2, pu2, Y, o1, _, _, u1, _, _, _, hF, rfl, b2, hP, b3⟩
  by_cases hz : zmg x = 0
  · rw [if_pos hz, if_neg (show ¬ (1 : Int32) = 0 by decide)]
    unfold f_E_makeZero
    rw [Option.bind_some]
    dsimp only
    obtain ⟨pc2, pu2, a3, a4⟩ := T_prec38 (eR_0 48 dg) (pt := 1) (Q := 1) rfl (by decide) (by decide) (ru := ru) (su := su) (bu := bu) (uu := uu) (rl := rl) (sl := sl) (bl := bl) (ul := ul) a2 hn (by omega) (by omega) (by omega)
    refine fin a3 a4 ?_
    intro s1
    unfold f_M_precise_18
    rw [M_isZero, Option.bind_some, if_pos hz, if_neg (show ¬ (1 : Int32) = 0 by decide)]
    obtain ⟨o1, d1, u1, b1, b2⟩ := M_prec35 0 s o q (p := p) (out := out) (r := r) (dgm := dgm) (by omega) (by omega) hn s1
    exact ⟨o1, _, _, u1, _, _, b1, hr, b2⟩
  · rw [if_neg hz, if_pos rfl, hmag, Option.bind_some]
    obtain ⟨V, Q, cn', pt', dg', ⟨y1, y2, y3, y4, y5, y6, y7, y8⟩, cc', pp', out', r', dgm', s1, s2, s3, s4, s5, s6, s7, s8, s9⟩ := digits_both 0 s o cc p (out := out) (dgm := dgm) hr (cn := cn) (pt := pt) (dg := dg) (ru := ru) (rl := rl) (su := su) (sl := sl) (bu := bu) (bl := bl) (uu := uu) (ul := ul) hfin hz hn (by omega) (by omega)
    rw [s1, Option.bind_some]
    dsimp only
    obtain ⟨pc2, pu2, a3, a4⟩ := T_prec38 s2 s3 (by omega) (by omega) (ru := y1) (rl := y2) (su := y3) (sl := y4) (bu := y5) (bl := y6) (uu := y7) (ul := y8) a2 hn (by omega) (by omega) (by omega)
    refine fin a3 a4 ?_
    intro v1
    unfold f_M_precise_18
    rw [M_isZero, Option.bind_some, if_neg hz, if_pos rfl, s4, Option.bind_some]
    dsimp only
    obtain ⟨o1, u1, b1, b2⟩ := M_prec76 0 s o s6 s7 (by omega) (by omega) (by omega) (by omega) hn v1 (out := out') (r := r')
    exact ⟨o1, _, _, u1, _, _, b1, s5, b2⟩
