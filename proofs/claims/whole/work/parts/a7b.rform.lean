theorem zf_no {k w : Int32} (hk : ¬ zfr k w) {pc : Int32} {pu : Nat → Int32} {cn pt : Int32} {dg : Nat → Int32} {ru : Int32} {rl : Nat → Int32} {su : Int32} {sl : Nat → Int32} {bu : Int32} {bl : Nat → Int32} {au : Int32} {al : Nat → Int32} {uu : Int32} {ul : Nat → Int32} (x : Int64) (t s o cc p : Int32) {out r dgm : Nat → Int32} :
    t_D_form pc pu cn pt dg ru rl su sl bu bl au al uu ul x k w = some 1 ∧ f_M_form t s o cc p out r dgm x k w = f_M_form_49 t s o cc p out r dgm x k w := by
  have e20 : (20 : Int32).toInt = 20 := rfl
  have e21 : (21 : Int32).toInt = 21 := rfl
  have e0 : (0 : Int32).toInt = 0 := rfl
  have e1 : (1 : Int32).toInt = 1 := rfl
  have e2 : (2 : Int32).toInt = 2 := rfl
  have em1 : (-1 : Int32).toInt = -1 := rfl
  unfold t_D_form f_M_form f_M_form_23 f_M_form_46
  by_cases k0 : k = 0
  · subst k0
    have hw : ¬ (0 ≤ w.toInt ∧ w.toInt ≤ 20) := fun h => hk (Or.inl ⟨rfl, h⟩)
    rw [if_pos rfl, if_neg (show ¬ (0 : Int32) < 0 by decide), if_neg (show ¬ (2 : Int32) < 0 by decide), if_neg (show ¬ (0 : Int32) = 2 by decide)]
    by_cases c : w < 0
    · rw [if_pos c]
      rw [i_lt, e0] at c
      rw [if_neg (show ¬ 20 < w by rw [i_lt, e20]; omega), if_pos rfl, if_neg (show ¬ 0 ≤ w by rw [i_le, e0]; omega)]
      exact ⟨rfl, rfl⟩
    · rw [if_neg c]
      rw [i_lt, e0] at c
      rw [if_neg (show ¬ w ≤ 20 by rw [i_le, e20]; omega), if_pos (show 20 < w by rw [i_lt, e20]; omega)]
      exact ⟨rfl, rfl⟩
  · rw [if_neg k0]
    by_cases k1 : k = 1
    · subst k1
      have hw : ¬ (-1 ≤ w.toInt ∧ w.toInt ≤ 20) := fun h => hk (Or.inr (Or.inl ⟨rfl, h⟩))
      rw [if_pos rfl, if_neg (show ¬ (1 : Int32) < 0 by decide), if_neg (show ¬ (2 : Int32) < 1 by decide), if_neg (show ¬ (1 : Int32) = 2 by decide)]
      by_cases c : w < -1
      · rw [if_pos c]
        rw [i_lt, em1] at c
        rw [if_neg (show ¬ 20 < w by rw [i_lt, e20]; omega), if_neg (show ¬ (1 : Int32) = 0 by decide), if_pos rfl, if_neg (show ¬ -1 ≤ w by rw [i_le, em1]; omega)]
        exact ⟨rfl, rfl⟩
      · rw [if_neg c]
        rw [i_lt, em1] at c
        rw [if_neg (show ¬ w ≤ 20 by rw [i_le, e20]; omega), if_pos (show 20 < w by rw [i_lt, e20]; omega)]
        exact ⟨rfl, rfl⟩
    · rw [if_neg k1]
      by_cases k2 : k = 2
      · subst k2
        have hw : ¬ (1 ≤ w.toInt ∧ w.toInt ≤ 21) := fun h => hk (Or.inr (Or.inr ⟨rfl, h⟩))
        rw [if_pos rfl, if_neg (show ¬ (2 : Int32) < 0 by decide), if_neg (show ¬ (2 : Int32) < 2 by decide), if_pos rfl]
        by_cases c : w < 1
        · rw [if_pos c]
          rw [i_lt, e1] at c
          rw [if_neg (show ¬ 21 < w by rw [i_lt, e21]; omega), if_neg (show ¬ (2 : Int32) = 0 by decide), if_neg (show ¬ (2 : Int32) = 1 by decide), if_neg (show ¬ 1 ≤ w by rw [i_le, e1]; omega)]
          exact ⟨rfl, rfl⟩
        · rw [if_neg c]
          rw [i_lt, e1] at c
          rw [if_neg (show ¬ w ≤ 21 by rw [i_le, e21]; omega), if_pos (show 21 < w by rw [i_lt, e21]; omega)]
          exact ⟨rfl, rfl⟩
      · rw [if_neg k2]
        refine ⟨rfl, ?_⟩
        by_cases c : k < 0
        · rw [if_pos c]
        · rw [if_neg c, if_pos]
          rw [i_lt, e2]
          rw [i_lt, e0] at c
          rw [i_eq, e0] at k0
          rw [i_eq, e1] at k1
          rw [i_eq, e2] at k2
          omega
theorem zf_ok {k w : Int32} (hk : zfr k w) {pc : Int32} {pu : Nat → Int32} {cn pt : Int32} {dg : Nat → Int32} {ru : Int32} {rl : Nat → Int32} {su : Int32} {sl : Nat → Int32} {bu : Int32} {bl : Nat → Int32} {au : Int32} {al : Nat → Int32} {uu : Int32} {ul : Nat → Int32} (x : Int64) : t_D_form pc pu cn pt dg ru rl su sl bu bl au al uu ul x k w = none := by
  have e20 : (20 : Int32).toInt = 20 := rfl
  have e21 : (21 : Int32).toInt = 21 := rfl
  have e0 : (0 : Int32).toInt = 0 := rfl
  have e1 : (1 : Int32).toInt = 1 := rfl
  have em1 : (-1 : Int32).toInt = -1 := rfl
  unfold t_D_form
  rcases hk with ⟨rfl, h1, h2⟩ | ⟨rfl, h1, h2⟩ | ⟨rfl, h1, h2⟩
  · rw [if_pos rfl, if_neg (show ¬ w < 0 by rw [i_lt, e0]; omega), if_pos (show w ≤ 20 by rw [i_le, e20]; omega)]
  · rw [if_neg (show ¬ (1 : Int32) = 0 by decide), if_pos rfl, if_neg (show ¬ w < -1 by rw [i_lt, em1]; omega), if_pos (show w ≤ 20 by rw [i_le, e20]; omega)]
  · rw [if_neg (show ¬ (2 : Int32) = 0 by decide), if_neg (show ¬ (2 : Int32) = 1 by decide), if_pos rfl, if_neg (show ¬ w < 1 by rw [i_lt, e1]; omega), if_pos (show w ≤ 21 by rw [i_le, e21]; omega)]
theorem ro_form (t s o cc p : Int32) {out r dgm : Nat → Int32} (hr : mOK r) {pc : Int32} {pu : Nat → Int32} (hp : pS pc pu o out) {cn pt : Int32} {dg : Nat → Int32} {ru : Int32} {rl : Nat → Int32} {su : Int32} {sl : Nat → Int32} {bu : Int32} {bl : Nat → Int32} {au : Int32} {al : Nat → Int32} {uu : Int32} {ul : Nat → Int32} (q : Nat → Int64) (x : Int64) (k w : Int32) :
    ∃ e pc' pu' cn' pt' dg' ru' rl' su' sl' bu' bl' au' al' uu' ul' q' d o' cc' p' out' r' dgm', w_L_form pc pu cn pt dg ru rl su sl bu bl au al uu ul q x k w = some (e, pc', pu', cn', pt', dg', ru', rl', su', sl', bu', bl', au', al', uu', ul', q') ∧ f_M_form t s o cc p out r dgm x k w = some (d, e, o', cc', p', out', r', dgm') ∧ (e = 0 → q' (0 : Int32).toNatClampNeg = d.toInt64) ∧ mOK r' ∧ pS pc' pu' o' out' := by
  by_cases hk : zfr k w
  · obtain ⟨d, pc', pu', ⟨cn', pt', dg', ru', rl', su', sl', bu', bl', au', al', uu', ul'⟩, o', cc', p', out', r', dgm', h1, h2, h3, h4⟩ := same_form t s o cc p (out := out) (dgm := dgm) hr (pc := pc) (pu := pu) (cn := cn) (pt := pt) (dg := dg) (ru := ru) (rl := rl) (su := su) (sl := sl) (bu := bu) (bl := bl) (au := au) (al := al) (uu := uu) (ul := ul) x hk
    refine ⟨0, pc', pu', cn', pt', dg', ru', rl', su', sl', bu', bl', au', al', uu', ul', vp_updL q (0 : Int32).toNatClampNeg d.toInt64, d, o', cc', p', out', r', dgm', ?_, h2, fun _ => zuq _ _ _, h3, h4⟩
    unfold w_L_form
    rw [zf_ok hk x, Option.elim_none, h1, Option.bind_some]
  · obtain ⟨g1, g2⟩ := zf_no hk (pc := pc) (pu := pu) (cn := cn) (pt := pt) (dg := dg) (ru := ru) (rl := rl) (su := su) (sl := sl) (bu := bu) (bl := bl) (au := au) (al := al) (uu := uu) (ul := ul) x t s o cc p (out := out) (r := r) (dgm := dgm)
    refine ⟨1, pc, pu, cn, pt, dg, ru, rl, su, sl, bu, bl, au, al, uu, ul, q, 0, o, cc, p, out, r, dgm, ?_, ?_, fun h => absurd h n10, hr, hp⟩
    · unfold w_L_form
      rw [g1]; rfl
    · rw [g2, M_form_bad]
