theorem same_form (t s o cc p : Int32) {out r dgm : Nat → Int32} (hr : mOK r) {pc cn pt ru su bu au uu : Int32} {pu dg rl sl bl al ul : Nat → Int32} (x : Int64) {k q : Int32} (hk : zfr k q) :
    ∃ d pc' pu' y o' cc' p' out' r' dgm', f_D_form pc pu cn pt dg ru rl su sl bu bl au al uu ul x k q = some (d, pc', pu', y) ∧ f_M_form t s o cc p out r dgm x k q = some (d, 0, o', cc', p', out', r', dgm') ∧ mOK r' ∧ pS pc' pu' o' out' := by
  rw [M_form_go t s o cc p x hk]
  have e0 : (0 : Int32).toInt = 0 := rfl
  have e1 : (1 : Int32).toInt = 1 := rfl
  have em1 : (-1 : Int32).toInt = -1 := rfl
  have e20 : (20 : Int32).toInt = 20 := rfl
  have e21 : (21 : Int32).toInt = 21 := rfl
  unfold f_D_form
  obtain ⟨pc1, pu1, hA, hB⟩ := T_begin pc pu x
  by_cases hi : 9218868437227405312 ≤ zmg x
  · obtain ⟨a1, a2⟩ := hA hi
    obtain ⟨o1, u1, b1, b2⟩ := M_form_inf s o cc p (out := out) (r := r) (dgm := dgm) hi k q
    rw [b1]
    have he := pP_eq a2 b2
    rcases hk with ⟨rfl, h1, h2⟩ | ⟨rfl, h1, h2⟩ | ⟨rfl, h1, h2⟩
    · rw [if_pos rfl, if_neg (show ¬ q < 0 by rw [i_lt, e0]; omega), if_pos (show q ≤ 20 by rw [i_le, e20]; omega)]
      unfold f_T_writeFixed
      rw [a1, Option.bind_some]
      dsimp only
      rw [if_neg (show ¬ (1 : Int32) = 0 by decide), Option.bind_some]
      exact ⟨pc1, pc1, pu1, _, o1, _, _, u1, _, _, rfl, by rw [he], hr, _, a2, b2⟩
    · rw [if_neg (show ¬ (1 : Int32) = 0 by decide), if_pos rfl, if_neg (show ¬ q < -1 by rw [i_lt, em1]; omega), if_pos (show q ≤ 20 by rw [i_le, e20]; omega)]
      unfold f_T_writeExponential
      rw [a1, Option.bind_some]
      dsimp only
      rw [if_neg (show ¬ (1 : Int32) = 0 by decide), Option.bind_some]
      exact ⟨pc1, pc1, pu1, _, o1, _, _, u1, _, _, rfl, by rw [he], hr, _, a2, b2⟩
    · rw [if_neg (show ¬ (2 : Int32) = 0 by decide), if_neg (show ¬ (2 : Int32) = 1 by decide), if_pos rfl, if_neg (show ¬ q < 1 by rw [i_lt, e1]; omega), if_pos (show q ≤ 21 by rw [i_le, e21]; omega)]
      unfold f_T_writePrecise
      rw [a1, Option.bind_some]
      dsimp only
      rw [if_neg (show ¬ (1 : Int32) = 0 by decide), Option.bind_some]
      exact ⟨pc1, pc1, pu1, _, o1, _, _, u1, _, _, rfl, by rw [he], hr, _, a2, b2⟩
  · have hfin : zmg x < 9218868437227405312 := by omega
    rcases hk with ⟨rfl, h1, h2⟩ | ⟨rfl, h1, h2⟩ | ⟨rfl, h1, h2⟩
    · rw [if_pos rfl, if_neg (show ¬ q < 0 by rw [i_lt, e0]; omega), if_pos (show q ≤ 20 by rw [i_le, e20]; omega)]
      obtain ⟨pc2, pu2, ⟨y1, y2, y3, y4, y5, y6, y7, y8, y9, y10, y11, y12, y13⟩, o1, cc1, p1, u1, r1, d1, L, b1, b2, b3, b4, b5⟩ := same_fixed s o cc p (out := out) (dgm := dgm) hr (pc := pc) (pu := pu) (cn := cn) (pt := pt) (dg := dg) (ru := ru) (rl := rl) (su := su) (sl := sl) (bu := bu) (bl := bl) (au := au) (al := al) (uu := uu) (ul := ul) hfin h1 h2 (if x < 0 ∧ zmg x ≠ 0 then 1 else 0)
      rw [b1, Option.bind_some, b2]
      have he := pP_eq b4 b5
      exact ⟨pc2, pc2, pu2, _, o1, _, _, u1, _, _, rfl, by rw [he], b3, _, b4, b5⟩
    · rw [if_neg (show ¬ (1 : Int32) = 0 by decide), if_pos rfl, if_neg (show ¬ q < -1 by rw [i_lt, em1]; omega), if_pos (show q ≤ 20 by rw [i_le, e20]; omega)]
      obtain ⟨pc2, pu2, ⟨y1, y2, y3, y4, y5, y6, y7, y8, y9, y10, y11, y12, y13⟩, o1, cc1, p1, u1, r1, d1, L, b1, b2, b3, b4, b5⟩ := same_xpn s o cc p (out := out) (dgm := dgm) hr (pc := pc) (pu := pu) (cn := cn) (pt := pt) (dg := dg) (ru := ru) (rl := rl) (su := su) (sl := sl) (bu := bu) (bl := bl) (au := au) (al := al) (uu := uu) (ul := ul) hfin h1 h2 (if x < 0 ∧ zmg x ≠ 0 then 1 else 0)
      rw [b1, Option.bind_some, b2]
      have he := pP_eq b4 b5
      exact ⟨pc2, pc2, pu2, _, o1, _, _, u1, _, _, rfl, by rw [he], b3, _, b4, b5⟩
    · rw [if_neg (show ¬ (2 : Int32) = 0 by decide), if_neg (show ¬ (2 : Int32) = 1 by decide), if_pos rfl, if_neg (show ¬ q < 1 by rw [i_lt, e1]; omega), if_pos (show q ≤ 21 by rw [i_le, e21]; omega)]
      obtain ⟨pc2, pu2, ⟨y1, y2, y3, y4, y5, y6, y7, y8, y9, y10, y11⟩, o1, cc1, p1, u1, r1, d1, L, b1, b2, b3, b4, b5⟩ := same_prec s o cc p (out := out) (dgm := dgm) hr (pc := pc) (pu := pu) (cn := cn) (pt := pt) (dg := dg) (ru := ru) (rl := rl) (su := su) (sl := sl) (bu := bu) (bl := bl) (uu := uu) (ul := ul) hfin h1 h2 (if x < 0 ∧ zmg x ≠ 0 then 1 else 0)
      rw [b1, Option.bind_some, b2]
      have he := pP_eq b4 b5
      exact ⟨pc2, pc2, pu2, _, o1, _, _, u1, _, _, rfl, by rw [he], b3, _, b4, b5⟩
theorem same_unit (t s cc p : Int32) {pc mo : Int32} {pu mt : Nat → Int32} (h : pS pc pu mo mt) {x : Int32} (h0 : ¬ x < 0) (h1 : x < pc) : ∃ d, f_D_unit pc pu x = some d ∧ f_M_unit t s mo cc p mt x = some (d, 0) := by
  obtain ⟨L, a, b⟩ := h
  have he := pP_eq a b
  have e0 : (0 : Int32).toInt = 0 := rfl
  unfold f_D_unit f_M_unit f_T_unitAt f_P_unitAt
  have g0 : 0 ≤ x.toInt := by rw [i_lt, e0] at h0; omega
  have g1 : x.toInt < L.length := by rw [i_lt, a.1] at h1; exact h1
  have g2 := a.2.1
  rw [if_neg h0, T_len, Option.bind_some, if_pos h1, if_neg h0, if_neg (show ¬ pc ≤ x by rw [i_le, a.1]; omega), if_pos (show zin x 1100 by exact ⟨by omega, by omega⟩), Option.bind_some, Option.bind_some, if_neg h0, ← he, if_pos h1]
  unfold f_M_unit_18
  rw [M_thr0, Option.bind_some]
  dsimp only
  rw [if_pos rfl, if_pos (show zin x 1200 by exact ⟨by omega, by omega⟩)]
  have hi : x.toNatClampNeg < L.length := by rw [i_cl]; omega
  have q1 := a.2.2 _ hi
  have q2 := b.2.2 _ hi
  rw [q1] at q2
  exact ⟨_, rfl, by rw [Option.some.inj q2]⟩
