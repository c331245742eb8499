theorem T_len (c : Int32) : f_T_length c = some c := rfl
/-- the class's page and the reference's are alike -/
def pS (pc : Int32) (pu : Nat → Int32) (mo : Int32) (mt : Nat → Int32) : Prop := ∃ L, pP 1100 pc pu L ∧ pP 1200 mo mt L
theorem pP_eq {a b : Nat} {pc mo : Int32} {pu mt : Nat → Int32} {L : List Int32} (h : pP a pc pu L) (g : pP b mo mt L) : pc = mo := i_eq.mpr (h.1.trans g.1.symm)
theorem M_write_inf (t s o cc p : Int32) {out r dgm : Nat → Int32} {x : Int64} (hi : 9218868437227405312 ≤ zmg x) :
    ∃ o' out', f_M_write t s o cc p out r dgm x = some (o', 0, o', cc, p, out', r, dgm) ∧ pP 1200 o' out' (zwd x) := by
  have hz : ¬ zmg x = 0 := by omega
  have h55 : ∀ s1 : Int32, (s1 = 0 ↔ ¬ (x < 0 ∧ zmg x ≠ 0 ∧ ¬ 9218868437227405312 < zmg x)) → ∃ o' out', f_M_write_55 0 s o cc p out r dgm x s1 = some (o', 0, o', cc, p, out', r, dgm) ∧ pP 1200 o' out' (zwd x) := by
    intro s1 hs
    unfold f_M_write_55
    rw [M_isNan, Option.bind_some]
    have h2 : (if 9218868437227405312 < zmg x then (1 : Int32) else 0) = 0 ↔ ¬ 9218868437227405312 < zmg x := by
      by_cases c : 9218868437227405312 < zmg x
      · rw [if_pos c]
        exact ⟨fun q => absurd q (by decide), fun q => absurd c q⟩
      · rw [if_neg c]
        exact ⟨fun _ => c, fun _ => rfl⟩
    obtain ⟨o1, u1, t1, t2⟩ := M_writeWord 0 s o cc p out hs h2 hi
    rw [t1, Option.bind_some]
    exact ⟨o1, u1, rfl, t2⟩
  have h38 : ∀ s0 : Int32, (s0 = 0 ↔ ¬ (x < 0 ∧ zmg x ≠ 0)) → ∃ o' out', f_M_write_38 0 s o cc p out r dgm x s0 = some (o', 0, o', cc, p, out', r, dgm) ∧ pP 1200 o' out' (zwd x) := by
    intro s0 hs
    unfold f_M_write_38 f_M_write_54
    by_cases q : s0 = 0
    · rw [if_pos q]
      exact h55 0 ⟨fun _ w => hs.mp q ⟨w.1, w.2.1⟩, fun _ => rfl⟩
    · rw [if_neg q, M_isNan, Option.bind_some]
      have hn : x < 0 ∧ zmg x ≠ 0 := by
        by_cases w : x < 0 ∧ zmg x ≠ 0
        · exact w
        · exact absurd (hs.mpr w) q
      by_cases c : 9218868437227405312 < zmg x
      · rw [if_pos c, if_neg (show ¬ (1 : Int32) = 0 by decide)]
        exact h55 0 ⟨fun _ w => w.2.2 c, fun _ => rfl⟩
      · rw [if_neg c, if_pos rfl]
        exact h55 1 ⟨fun w => absurd w (by decide), fun w => absurd ⟨hn.1, hn.2, c⟩ w⟩
  have h23 : ∀ s0 : Int32, (s0 = 0 ↔ ¬ (x < 0 ∧ zmg x ≠ 0)) → ∃ o' out', f_M_write_23 0 s o cc p out r dgm x s0 = some (o', 0, o', cc, p, out', r, dgm) ∧ pP 1200 o' out' (zwd x) := by
    intro s0 hs
    unfold f_M_write_23
    rw [M_isNan, Option.bind_some]
    by_cases c : 9218868437227405312 < zmg x
    · rw [if_pos c, if_neg (show ¬ (1 : Int32) = 0 by decide)]
      exact h38 s0 hs
    · rw [if_neg c, if_pos rfl, M_isInfinite, Option.bind_some, if_pos (show zmg x = 9218868437227405312 by omega), if_neg (show ¬ (1 : Int32) = 0 by decide)]
      exact h38 s0 hs
  unfold f_M_write f_M_write_22
  by_cases cn : x < 0
  · rw [if_pos cn, M_isZero, Option.bind_some, if_neg hz, if_pos rfl]
    exact h23 1 ⟨fun w => absurd w (by decide), fun w => absurd ⟨cn, hz⟩ w⟩
  · rw [if_neg cn]
    exact h23 0 ⟨fun _ w => cn w.1, fun _ => rfl⟩
theorem M_write_0 (t s o cc p : Int32) {out r dgm : Nat → Int32} {x : Int64} (hz : zmg x = 0) :
    ∃ o' out', f_M_write t s o cc p out r dgm x = some (o', 0, o', cc, p, out', r, dgm) ∧ pP 1200 o' out' [48] := by
  have hmz : (x &&& 9223372036854775807) = 0 := by
    rw [l_eq, l_mag, hz]
    rfl
  have h23 : ∃ o' out', f_M_write_23 0 s o cc p out r dgm x 0 = some (o', 0, o', cc, p, out', r, dgm) ∧ pP 1200 o' out' [48] := by
    unfold f_M_write_23
    rw [M_isNan, Option.bind_some, if_neg (show ¬ 9218868437227405312 < zmg x by omega), if_pos rfl, M_isInfinite, Option.bind_some, if_neg (show ¬ zmg x = 9218868437227405312 by omega), if_pos rfl, if_pos hmz]
    obtain ⟨o1, u1, t1, t2, _⟩ := M_emit 0 s cc p (pP_0 1200 out) (by decide) 48
    rw [t1, Option.bind_some]
    exact ⟨o1, u1, rfl, t2⟩
  unfold f_M_write f_M_write_22
  by_cases cn : x < 0
  · rw [if_pos cn, M_isZero, Option.bind_some, if_pos hz, if_neg (show ¬ (1 : Int32) = 0 by decide)]
    exact h23
  · rw [if_neg cn]
    exact h23
theorem same_write (t s o cc p : Int32) {out r dgm : Nat → Int32} (hr : mOK r) {pc cn pt ru su bu au uu : Int32} {pu dg rl sl bl al ul : Nat → Int32} (x : Int64) :
    ∃ d pc' pu' y o' cc' p' out' r' dgm', f_D_write pc pu cn pt dg ru rl su sl bu bl au al uu ul x = some (d, pc', pu', y) ∧ f_M_write t s o cc p out r dgm x = some (d, 0, o', cc', p', out', r', dgm') ∧ mOK r' ∧ pS pc' pu' o' out' := by
  unfold f_D_write f_T_writeText
  obtain ⟨pc1, pu1, hA, hB⟩ := T_begin pc pu x
  by_cases hi : 9218868437227405312 ≤ zmg x
  · obtain ⟨a1, a2⟩ := hA hi
    obtain ⟨o1, u1, b1, b2⟩ := M_write_inf t s o cc p (out := out) (r := r) (dgm := dgm) hi
    rw [a1, Option.bind_some]
    dsimp only
    rw [if_neg (show ¬ (1 : Int32) = 0 by decide), Option.bind_some]
    dsimp only
    rw [T_len]
    rw [Option.bind_some, b1]
    have he := pP_eq a2 b2
    exact ⟨pc1, pc1, pu1, _, o1, _, _, u1, _, _, rfl, by rw [he], hr, _, a2, b2⟩
  · have hfin : zmg x < 9218868437227405312 := by omega
    obtain ⟨a1, a2⟩ := hB hfin
    rw [a1, Option.bind_some]
    dsimp only
    rw [if_pos rfl, B_isZero, Option.bind_some]
    by_cases hz : zmg x = 0
    · rw [if_pos hz, if_neg (show ¬ (1 : Int32) = 0 by decide)]
      have hq : zsq x = [] := by unfold zsq; exact if_neg (fun q => q.2 hz)
      rw [hq] at a2
      obtain ⟨pc2, pu2, a3, a4⟩ := P_add a2 (by decide) (x := 48) (by decide) (by decide)
      obtain ⟨o1, u1, b1, b2⟩ := M_write_0 t s o cc p (out := out) (r := r) (dgm := dgm) hz
      rw [a3, Option.bind_some]
      dsimp only
      rw [Option.bind_some]
      dsimp only
      rw [T_len]
      rw [Option.bind_some, b1]
      have he := pP_eq a4 b2
      exact ⟨pc2, pc2, pu2, _, o1, _, _, u1, _, _, rfl, by rw [he], hr, _, a4, b2⟩
    · rw [if_neg hz, if_pos rfl]
      unfold f_B_magnitude
      rw [Option.bind_some]
      obtain ⟨c, V, Q, P, cn', pt', dg', ⟨y1, y2, y3, y4, y5, y6, y7, y8, y9, y10⟩, cc', pp', out', r', dgm', s1, s2, s3, s4, s5, s6, s7, s8, s9, s10, s11, _, _⟩ := short_both 0 s o cc p (out := out) (dgm := dgm) hr (cn := cn) (pt := pt) (dg := dg) (ru := ru) (rl := rl) (su := su) (sl := sl) (bu := bu) (bl := bl) (au := au) (al := al) (uu := uu) (ul := ul) hfin hz
      obtain ⟨o1, u1, b1, b2⟩ := M_write_fin t s o cc p hfin hz s4 s6 s7 s8 (by omega) (by omega) (by omega)
      rw [s1, Option.bind_some]
      dsimp only
      unfold f_E_pointPlace f_E_length
      rw [Option.bind_some, Option.bind_some, b1]
      have e21 : (21 : Int32).toInt = 21 := rfl
      have em6 : (-6 : Int32).toInt = -6 := rfl
      have hcn := s2.1
      have hsl := zsq_len x
      have sci : ∃ pc2 pu2, f_T_writeText_66 pc1 pu1 cn' pt' dg' y1 y2 y3 y4 y5 y6 y7 y8 y9 y10 cn' = some (pc2, pu2, cn', pt', dg', y1, y2, y3, y4, y5, y6, y7, y8, y9, y10) ∧ pP 1100 pc2 pu2 (zsq x ++ zsc (zdt c V) c Q) := by
        unfold f_T_writeText_66
        obtain ⟨pc2, pu2, a3, a4⟩ := T_addScientific s2 s3 (by omega) (by omega) a2 hcn s8 (by omega)
        rw [a3, Option.bind_some]
        exact ⟨pc2, pu2, rfl, a4⟩
      unfold zwb at b2
      by_cases c1 : 21 < Q
      · rw [if_pos (show 21 < pt' by rw [i_lt, s3, e21]; omega)]
        rw [if_pos (Or.inl c1)] at b2
        obtain ⟨pc2, pu2, a3, a4⟩ := sci
        rw [a3, Option.bind_some]
        dsimp only
        rw [T_len]
        rw [Option.bind_some]
        have he := pP_eq a4 b2
        exact ⟨pc2, pc2, pu2, _, o1, _, _, u1, _, _, rfl, by rw [he], s5, _, a4, b2⟩
      · rw [if_neg (show ¬ 21 < pt' by rw [i_lt, s3, e21]; omega)]
        by_cases c2 : Q ≤ -6
        · rw [if_neg (show ¬ (-6) < pt' by rw [i_lt, s3, em6]; omega)]
          rw [if_pos (Or.inr c2)] at b2
          obtain ⟨pc2, pu2, a3, a4⟩ := sci
          rw [a3, Option.bind_some]
          dsimp only
          rw [T_len]
          rw [Option.bind_some]
          have he := pP_eq a4 b2
          exact ⟨pc2, pc2, pu2, _, o1, _, _, u1, _, _, rfl, by rw [he], s5, _, a4, b2⟩
        · rw [if_pos (show (-6) < pt' by rw [i_lt, s3, em6]; omega)]
          rw [if_neg (show ¬ (21 < Q ∨ Q ≤ -6) by omega)] at b2
          have hn : (if cn' < pt' then pt' else cn').toInt = (((if (c : Int) < Q then Q.toNat else c) : Nat) : Int) := by
            by_cases q : (c : Int) < Q
            · rw [if_pos q, if_pos (show cn' < pt' by rw [i_lt, hcn, s3]; exact q), s3]
              omega
            · rw [if_neg q, if_neg (show ¬ cn' < pt' by rw [i_lt, hcn, s3]; exact q), hcn]
          obtain ⟨pc2, pu2, a3, a4⟩ := T_addPlain s2 s3 (by omega) (by omega) a2 hn (by split <;> omega) (by omega)
          rw [a3, Option.bind_some]
          dsimp only
          rw [Option.bind_some]
          dsimp only
          rw [T_len]
          rw [Option.bind_some]
          have he := pP_eq a4 b2
          exact ⟨pc2, pc2, pu2, _, o1, _, _, u1, _, _, rfl, by rw [he], s5, _, a4, b2⟩
