theorem M_form54 (t s o cc p : Int32) {out r dgm : Nat → Int32} (x : Int64) (k q : Int32) : f_M_form_54 t s o cc p out r dgm x k q 0 = f_M_form_86 0 s o cc p out r dgm x k q (if x < 0 ∧ zmg x ≠ 0 then 1 else 0) := by
  unfold f_M_form_54 f_M_form_85
  rw [M_thr0, Option.bind_some]
  dsimp only
  rw [if_pos rfl]
  by_cases cn : x < 0
  · rw [if_pos cn, M_isZero, Option.bind_some]
    by_cases hz : zmg x = 0
    · rw [if_pos hz, if_neg (show ¬ (1 : Int32) = 0 by decide), if_neg (fun q => q.2 hz)]
    · rw [if_neg hz, if_pos rfl, if_pos ⟨cn, hz⟩]
  · rw [if_neg cn, if_neg (fun q => cn q.1)]
/-- what form takes -/
def zfr (k q : Int32) : Prop := (k = 0 ∧ 0 ≤ q.toInt ∧ q.toInt ≤ 20) ∨ (k = 1 ∧ -1 ≤ q.toInt ∧ q.toInt ≤ 20) ∨ (k = 2 ∧ 1 ≤ q.toInt ∧ q.toInt ≤ 21)
theorem M_form_go (t s o cc p : Int32) {out r dgm : Nat → Int32} (x : Int64) {k q : Int32} (h : zfr k q) : f_M_form t s o cc p out r dgm x k q = f_M_form_86 0 s o cc p out r dgm x k q (if x < 0 ∧ zmg x ≠ 0 then 1 else 0) := by
  rw [← M_form54 t s o cc p x k q]
  have e20 : (20 : Int32).toInt = 20 := rfl
  have e21 : (21 : Int32).toInt = 21 := rfl
  have e0 : (0 : Int32).toInt = 0 := rfl
  have e1 : (1 : Int32).toInt = 1 := rfl
  have em1 : (-1 : Int32).toInt = -1 := rfl
  unfold f_M_form f_M_form_23 f_M_form_46
  rcases h with ⟨rfl, h1, h2⟩ | ⟨rfl, h1, h2⟩ | ⟨rfl, h1, h2⟩
  · rw [if_neg (show ¬ (0 : Int32) < 0 by decide), if_neg (show ¬ (2 : Int32) < 0 by decide), if_neg (show ¬ (0 : Int32) = 2 by decide), if_neg (show ¬ 20 < q by rw [i_lt, e20]; omega), if_pos rfl, if_pos (show 0 ≤ q by rw [i_le, e0]; omega)]
  · rw [if_neg (show ¬ (1 : Int32) < 0 by decide), if_neg (show ¬ (2 : Int32) < 1 by decide), if_neg (show ¬ (1 : Int32) = 2 by decide), if_neg (show ¬ 20 < q by rw [i_lt, e20]; omega), if_neg (show ¬ (1 : Int32) = 0 by decide), if_pos rfl, if_pos (show -1 ≤ q by rw [i_le, em1]; omega)]
  · rw [if_neg (show ¬ (2 : Int32) < 0 by decide), if_neg (show ¬ (2 : Int32) < 2 by decide), if_pos rfl, if_neg (show ¬ 21 < q by rw [i_lt, e21]; omega), if_neg (show ¬ (2 : Int32) = 0 by decide), if_neg (show ¬ (2 : Int32) = 1 by decide), if_pos (show 1 ≤ q by rw [i_le, e1]; omega)]
theorem M_form_inf (s o cc p : Int32) {out r dgm : Nat → Int32} {x : Int64} (hi : 9218868437227405312 ≤ zmg x) (k q : Int32) :
    ∃ o' out', f_M_form_86 0 s o cc p out r dgm x k q (if x < 0 ∧ zmg x ≠ 0 then 1 else 0) = some (o', 0, o', cc, p, out', r, dgm) ∧ pP 1200 o' out' (zwd x) := by
  have hz : ¬ zmg x = 0 := by omega
  have h55 : ∀ s1 : Int32, (s1 = 0 ↔ ¬ (x < 0 ∧ zmg x ≠ 0 ∧ ¬ 9218868437227405312 < zmg x)) → ∃ o' out', f_M_form_120 0 s o cc p out r dgm x s1 = some (o', 0, o', cc, p, out', r, dgm) ∧ pP 1200 o' out' (zwd x) := by
    intro s1 hs
    unfold f_M_form_120
    rw [M_isNan, Option.bind_some]
    have h2 : (if 9218868437227405312 < zmg x then (1 : Int32) else 0) = 0 ↔ ¬ 9218868437227405312 < zmg x := by
      by_cases c : 9218868437227405312 < zmg x
      · rw [if_pos c]
        exact ⟨fun q => absurd q (by decide), fun q => absurd c q⟩
      · rw [if_neg c]
        exact ⟨fun _ => c, fun _ => rfl⟩
    obtain ⟨o1, u1, t1, t2⟩ := M_writeWord 0 s o cc p out hs h2 hi
    rw [t1, Option.bind_some]
    exact ⟨o1, u1, rfl, t2⟩
  have h38 : ∀ s0 : Int32, (s0 = 0 ↔ ¬ (x < 0 ∧ zmg x ≠ 0)) → ∃ o' out', f_M_form_102 0 s o cc p out r dgm x s0 = some (o', 0, o', cc, p, out', r, dgm) ∧ pP 1200 o' out' (zwd x) := by
    intro s0 hs
    unfold f_M_form_102 f_M_form_119
    by_cases q : s0 = 0
    · rw [if_pos q]
      exact h55 0 ⟨fun _ w => hs.mp q ⟨w.1, w.2.1⟩, fun _ => rfl⟩
    · rw [if_neg q, M_isNan, Option.bind_some]
      have hn : x < 0 ∧ zmg x ≠ 0 := by
        by_cases w : x < 0 ∧ zmg x ≠ 0
        · exact w
        · exact absurd (hs.mpr w) q
      by_cases c : 9218868437227405312 < zmg x
      · rw [if_pos c, if_neg (show ¬ (1 : Int32) = 0 by decide)]
        exact h55 0 ⟨fun _ w => w.2.2 c, fun _ => rfl⟩
      · rw [if_neg c, if_pos rfl]
        exact h55 1 ⟨fun w => absurd w (by decide), fun w => absurd ⟨hn.1, hn.2, c⟩ w⟩
  have hs : (if x < 0 ∧ zmg x ≠ 0 then (1 : Int32) else 0) = 0 ↔ ¬ (x < 0 ∧ zmg x ≠ 0) := by
    by_cases c : x < 0 ∧ zmg x ≠ 0
    · rw [if_pos c]
      exact ⟨fun q => absurd q (by decide), fun q => absurd c q⟩
    · rw [if_neg c]
      exact ⟨fun _ => c, fun _ => rfl⟩
  unfold f_M_form_86
  rw [M_isNan, Option.bind_some]
  by_cases c : 9218868437227405312 < zmg x
  · rw [if_pos c, if_neg (show ¬ (1 : Int32) = 0 by decide)]
    exact h38 _ hs
  · rw [if_neg c, if_pos rfl, M_isInfinite, Option.bind_some, if_pos (show zmg x = 9218868437227405312 by omega), if_neg (show ¬ (1 : Int32) = 0 by decide)]
    exact h38 _ hs
theorem zsg_neg {a b : Nat} : zsg a b < 0 ↔ a < b := by
  unfold zsg
  by_cases c : a < b
  · rw [if_pos c]
    exact ⟨fun _ => c, fun _ => by decide⟩
  · rw [if_neg c]
    constructor
    · intro h
      by_cases e : a = b
      · rw [if_pos e] at h
        exact absurd h (by decide)
      · rw [if_neg e] at h
        exact absurd h (by decide)
    · exact fun q => absurd q c
theorem zfx_0 (pl : Nat) : zfx (zdt 0 0) 1 pl = zfx (zdt 0 0) (-(pl : Int)) pl := by
  rw [zfx_hi (Q := 1) (q := 1) rfl (by decide), zfx_lo (c := 0) (by omega) (by omega), Nat.sub_zero]
  have e : zds (zdt 0 0) 1 pl = zds (fun _ => 0) 0 pl := zds_congr (fun i _ => zdt_z 0 (1 + i))
  have e2 : zds (zdt 0 0) 0 1 = [48] := by
    show ([] : List Int32) ++ [zch (zdt 0 0 0)] = [48]
    rw [zdt_z, zch_0]
    rfl
  rw [e, e2]
  show _ = [48] ++ ((if pl = 0 then [] else [46]) ++ (zds (fun _ => 0) 0 pl ++ []))
  rw [List.append_nil]
theorem znr_0 (E t : Int) : znr 0 E t = 0 := by
  unfold znr vN
  rw [Nat.zero_mul, Nat.zero_mul, Nat.mul_zero, Nat.zero_add]
  have := vD_pos E t
  exact Nat.div_eq_of_lt (by omega)
theorem same_fixed (s o cc p : Int32) {out r dgm : Nat → Int32} (hr : mOK r) {pc cn pt ru su bu au uu : Int32} {pu dg rl sl bl al ul : Nat → Int32} {x : Int64} (hfin : zmg x < 9218868437227405312) {q : Int32} (h1 : 0 ≤ q.toInt) (h2 : q.toInt ≤ 20) (s0 : Int32) :
    ∃ pc' pu' y o' cc' p' out' r' dgm' L, f_T_writeFixed pc pu cn pt dg ru rl su sl bu bl au al uu ul x q = some (pc', pu', y) ∧ f_M_form_86 0 s o cc p out r dgm x 0 q s0 = some (o', 0, o', cc', p', out', r', dgm') ∧ mOK r' ∧ pP 1100 pc' pu' L ∧ pP 1200 o' out' L := by
  have hm := zmg_mag x
  obtain ⟨pl, hpl⟩ : ∃ pl : Nat, q.toInt = pl := ⟨q.toInt.toNat, by omega⟩
  unfold f_M_form_86
  rw [M_isNan, Option.bind_some, if_neg (show ¬ 9218868437227405312 < zmg x by omega), if_pos rfl, M_isInfinite, Option.bind_some, if_neg (show ¬ zmg x = 9218868437227405312 by omega), if_pos rfl, if_neg (show ¬ (0 : Int32) = 1 by decide), if_neg (show ¬ (0 : Int32) = 2 by decide)]
  obtain ⟨r1, f1, f2, f3, f4⟩ := M_fraction 0 s o cc p hr (a := x &&& 9223372036854775807) (x3 := 21) (T := 21) (by rw [hm]; exact hfin) rfl (by decide) (by decide)
  rw [f1, Option.bind_some, M_order 0 s o cc p f2 (a := 0) (b := 1) (by decide) (by decide) rfl rfl, Option.bind_some, f3, f4, hm]
  obtain ⟨pc1, pu1, _, hB⟩ := T_begin pc pu x
  obtain ⟨a1, a2⟩ := hB hfin
  have hsl := zsq_len x
  unfold f_T_writeFixed
  rw [a1, Option.bind_some]
  dsimp only
  rw [if_pos rfl]
  have hmag : f_B_magnitude x = some (x &&& 9223372036854775807) := rfl
  rw [hmag, Option.bind_some]
  have hT : (4921056587992461136 : Int64).toInt = 4921056587992461136 := rfl
  by_cases c21 : zmg x < 4921056587992461136
  · have hsm := e21_iff.mpr c21
    rw [if_pos (zsg_neg.mpr hsm), if_pos (show x &&& 9223372036854775807 < 4921056587992461136 by rw [l_lt, l_mag, hT]; omega), B_isZero, Option.bind_some]
    by_cases hz : zmg x = 0
    · rw [if_pos hz, if_neg (show ¬ (1 : Int32) = 0 by decide)]
      unfold f_E_makeZero
      rw [Option.bind_some]
      dsimp only
      obtain ⟨pc2, pu2, a3, a4⟩ := T_fixed72 (eR_0 48 dg) (pt := 1) (Q := 1) rfl (by decide) (by decide) (ru := ru) (su := su) (bu := bu) (au := au) (uu := uu) (rl := rl) (sl := sl) (bl := bl) (al := al) (ul := ul) a2 hpl (by omega) (by omega)
      rw [zfx_0] at a4
      have hV : znr (zam (zmg x)) ((zep (zmg x) : Int) - 1074) (-(pl : Int)) = 0 := by
        rw [zam_0.mpr hz]
        exact znr_0 _ _
      obtain ⟨o1, cc1, u1, r2, dg2, b1, b2, b3⟩ := M_fixed 0 s o cc p (out := out) (dgm := dgm) f2 hfin hpl (by omega) hV (c := 0) (by decide) (by decide) (Or.inl rfl) (Q := -(pl : Int)) (Or.inl (by omega))
      rw [b1, Option.bind_some, a3]
      exact ⟨pc2, pu2, _, o1, _, _, u1, _, _, _, rfl, rfl, b2, a4, b3⟩
    · rw [if_neg hz, if_pos rfl, Option.bind_some]
      obtain ⟨cn2, pt2, dg2, ⟨y1, y2, y3, y4, y5, y6, y7, y8⟩, c, Q, s1, s2, s3, s4, s5, s6, s7⟩ := E_places (cn := cn) (pt := pt) (dg := dg) (ru := ru) (rl := rl) (su := su) (sl := sl) (bu := bu) (bl := bl) (uu := uu) (ul := ul) (x := x &&& 9223372036854775807) (by rw [hm]; exact hfin) (by rw [hm]; exact hz) hpl (by omega) (by rw [hm]; exact hsm)
      rw [hm] at s2 s7
      rw [s1, Option.bind_some]
      dsimp only
      obtain ⟨pc2, pu2, a3, a4⟩ := T_fixed72 s2 s3 (by omega) (by omega) (ru := y1) (rl := y2) (su := y3) (sl := y4) (bu := y5) (bl := y6) (au := au) (al := al) (uu := y7) (ul := y8) a2 hpl (by omega) (by omega)
      obtain ⟨o1, cc1, u1, r2, dg2, b1, b2, b3⟩ := M_fixed 0 s o cc p (out := out) (dgm := dgm) f2 hfin hpl (by omega) rfl s2.2.1 s2.2.2.1 s7 s4
      rw [b1, Option.bind_some, a3]
      exact ⟨pc2, pu2, _, o1, _, _, u1, _, _, _, rfl, rfl, b2, a4, b3⟩
  · have hsm : ¬ vN (zam (zmg x)) ((zep (zmg x) : Int) - 1074) 21 < vD ((zep (zmg x) : Int) - 1074) 21 := fun w => c21 (e21_iff.mp w)
    have hz : zmg x ≠ 0 := by omega
    rw [if_neg (fun w => hsm (zsg_neg.mp w)), if_neg (show ¬ x &&& 9223372036854775807 < 4921056587992461136 by rw [l_lt, l_mag, hT]; omega), Option.bind_some]
    obtain ⟨c, V, Q, P, cn', pt', dg', ⟨y1, y2, y3, y4, y5, y6, y7, y8, y9, y10⟩, cc', pp', out', r', dgm', s1, s2, s3, s4, s5, s6, s7, s8, s9, s10, s11, s12, s13⟩ := short_both 0 s o cc p (out := out) (dgm := dgm) f2 (cn := cn) (pt := pt) (dg := dg) (ru := ru) (rl := rl) (su := su) (sl := sl) (bu := bu) (bl := bl) (au := au) (al := al) (uu := uu) (ul := ul) hfin hz
    obtain ⟨o1, u1, b1, b2⟩ := M_write_fin 0 s o cc p hfin hz s4 s6 s7 s8 (by omega) (by omega) (by omega)
    have hP : 21 < P := by
      rcases Int.lt_or_le 21 P with w | w
      · exact w
      · exfalso
        obtain ⟨k, hk⟩ : ∃ k : Nat, (21 : Int) = P + k := ⟨(21 - P).toNat, by omega⟩
        have := v_mono s12.1 k
        rw [← hk] at this
        exact hsm this
    unfold zwb at b2
    rw [if_pos (Or.inl (by omega))] at b2
    rw [s1, Option.bind_some]
    dsimp only
    unfold f_E_length
    rw [Option.bind_some, b1, Option.bind_some]
    obtain ⟨pc2, pu2, a3, a4⟩ := T_addScientific s2 s3 (by omega) (by omega) a2 s2.1 s8 (by omega)
    rw [a3, Option.bind_some]
    exact ⟨pc2, pu2, _, o1, _, _, u1, _, _, _, rfl, rfl, s5, a4, b2⟩
