theorem zdt_z (c i : Nat) : zdt c 0 i = 0 := by
  unfold zdt
  split
  · rw [Nat.zero_div]
  · rfl
theorem zdt_zf (c : Nat) : zdt c 0 = zdt 0 0 := funext (fun i => (zdt_z c i).trans (zdt_z 0 i).symm)
theorem digits_both (t s o cc p : Int32) {out r dgm : Nat → Int32} (hr : mOK r) {cn pt ru su bu uu : Int32} {dg rl sl bl ul : Nat → Int32} {x : Int64} (hfin : zmg x < 9218868437227405312) (hz : zmg x ≠ 0) {x3 : Int32} {w : Nat} (h3 : x3.toInt = w) (hw0 : 0 < w) (hw : w ≤ 46) :
    ∃ V Q cn' pt' dg' y cc' pp' out' r' dgm', f_E_makeDigits cn pt dg ru rl su sl bu bl uu ul (x &&& 9223372036854775807) x3 = some (cn', pt', dg', y) ∧ eR 48 cn' dg' w V ∧ pt'.toInt = Q ∧ f_M_precisely t s o cc p out r dgm (x &&& 9223372036854775807) x3 = some (cc', pp', out', r', dgm') ∧ mOK r' ∧ eR 420 cc' dgm' w V ∧ pp'.toInt = Q ∧ -330 < Q ∧ Q < 330 := by
  have hm := zmg_mag x
  obtain ⟨cn', pt', dg', y, P, a1, a2, a3, a4, a5, a6⟩ := E_makeDigits (cn := cn) (pt := pt) (dg := dg) (ru := ru) (rl := rl) (su := su) (sl := sl) (bu := bu) (bl := bl) (uu := uu) (ul := ul) (x := x &&& 9223372036854775807) (by rw [hm]; exact hfin) (by rw [hm]; exact hz) h3 hw0 hw
  obtain ⟨cc', pp', out', r', dgm', b1, b2, b3, b4⟩ := M_precisely t s o cc p (out := out) (dg := dgm) hr (a := x &&& 9223372036854775807) (by rw [hm]; exact hfin) (by rw [hm]; exact hz) h3 hw0 hw a1
  have hP : zdP (zam (zmg (x &&& 9223372036854775807))) ((zep (zmg (x &&& 9223372036854775807)) : Int) - 1074) P w = P ∨ zdP (zam (zmg (x &&& 9223372036854775807))) ((zep (zmg (x &&& 9223372036854775807)) : Int) - 1074) P w = P + 1 := by unfold zdP; split <;> simp
  exact ⟨_, _, cn', pt', dg', y, cc', pp', out', r', dgm', a4, a5, a6, b1, b2, b3, b4, by omega, by omega⟩
theorem M_exp107 (t s o : Int32) {cc p : Int32} {out r dgm : Nat → Int32} {c V : Nat} {Q : Int} (hE : eR 420 cc dgm c V) (hQ : p.toInt = Q) (hc1 : 1 ≤ c) (hc2 : c ≤ 60) (hQ1 : -400 < Q) (hQ2 : Q < 400) (x4 : Int32) :
    ∃ o' out', f_M_exponential_107 t s o cc p out r dgm x4 = some (o', o', cc, p, out', r, dgm) ∧ pP 1200 o' out' ((if x4 = 0 then [] else [45]) ++ zsc (zdt c V) c Q) := by
  have e1 : (1 : Int32).toInt = 1 := rfl
  have hs : (p - 1).toInt = Q - 1 := by
    rw [i_sub (by rw [hQ, e1]; omega) (by rw [hQ, e1]; omega), hQ, e1]
  have h123 : ∀ {o1 : Int32} {u1 : Nat → Int32} {L : List Int32}, pP 1200 o1 u1 L → L.length ≤ 5 → ∃ o' out', f_M_exponential_123 t s o1 cc p u1 r dgm = some (o', o', cc, p, out', r, dgm) ∧ pP 1200 o' out' (L ++ zsc (zdt c V) c Q) := by
    intro o1 u1 L hL hl
    unfold f_M_exponential_123
    obtain ⟨o2, u2, t1, t2⟩ := M_writeScientific t s p hE hc1 hs (by omega) (by omega) hL (by omega)
    rw [t1, Option.bind_some]
    exact ⟨o2, u2, rfl, t2⟩
  unfold f_M_exponential_107
  by_cases q : x4 = 0
  · rw [if_pos q, if_pos q]
    exact h123 (pP_0 1200 out) (by decide)
  · rw [if_neg q, if_neg q]
    obtain ⟨o1, u1, t1, t2, _⟩ := M_emit t s cc p (pP_0 1200 out) (by decide) 45
    rw [t1, Option.bind_some]
    dsimp only
    exact h123 t2 (by decide)
theorem M_exp48 (t s o cc : Int32) {p : Int32} {out r dgm : Nat → Int32} {n : Nat} (hn1 : 1 ≤ n) (hn2 : n ≤ 60) (hcc : cc.toInt = n) (x4 : Int32) :
    ∃ o' dgm' out', f_M_exponential_48 t s o cc p out r dgm x4 0 = some (o', o', cc, 1, out', r, dgm') ∧ pP 1200 o' out' ((if x4 = 0 then [] else [45]) ++ zsc (zdt 0 0) n 1) := by
  unfold f_M_exponential_48
  obtain ⟨y, t1, o', dgm', out', t2, t3⟩ := zrun_inv (step := f_M_exponential_48_step t s x4) (x := (o, cc, p, out, r, dgm, 0)) (fun z => ∃ k : Nat, k ≤ n ∧ ∃ dg' y, z = (o, cc, p, out, r, dg', y) ∧ y.toInt = (k : Int) ∧ ∀ i, i < k → dg' i = 0) (fun z => ((n : Int) - z.2.2.2.2.2.2.toInt).toNat) (fun y => ∃ o' dgm' out', y = (o', o', cc, 1, out', r, dgm') ∧ pP 1200 o' out' ((if x4 = 0 then [] else [45]) ++ zsc (zdt 0 0) n 1)) (by
    rintro _ ⟨k, hk, dg', y, rfl, hy, hd⟩
    unfold f_M_exponential_48_step f_M_exponential_48_body
    dsimp only
    by_cases ck : k = n
    · rw [if_pos (show cc ≤ y by rw [i_le, hy, hcc]; omega)]
      unfold f_M_exponential_71
      have hE : eR 420 cc dg' n 0 := ⟨hcc, by omega, Nat.pow_pos (by decide), fun i hi => by rw [hd i (by omega), zdt_z]; rfl⟩
      obtain ⟨o1, u1, t1, t2⟩ := M_exp107 t s o (p := 1) (out := out) (r := r) hE (Q := 1) rfl hn1 hn2 (by decide) (by decide) x4
      rw [t1]
      rw [zdt_zf] at t2
      exact Or.inr ⟨_, rfl, o1, dg', u1, rfl, t2⟩
    · rw [if_neg (show ¬ cc ≤ y by rw [i_le, hy, hcc]; omega), if_pos (show zin y 420 by exact ⟨by omega, by omega⟩)]
      have hcl : y.toNatClampNeg = k := by rw [i_cl, hy, Int.toNat_natCast]
      rw [hcl]
      have hs : (y + 1).toInt = ((k + 1 : Nat) : Int) := i_suc hy (by omega)
      refine Or.inl ⟨_, rfl, ⟨k + 1, by omega, _, _, rfl, hs, fun i hi => ?_⟩, by dsimp only; rw [hs, hy]; omega⟩
      unfold upd
      by_cases e : i = k
      · rw [if_pos e]
      · rw [if_neg e]
        exact hd i (by omega)) ⟨0, Nat.zero_le _, dgm, 0, rfl, rfl, fun i hi => absurd hi (Nat.not_lt_zero _)⟩
  rw [t2] at t1
  exact ⟨o', dgm', out', t1, t3⟩
theorem M_exp_pick (t s o cc p : Int32) {out r dgm : Nat → Int32} {x : Int64} {x3 : Int32} {G : List Int32}
    (h : ∀ s0 : Int32, ∃ o' cc' p' out' r' dgm', f_M_exponential_18 t s o cc p out r dgm x x3 s0 = some (o', o', cc', p', out', r', dgm') ∧ mOK r' ∧ pP 1200 o' out' ((if s0 = 0 then [] else [45]) ++ G)) :
    ∃ o' cc' p' out' r' dgm', f_M_exponential t s o cc p out r dgm x x3 = some (o', o', cc', p', out', r', dgm') ∧ mOK r' ∧ pP 1200 o' out' (zsq x ++ G) := by
  unfold f_M_exponential f_M_exponential_17 zsq
  by_cases cn : x < 0
  · rw [if_pos cn, M_isZero, Option.bind_some]
    by_cases hz : zmg x = 0
    · rw [if_pos hz, if_neg (show ¬ (1 : Int32) = 0 by decide), if_neg (fun q => q.2 hz)]
      exact h 0
    · rw [if_neg hz, if_pos rfl, if_pos ⟨cn, hz⟩]
      exact h 1
  · rw [if_neg cn, if_neg (fun q => cn q.1)]
    exact h 0
def zpr (g : Nat → Nat) (n : Nat) (Q : Int) : List Int32 := if Q - 1 < -6 ∨ (n : Int) ≤ Q - 1 then zsc g n Q else zpl g Q n
theorem M_prec92 (t s : Int32) {o cc p : Int32} {out r dgm : Nat → Int32} {c V : Nat} {Q : Int} (hE : eR 420 cc dgm c V) (hQ : p.toInt = Q) (hc1 : 1 ≤ c) (hc2 : c ≤ 60) (hQ1 : -400 < Q) (hQ2 : Q < 400) {x3 : Int32} (h3 : x3.toInt = c) {L : List Int32} (h : pP 1200 o out L) (hl : L.length ≤ 5) :
    ∃ o' out', f_M_precise_92 t s o cc p out r dgm x3 = some (o', o', cc, p, out', r, dgm) ∧ pP 1200 o' out' (L ++ zpr (zdt c V) c Q) := by
  have e0 : (0 : Int32).toInt = 0 := rfl
  have e1 : (1 : Int32).toInt = 1 := rfl
  have em6 : (-6 : Int32).toInt = -6 := rfl
  have hs : (p - 1).toInt = Q - 1 := by
    rw [i_sub (by rw [hQ, e1]; omega) (by rw [hQ, e1]; omega), hQ, e1]
  have h113 : ∃ o' out', f_M_precise_113 t s o cc p out r dgm (p - 1) = some (o', o', cc, p, out', r, dgm) ∧ pP 1200 o' out' (L ++ zsc (zdt c V) c Q) := by
    unfold f_M_precise_113
    obtain ⟨o2, u2, t1, t2⟩ := M_writeScientific t s p hE hc1 hs (by omega) (by omega) h (by omega)
    rw [t1, Option.bind_some]
    exact ⟨o2, u2, rfl, t2⟩
  unfold f_M_precise_92 zpr
  by_cases c1 : Q - 1 < -6
  · rw [if_pos (show p - 1 < -6 by rw [i_lt, hs, em6]; exact c1), if_pos (Or.inl c1)]
    exact h113
  · rw [if_neg (show ¬ p - 1 < -6 by rw [i_lt, hs, em6]; exact c1)]
    by_cases c2 : (c : Int) ≤ Q - 1
    · rw [if_neg (show ¬ p - 1 < x3 by rw [i_lt, hs, h3]; omega), if_pos (Or.inr c2)]
      exact h113
    · rw [if_pos (show p - 1 < x3 by rw [i_lt, hs, h3]; omega), if_neg (show ¬ (Q - 1 < -6 ∨ (c : Int) ≤ Q - 1) by omega)]
      unfold zpl zbp
      by_cases c3 : 0 < Q
      · rw [if_neg (show ¬ p - 1 < 0 by rw [i_lt, hs, e0]; omega), if_pos c3]
        obtain ⟨q, hq⟩ : ∃ q : Nat, Q = q := ⟨Q.toNat, by omega⟩
        subst hq
        obtain ⟨o1, u1, t1, t2⟩ := M_writeDigits t s p hE h (x1 := 0) (x2 := p) (a := 0) (b := q) rfl hQ (by omega) (by omega)
        rw [t1, Option.bind_some]
        dsimp only
        have hm : (L ++ zds (zdt c V) 0 (q - 0)).length ≤ 70 := by rw [List.length_append, zds_len]; omega
        rw [Int.toNat_natCast]
        rw [Nat.sub_zero] at t2 hm
        have h150 : ∀ {o1 : Int32} {u1 : Nat → Int32} {M : List Int32}, pP 1200 o1 u1 M → M.length ≤ 100 → ∃ o' out', f_M_precise_150 t s o1 cc p u1 r dgm x3 = some (o', o', cc, p, out', r, dgm) ∧ pP 1200 o' out' (M ++ zds (zdt c V) q (c - q)) := by
          intro o1 u1 M hM hm
          unfold f_M_precise_150
          obtain ⟨o2, u2, t3, t4⟩ := M_writeDigits t s p hE hM hQ h3 (by omega) (by omega)
          rw [t3, Option.bind_some]
          exact ⟨o2, u2, rfl, t4⟩
        by_cases c4 : c ≤ q
        · rw [if_pos (show x3 ≤ p by rw [i_le, hQ, h3]; omega)]
          obtain ⟨o2, u2, t3, t4⟩ := h150 t2 (by omega)
          rw [show c - q = 0 by omega] at t4
          have t4' : pP 1200 o2 u2 (L ++ zds (zdt c V) 0 q ++ []) := t4
          rw [List.append_nil] at t4'
          rw [if_neg (show ¬ ((q : Int) < ((c : Nat) : Int)) by omega), List.append_nil]
          exact ⟨o2, u2, t3, t4'⟩
        · rw [if_neg (show ¬ x3 ≤ p by rw [i_le, hQ, h3]; omega)]
          obtain ⟨o2, u2, t3, t4, _⟩ := M_emit t s cc p t2 (by omega) 46
          rw [t3, Option.bind_some]
          dsimp only
          obtain ⟨o3, u3, t5, t6⟩ := h150 t4 (by rw [List.length_append, List.length_singleton]; omega)
          rw [if_pos (show (q : Int) < ((c : Nat) : Int) by omega), show (-(q : Int)).toNat = 0 by omega]
          refine ⟨o3, u3, t5, ?_⟩
          rw [List.append_assoc, List.append_assoc] at t6
          exact t6
      · rw [if_pos (show p - 1 < 0 by rw [i_lt, hs, e0]; omega), if_neg c3]
        obtain ⟨o1, u1, t1, t2, _⟩ := M_emit t s cc p h (by omega) 48
        rw [t1, Option.bind_some]
        dsimp only
        obtain ⟨o2, u2, t3, t4, _⟩ := M_emit t s cc p t2 (by rw [List.length_append, List.length_singleton]; omega) 46
        rw [t3, Option.bind_some]
        dsimp only
        have hng : (-p).toInt = -Q := by rw [i_neg (by omega), hQ]
        have hm : (L ++ [48] ++ [46]).length ≤ 10 := by rw [List.length_append, List.length_append, List.length_singleton, List.length_singleton]; omega
        obtain ⟨o3, u3, t5, t6⟩ := M_emitZeros t s cc p t4 (x := -p) (n := (-Q).toNat) (by rw [hng]) (by omega)
        rw [t5, Option.bind_some]
        dsimp only
        obtain ⟨o4, u4, t7, t8⟩ := M_writeDigits t s p hE t6 (x1 := 0) (x2 := x3) (a := 0) (b := c) rfl h3 (by rw [List.length_append, zds_len]; omega) (by omega)
        rw [t7, Option.bind_some]
        rw [if_pos (show Q < ((c : Nat) : Int) by omega), show Q.toNat = 0 by omega]
        refine ⟨o4, u4, rfl, ?_⟩
        rw [List.append_assoc, List.append_assoc, List.append_assoc] at t8
        exact t8
theorem M_prec76 (t s o : Int32) {cc p : Int32} {out r dgm : Nat → Int32} {c V : Nat} {Q : Int} (hE : eR 420 cc dgm c V) (hQ : p.toInt = Q) (hc1 : 1 ≤ c) (hc2 : c ≤ 60) (hQ1 : -400 < Q) (hQ2 : Q < 400) {x3 : Int32} (h3 : x3.toInt = c) (x4 : Int32) :
    ∃ o' out', f_M_precise_76 t s o cc p out r dgm x3 x4 = some (o', o', cc, p, out', r, dgm) ∧ pP 1200 o' out' ((if x4 = 0 then [] else [45]) ++ zpr (zdt c V) c Q) := by
  unfold f_M_precise_76
  by_cases q : x4 = 0
  · rw [if_pos q, if_pos q]
    exact M_prec92 t s hE hQ hc1 hc2 hQ1 hQ2 h3 (pP_0 1200 out) (by decide)
  · rw [if_neg q, if_neg q]
    obtain ⟨o1, u1, t1, t2, _⟩ := M_emit t s cc p (pP_0 1200 out) (by decide) 45
    rw [t1, Option.bind_some]
    dsimp only
    exact M_prec92 t s hE hQ hc1 hc2 hQ1 hQ2 h3 t2 (by decide)
theorem M_prec35 (t s o cc : Int32) {p : Int32} {out r dgm : Nat → Int32} {n : Nat} (hn1 : 1 ≤ n) (hn2 : n ≤ 60) (hcc : cc.toInt = n) (x4 : Int32) :
    ∃ o' dgm' out', f_M_precise_35 t s o cc p out r dgm cc x4 0 = some (o', o', cc, 1, out', r, dgm') ∧ pP 1200 o' out' ((if x4 = 0 then [] else [45]) ++ zpr (zdt 0 0) n 1) := by
  unfold f_M_precise_35
  obtain ⟨y, t1, o', dgm', out', t2, t3⟩ := zrun_inv (step := f_M_precise_35_step t s cc x4) (x := (o, cc, p, out, r, dgm, 0)) (fun z => ∃ k : Nat, k ≤ n ∧ ∃ dg' y, z = (o, cc, p, out, r, dg', y) ∧ y.toInt = (k : Int) ∧ ∀ i, i < k → dg' i = 0) (fun z => ((n : Int) - z.2.2.2.2.2.2.toInt).toNat) (fun y => ∃ o' dgm' out', y = (o', o', cc, 1, out', r, dgm') ∧ pP 1200 o' out' ((if x4 = 0 then [] else [45]) ++ zpr (zdt 0 0) n 1)) (by
    rintro _ ⟨k, hk, dg', y, rfl, hy, hd⟩
    unfold f_M_precise_35_step f_M_precise_35_body
    dsimp only
    by_cases ck : k = n
    · rw [if_pos (show cc ≤ y by rw [i_le, hy, hcc]; omega)]
      unfold f_M_precise_58
      have hE : eR 420 cc dg' n 0 := ⟨hcc, by omega, Nat.pow_pos (by decide), fun i hi => by rw [hd i (by omega), zdt_z]; rfl⟩
      obtain ⟨o1, u1, t1, t2⟩ := M_prec76 t s o (p := 1) (out := out) (r := r) hE (Q := 1) rfl hn1 hn2 (by decide) (by decide) hcc x4
      rw [t1]
      rw [zdt_zf] at t2
      exact Or.inr ⟨_, rfl, o1, dg', u1, rfl, t2⟩
    · rw [if_neg (show ¬ cc ≤ y by rw [i_le, hy, hcc]; omega), if_pos (show zin y 420 by exact ⟨by omega, by omega⟩)]
      have hcl : y.toNatClampNeg = k := by rw [i_cl, hy, Int.toNat_natCast]
      rw [hcl]
      have hs : (y + 1).toInt = ((k + 1 : Nat) : Int) := i_suc hy (by omega)
      refine Or.inl ⟨_, rfl, ⟨k + 1, by omega, _, _, rfl, hs, fun i hi => ?_⟩, by dsimp only; rw [hs, hy]; omega⟩
      unfold upd
      by_cases e : i = k
      · rw [if_pos e]
      · rw [if_neg e]
        exact hd i (by omega)) ⟨0, Nat.zero_le _, dgm, 0, rfl, rfl, fun i hi => absurd hi (Nat.not_lt_zero _)⟩
  rw [t2] at t1
  exact ⟨o', dgm', out', t1, t3⟩
theorem M_prec_pick (t s o cc p : Int32) {out r dgm : Nat → Int32} {x : Int64} {x3 : Int32} {G : List Int32}
    (h : ∀ s0 : Int32, ∃ o' cc' p' out' r' dgm', f_M_precise_18 t s o cc p out r dgm x x3 s0 = some (o', o', cc', p', out', r', dgm') ∧ mOK r' ∧ pP 1200 o' out' ((if s0 = 0 then [] else [45]) ++ G)) :
    ∃ o' cc' p' out' r' dgm', f_M_precise t s o cc p out r dgm x x3 = some (o', o', cc', p', out', r', dgm') ∧ mOK r' ∧ pP 1200 o' out' (zsq x ++ G) := by
  unfold f_M_precise f_M_precise_17 zsq
  by_cases cn : x < 0
  · rw [if_pos cn, M_isZero, Option.bind_some]
    by_cases hz : zmg x = 0
    · rw [if_pos hz, if_neg (show ¬ (1 : Int32) = 0 by decide), if_neg (fun q => q.2 hz)]
      exact h 0
    · rw [if_neg hz, if_pos rfl, if_pos ⟨cn, hz⟩]
      exact h 1
  · rw [if_neg cn, if_neg (fun q => cn q.1)]
    exact h 0
