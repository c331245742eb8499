theorem zmg_mag (x : Int64) : zmg (x &&& 9223372036854775807) = zmg x := by
  have h1 : (x &&& 9223372036854775807).toBitVec.toNat = x.toBitVec.toNat % 2 ^ 63 := by
    rw [Int64.toBitVec_and, BitVec.toNat_and]
    show x.toBitVec.toNat &&& (2 ^ 63 - 1) = _
    rw [Nat.and_two_pow_sub_one_eq_mod]
  unfold zmg
  rw [h1]
  omega
theorem dz_rng : ∀ {c V : Nat}, 0 < c → 1 ≤ (dz c V).1 ∧ (dz c V).1 ≤ c
  | 0, _, h => absurd h (Nat.lt_irrefl _)
  | c + 1, V, _ => by
    rw [dz_s]
    by_cases q : 0 < c ∧ V % 10 = 0
    · rw [if_pos q]
      have := dz_rng (c := c) (V := V / 10) q.1
      omega
    · rw [if_neg q]
      exact ⟨by show 1 ≤ c + 1; omega, Nat.le_refl _⟩
theorem short_both (t s o cc p : Int32) {out r dgm : Nat → Int32} (hr : mOK r) {cn pt ru su bu au uu : Int32} {dg rl sl bl al ul : Nat → Int32} {x : Int64} (hfin : zmg x < 9218868437227405312) (hz : zmg x ≠ 0) :
    ∃ c V Q P cn' pt' dg' y cc' pp' out' r' dgm', f_E_makeShortest cn pt dg ru rl su sl bu bl au al uu ul (x &&& 9223372036854775807) = some (cn', pt', dg', y) ∧ eR 48 cn' dg' c V ∧ pt'.toInt = Q ∧ f_M_shortest t s o cc p out r dgm (x &&& 9223372036854775807) = some (cc', pp', out', r', dgm') ∧ mOK r' ∧ eR 420 cc' dgm' c V ∧ pp'.toInt = Q ∧ 1 ≤ c ∧ c ≤ 18 ∧ -330 < Q ∧ Q < 330 ∧ isP (zam (zmg x)) ((zep (zmg x) : Int) - 1074) P ∧ P ≤ Q := by
  have hm := zmg_mag x
  obtain ⟨cn', pt', dg', y, P, K, a1, a2, a3, a4, a5, a6, a7⟩ := E_makeShortest (cn := cn) (pt := pt) (dg := dg) (ru := ru) (rl := rl) (su := su) (sl := sl) (bu := bu) (bl := bl) (au := au) (al := al) (uu := uu) (ul := ul) (x := x &&& 9223372036854775807) (by rw [hm]; exact hfin) (by rw [hm]; exact hz)
  obtain ⟨cc', pp', out', r', dgm', b1, b2, b3, b4⟩ := M_shortest t s o cc p (out := out) (dg := dgm) hr (a := x &&& 9223372036854775807) (by rw [hm]; exact hfin) (by rw [hm]; exact hz) a1 a2 a3 a4
  have hK1 := a4.1
  have hK2 := a4.2.1
  rw [hm] at a1
  generalize (sV (zam (zmg (x &&& 9223372036854775807))) (zqb (x &&& 9223372036854775807)) (zev (x &&& 9223372036854775807)) ((zep (zmg (x &&& 9223372036854775807)) : Int) - 1074) (P - K)) = W at *
  have hC1 : 0 < sC K W := by unfold sC; split <;> omega
  have hC2 : sC K W ≤ 18 := by unfold sC; split <;> omega
  have hd := dz_rng (V := W) hC1
  have hP : sP P K W = P ∨ sP P K W = P + 1 := by unfold sP; split <;> simp
  exact ⟨_, _, _, P, cn', pt', dg', y, cc', pp', out', r', dgm', a5, a6, a7, b1, b2, b3, b4, hd.1, by omega, by omega, by omega, a1, by omega⟩
def zwb (g : Nat → Nat) (c : Nat) (Q : Int) : List Int32 := if 21 < Q ∨ Q ≤ -6 then zsc g c Q else zpl g Q (if (c : Int) < Q then Q.toNat else c)
theorem M_write132 (t s : Int32) {o cc p : Int32} {out r dgm : Nat → Int32} {c V : Nat} {Q : Int} (hE : eR 420 cc dgm c V) (hQ : p.toInt = Q) (hc1 : 1 ≤ c) (hc2 : c ≤ 60) (hQ1 : -400 < Q) (hQ2 : Q < 400) {L : List Int32} (h : pP 1200 o out L) (hl : L.length ≤ 5) :
    ∃ o' out', f_M_write_132 t s o cc p out r dgm = some (o', t, o', cc, p, out', r, dgm) ∧ pP 1200 o' out' (L ++ zsc (zdt c V) c Q) := by
  have e1 : (1 : Int32).toInt = 1 := rfl
  have hs : (p - 1).toInt = Q - 1 := by
    rw [i_sub (by rw [hQ, e1]; omega) (by rw [hQ, e1]; omega), hQ, e1]
  unfold f_M_write_132
  obtain ⟨o1, u1, t1, t2⟩ := M_writeScientific t s p hE hc1 hs (by omega) (by omega) h (by omega)
  rw [t1, Option.bind_some]
  exact ⟨o1, u1, rfl, t2⟩
theorem M_write211 (t s : Int32) {o cc p : Int32} {out r dgm : Nat → Int32} {c V : Nat} {Q : Nat} (hE : eR 420 cc dgm c V) (hQ : p.toInt = Q) (hc2 : c ≤ 60) {L : List Int32} (h : pP 1200 o out L) (hl : L.length ≤ 100) :
    ∃ o' out', f_M_write_211 t s o cc p out r dgm = some (o', t, o', cc, p, out', r, dgm) ∧ pP 1200 o' out' (L ++ zds (zdt c V) Q (c - Q)) := by
  unfold f_M_write_211
  obtain ⟨o1, u1, t1, t2⟩ := M_writeDigits t s p hE h hQ hE.1 (by omega) (by omega)
  rw [t1, Option.bind_some]
  exact ⟨o1, u1, rfl, t2⟩
theorem M_write114 (t s : Int32) {o cc p : Int32} {out r dgm : Nat → Int32} {c V : Nat} {Q : Int} (hE : eR 420 cc dgm c V) (hQ : p.toInt = Q) (hc1 : 1 ≤ c) (hc2 : c ≤ 60) (hQ1 : -400 < Q) (hQ2 : Q < 400) {L : List Int32} (h : pP 1200 o out L) (hl : L.length ≤ 5) :
    ∃ o' out', f_M_write_114 t s o cc p out r dgm = some (o', t, o', cc, p, out', r, dgm) ∧ pP 1200 o' out' (L ++ zwb (zdt c V) c Q) := by
  have e0 : (0 : Int32).toInt = 0 := rfl
  have e21 : (21 : Int32).toInt = 21 := rfl
  have em5 : (-5 : Int32).toInt = -5 := rfl
  have hcc := hE.1
  unfold f_M_write_114 zwb
  by_cases c1 : 21 < Q
  · rw [if_pos (show 21 < p by rw [i_lt, hQ, e21]; omega), if_pos (Or.inl c1)]
    exact M_write132 t s hE hQ hc1 hc2 hQ1 hQ2 h hl
  · rw [if_neg (show ¬ 21 < p by rw [i_lt, hQ, e21]; omega)]
    by_cases c2 : Q ≤ -6
    · rw [if_neg (show ¬ (-5) ≤ p by rw [i_le, hQ, em5]; omega), if_pos (Or.inr c2)]
      exact M_write132 t s hE hQ hc1 hc2 hQ1 hQ2 h hl
    · rw [if_pos (show (-5) ≤ p by rw [i_le, hQ, em5]; omega), if_neg (show ¬ (21 < Q ∨ Q ≤ -6) by omega)]
      unfold zpl zbp
      by_cases c3 : 0 < Q
      · rw [if_pos (show 0 < p by rw [i_lt, hQ, e0]; omega), if_pos c3]
        obtain ⟨q, hq⟩ : ∃ q : Nat, Q = q := ⟨Q.toNat, by omega⟩
        subst hq
        obtain ⟨o1, u1, t1, t2⟩ := M_writeDigits t s p hE h (x1 := 0) (x2 := p) (a := 0) (b := q) rfl hQ (by omega) (by omega)
        rw [t1, Option.bind_some]
        dsimp only
        have hm : (L ++ zds (zdt c V) 0 (q - 0)).length ≤ 50 := by rw [List.length_append, zds_len]; omega
        rw [Int.toNat_natCast]
        rw [Nat.sub_zero] at t2 hm
        by_cases c4 : c ≤ q
        · rw [if_pos (show cc ≤ p by rw [i_le, hQ, hcc]; omega)]
          obtain ⟨o2, u2, t3, t4⟩ := M_write211 (r := r) t s hE hQ hc2 t2 (by omega)
          rw [show c - q = 0 by omega] at t4
          have t4' : pP 1200 o2 u2 (L ++ zds (zdt c V) 0 q ++ []) := t4
          rw [List.append_nil] at t4'
          have hno : ¬ ((q : Int) < ((if (c : Int) < (q : Int) then q else c : Nat) : Int)) := by split <;> omega
          rw [if_neg hno, List.append_nil]
          exact ⟨o2, u2, t3, t4'⟩
        · rw [if_neg (show ¬ cc ≤ p by rw [i_le, hQ, hcc]; omega)]
          obtain ⟨o2, u2, t3, t4, _⟩ := M_emit t s cc p t2 (by omega) 46
          rw [t3, Option.bind_some]
          dsimp only
          obtain ⟨o3, u3, t5, t6⟩ := M_write211 (r := r) t s hE hQ hc2 t4 (by rw [List.length_append, List.length_singleton]; omega)
          have hn : (if (c : Int) < (q : Int) then q else c) = c := if_neg (by omega)
          rw [hn, if_pos (show (q : Int) < ((c : Nat) : Int) by omega), show (-(q : Int)).toNat = 0 by omega]
          refine ⟨o3, u3, t5, ?_⟩
          rw [List.append_assoc, List.append_assoc] at t6
          exact t6
      · rw [if_neg (show ¬ 0 < p by rw [i_lt, hQ, e0]; omega), if_neg c3]
        obtain ⟨o1, u1, t1, t2, _⟩ := M_emit t s cc p h (by omega) 48
        rw [t1, Option.bind_some]
        dsimp only
        obtain ⟨o2, u2, t3, t4, _⟩ := M_emit t s cc p t2 (by rw [List.length_append, List.length_singleton]; omega) 46
        rw [t3, Option.bind_some]
        dsimp only
        have hng : (-p).toInt = -Q := by rw [i_neg (by omega), hQ]
        have hm : (L ++ [48] ++ [46]).length ≤ 10 := by rw [List.length_append, List.length_append, List.length_singleton, List.length_singleton]; omega
        obtain ⟨o3, u3, t5, t6⟩ := M_emitZeros t s cc p t4 (x := -p) (n := (-Q).toNat) (by rw [hng]) (by omega)
        rw [t5, Option.bind_some]
        dsimp only
        obtain ⟨o4, u4, t7, t8⟩ := M_writeDigits t s p hE t6 (x1 := 0) (x2 := cc) (a := 0) (b := c) rfl hcc (by rw [List.length_append, zds_len]; omega) (by omega)
        rw [t7, Option.bind_some]
        have hn : (if (c : Int) < Q then Q.toNat else c) = c := if_neg (by omega)
        rw [hn, if_pos (show Q < ((c : Nat) : Int) by omega), show Q.toNat = 0 by omega]
        refine ⟨o4, u4, rfl, ?_⟩
        rw [List.append_assoc, List.append_assoc, List.append_assoc] at t8
        exact t8
theorem M_write_fin (t s o cc p : Int32) {out r dgm : Nat → Int32} {x : Int64} (hfin : zmg x < 9218868437227405312) (hz : zmg x ≠ 0) {cc' pp' : Int32} {out' r' dgm' : Nat → Int32} (h : f_M_shortest 0 s o cc p out r dgm (x &&& 9223372036854775807) = some (cc', pp', out', r', dgm')) {c V : Nat} {Q : Int} (hE : eR 420 cc' dgm' c V) (hQ : pp'.toInt = Q) (hc1 : 1 ≤ c) (hc2 : c ≤ 60) (hQ1 : -400 < Q) (hQ2 : Q < 400) :
    ∃ o' out'', f_M_write t s o cc p out r dgm x = some (o', 0, o', cc', pp', out'', r', dgm') ∧ pP 1200 o' out'' (zsq x ++ zwb (zdt c V) c Q) := by
  have hmz : ¬ (x &&& 9223372036854775807) = 0 := by
    intro q
    have h1 := l_mag x
    rw [q] at h1
    have h2 : (0 : Int64).toInt = 0 := rfl
    omega
  have h23 : ∀ s0 : Int32, ∃ o' out'', f_M_write_23 0 s o cc p out r dgm x s0 = some (o', 0, o', cc', pp', out'', r', dgm') ∧ pP 1200 o' out'' ((if s0 = 0 then [] else [45]) ++ zwb (zdt c V) c Q) := by
    intro s0
    unfold f_M_write_23
    rw [M_isNan, Option.bind_some, if_neg (show ¬ 9218868437227405312 < zmg x by omega), if_pos rfl, M_isInfinite, Option.bind_some, if_neg (show ¬ zmg x = 9218868437227405312 by omega), if_pos rfl, if_neg hmz, h, Option.bind_some]
    dsimp only
    by_cases q : s0 = 0
    · rw [if_pos q, if_pos q]
      exact M_write114 0 s hE hQ hc1 hc2 hQ1 hQ2 (pP_0 1200 out') (by decide)
    · rw [if_neg q, if_neg q]
      obtain ⟨o1, u1, t1, t2, _⟩ := M_emit 0 s cc' pp' (pP_0 1200 out') (by decide) 45
      rw [t1, Option.bind_some]
      dsimp only
      exact M_write114 0 s hE hQ hc1 hc2 hQ1 hQ2 t2 (by decide)
  unfold f_M_write f_M_write_22 zsq
  by_cases cn : x < 0
  · rw [if_pos cn, M_isZero, Option.bind_some, if_neg hz, if_pos rfl, if_pos ⟨cn, hz⟩]
    exact h23 1
  · rw [if_neg cn, if_neg (fun q => cn q.1)]
    exact h23 0
