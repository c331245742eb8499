theorem M_radix_inf (ts o cc p : Int32) {out r : Nat → Int32} {x : Int64} (hi : 9218868437227405312 ≤ zmg x) (k : Int32) (s0 : Int32) (hs : s0 = 0 ↔ ¬ (x < 0 ∧ zmg x ≠ 0)) :
    ∃ o' out', f_M_radix_50 0 ts o cc p out r x k s0 = some (o', 0, o', out', r) ∧ pP 1200 o' out' (zwd x) := by
  have hz : ¬ zmg x = 0 := by omega
  have h55 : ∀ s1 : Int32, (s1 = 0 ↔ ¬ (x < 0 ∧ zmg x ≠ 0 ∧ ¬ 9218868437227405312 < zmg x)) → ∃ o' out', f_M_radix_84 0 ts o cc p out r x s1 = some (o', 0, o', out', r) ∧ pP 1200 o' out' (zwd x) := by
    intro s1 hs
    unfold f_M_radix_84
    rw [M_isNan, Option.bind_some]
    have h2 : (if 9218868437227405312 < zmg x then (1 : Int32) else 0) = 0 ↔ ¬ 9218868437227405312 < zmg x := by
      by_cases c : 9218868437227405312 < zmg x
      · rw [if_pos c]
        exact ⟨fun q => absurd q (by decide), fun q => absurd c q⟩
      · rw [if_neg c]
        exact ⟨fun _ => c, fun _ => rfl⟩
    obtain ⟨o1, u1, t1, t2⟩ := M_writeWord 0 ts o cc p out hs h2 hi
    rw [t1, Option.bind_some]
    exact ⟨o1, u1, rfl, t2⟩
  have h38 : ∃ o' out', f_M_radix_66 0 ts o cc p out r x s0 = some (o', 0, o', out', r) ∧ pP 1200 o' out' (zwd x) := by
    unfold f_M_radix_66 f_M_radix_83
    by_cases q : s0 = 0
    · rw [if_pos q]
      exact h55 0 ⟨fun _ w => hs.mp q ⟨w.1, w.2.1⟩, fun _ => rfl⟩
    · rw [if_neg q, M_isNan, Option.bind_some]
      have hn : x < 0 ∧ zmg x ≠ 0 := by
        by_cases w : x < 0 ∧ zmg x ≠ 0
        · exact w
        · exact absurd (hs.mpr w) q
      by_cases c : 9218868437227405312 < zmg x
      · rw [if_pos c, if_neg (show ¬ (1 : Int32) = 0 by decide)]
        exact h55 0 ⟨fun _ w => w.2.2 c, fun _ => rfl⟩
      · rw [if_neg c, if_pos rfl]
        exact h55 1 ⟨fun w => absurd w (by decide), fun w => absurd ⟨hn.1, hn.2, c⟩ w⟩
  unfold f_M_radix_50
  rw [M_isNan, Option.bind_some]
  by_cases c : 9218868437227405312 < zmg x
  · rw [if_pos c, if_neg (show ¬ (1 : Int32) = 0 by decide)]
    exact h38
  · rw [if_neg c, if_pos rfl, M_isInfinite, Option.bind_some, if_pos (show zmg x = 9218868437227405312 by omega), if_neg (show ¬ (1 : Int32) = 0 by decide)]
    exact h38
theorem M_radix_go (t ts o cc p : Int32) {out r : Nat → Int32} (x : Int64) {x3 : Int32} (h0 : ¬ x3 < 2) (h1 : ¬ 36 < x3) (h2 : ¬ x3 = 10) : ∃ s0 : Int32, (s0 = 0 ↔ ¬ (x < 0 ∧ zmg x ≠ 0)) ∧ f_M_radix t ts o cc p out r x x3 = f_M_radix_50 0 ts o cc p out r x x3 s0 := by
  unfold f_M_radix f_M_radix_23 f_M_radix_49
  rw [if_neg h0, if_neg h1, if_neg h2, M_thr0, Option.bind_some]
  dsimp only
  rw [if_pos rfl]
  by_cases cn : x < 0
  · rw [if_pos cn, M_isZero, Option.bind_some]
    by_cases hz : zmg x = 0
    · rw [if_pos hz, if_neg (show ¬ (1 : Int32) = 0 by decide)]
      exact ⟨0, ⟨fun _ w => w.2 hz, fun _ => rfl⟩, rfl⟩
    · rw [if_neg hz, if_pos rfl]
      exact ⟨1, ⟨fun w => absurd w (by decide), fun w => absurd ⟨cn, hz⟩ w⟩, rfl⟩
  · rw [if_neg cn]
    exact ⟨0, ⟨fun _ w => cn w.1, fun _ => rfl⟩, rfl⟩
theorem same_radix (t ts o cc p : Int32) {out r : Nat → Int32} (hr : mOK r) {pc nu : Int32} {pu nl : Nat → Int32} (x : Int64) {x3 : Int32} (h0 : ¬ x3 < 2) (h1 : ¬ 36 < x3) (h2 : ¬ x3 = 10) :
    ∃ d pc' pu' y o' out' r', f_D_radix pc pu nu nl x x3 = some (d, pc', pu', y) ∧ f_M_radix t ts o cc p out r x x3 = some (d, 0, o', out', r') ∧ mOK r' ∧ pS pc' pu' o' out' := by
  obtain ⟨s0, hs, hgo⟩ := M_radix_go t ts o cc p (out := out) (r := r) x h0 h1 h2
  rw [hgo]
  unfold f_D_radix
  rw [if_neg h0, if_neg h1, if_neg h2]
  by_cases hi : 9218868437227405312 ≤ zmg x
  · obtain ⟨o1, u1, b1, b2⟩ := M_radix_inf ts o cc p (out := out) (r := r) hi x3 s0 hs
    obtain ⟨pc1, pu1, hA, _⟩ := T_begin pc pu x
    obtain ⟨a1, a2⟩ := hA hi
    unfold f_T_writeInRadix
    rw [a1, Option.bind_some, b1]
    dsimp only
    rw [if_neg (show ¬ (1 : Int32) = 0 by decide), Option.bind_some]
    have he := pP_eq a2 b2
    exact ⟨pc1, pc1, pu1, _, o1, u1, _, rfl, by rw [he], hr, _, a2, b2⟩
  · have hfin : zmg x < 9218868437227405312 := by omega
    have e2 : (2 : Int32).toInt = 2 := rfl
    have e36 : (36 : Int32).toInt = 36 := rfl
    rw [i_lt, e2] at h0
    rw [i_lt, e36] at h1
    obtain ⟨b, hb⟩ : ∃ b : Nat, x3.toInt = b := ⟨x3.toInt.toNat, by omega⟩
    obtain ⟨o1, u1, r1, K, n, q1, q2, q3, q4, q5⟩ := M_radix50 ts o cc p (out := out) hr hfin (b := b) (by omega) (by omega) hb s0
    obtain ⟨pc1, pu1, n1, l1, K', n', t1, t2, t3, t4⟩ := T_radix hfin (b := b) (by omega) (by omega) hb (pc := pc) (pu := pu) (nu := nu) (nl := nl)
    rw [isK_uniq t2 q3, zln_uniq (by omega) t3 q4] at t4
    have hsq : zsq x = (if s0 = 0 then [] else [45]) := by
      unfold zsq
      by_cases c : s0 = 0
      · rw [if_pos c, if_neg (hs.mp c)]
      · rw [if_neg c]
        by_cases w : x < 0 ∧ zmg x ≠ 0
        · rw [if_pos w]
        · exact absurd (hs.mpr w) c
    rw [hsq] at t4
    rw [t1, Option.bind_some, q1]
    have he := pP_eq t4 q5
    exact ⟨pc1, pc1, pu1, _, o1, u1, _, rfl, by rw [he], q2, _, t4, q5⟩
