theorem T_plain42 {cn pt : Int32} {dg : Nat → Int32} {c V : Nat} (hE : eR 48 cn dg c V) {pc : Int32} {pu : Nat → Int32} {L : List Int32} (h : pP 1100 pc pu L) {x1 x3 : Int32} {a n : Nat} (h1 : x1.toInt = n) (h3 : x3.toInt = a) (hn : n < 1000) (hl : L.length + (n - a) ≤ 1100) :
    ∃ pc' pu', f_T_addPlain_42 pc pu cn pt dg x1 x3 = some (pc', pu') ∧ pP 1100 pc' pu' (L ++ zds (zdt c V) a (n - a)) := by
  unfold f_T_addPlain_42
  obtain ⟨⟨c1, u1⟩, t1, t2⟩ := zrun_inv (step := f_T_addPlain_42_step cn pt dg x1) (x := (pc, pu, x3)) (fun z => ∃ k : Nat, k ≤ n - a ∧ z.2.2.toInt = ((a + k : Nat) : Int) ∧ pP 1100 z.1 z.2.1 (L ++ zds (zdt c V) a k)) (fun z => ((n : Int) - z.2.2.toInt).toNat) (fun y => pP 1100 y.1 y.2 (L ++ zds (zdt c V) a (n - a))) (by
    rintro ⟨c0, u, y⟩ ⟨k, hk, hy, hP⟩
    dsimp only at hy hP
    unfold f_T_addPlain_42_step f_T_addPlain_42_body
    dsimp only
    by_cases ck : k = n - a
    · rw [if_pos (show x1 ≤ y by rw [i_le, h1, hy]; omega)]
      rw [ck] at hP
      exact Or.inr ⟨_, rfl, hP⟩
    · rw [if_neg (show ¬ x1 ≤ y by rw [i_le, h1, hy]; omega)]
      obtain ⟨d, t1, t2⟩ := E_digitAt (pt := pt) hE hy
      obtain ⟨c1, u1, t3, t4⟩ := P_addDigit hP (by rw [List.length_append, zds_len]; omega) t2 (by have := zdt_9 c V (a + k); omega)
      rw [t1, Option.bind_some, t3, Option.bind_some]
      dsimp only
      have hs : (y + 1).toInt = ((a + (k + 1) : Nat) : Int) := i_suc (k := a + k) hy (by omega)
      rw [List.append_assoc] at t4
      exact Or.inl ⟨_, rfl, ⟨k + 1, by omega, hs, t4⟩, by dsimp only; rw [hs, hy]; omega⟩) ⟨0, Nat.zero_le _, h3, by
          show pP 1100 pc pu (L ++ [])
          rw [List.append_nil]
          exact h⟩
  exact ⟨c1, u1, t1, t2⟩
theorem zbp_len (g : Nat → Nat) (Q : Int) : (zbp g Q).length ≤ Q.toNat + 1 := by
  unfold zbp
  split
  · rw [zds_len]; omega
  · rw [List.length_singleton]; omega
theorem T_addPlain {cn pt : Int32} {dg : Nat → Int32} {c V : Nat} (hE : eR 48 cn dg c V) {Q : Int} (hQ : pt.toInt = Q) (hQ1 : -50 < Q) (hQ2 : Q < 50) {pc : Int32} {pu : Nat → Int32} {L : List Int32} (h : pP 1100 pc pu L) {x1 : Int32} {n : Nat} (h1 : x1.toInt = n) (hn : n ≤ 60) (hl : L.length ≤ 5) :
    ∃ pc' pu', f_T_addPlain pc pu cn pt dg x1 = some (pc', pu') ∧ pP 1100 pc' pu' (L ++ zpl (zdt c V) Q n) := by
  have e0 : (0 : Int32).toInt = 0 := rfl
  unfold f_T_addPlain f_E_pointPlace zpl
  rw [Option.bind_some]
  obtain ⟨c1, u1, t1, t2⟩ := T_before hE hQ (by omega) h (by omega)
  have hb := zbp_len (zdt c V) Q
  rw [t1, Option.bind_some]
  dsimp only
  have hm : (L ++ zbp (zdt c V) Q).length ≤ 60 := by rw [List.length_append]; omega
  generalize zbp (zdt c V) Q = Z at *
  by_cases cc : Q < n
  · rw [if_pos (show pt < x1 by rw [i_lt, hQ, h1]; omega), if_pos cc]
    obtain ⟨c2, u2, t3, t4⟩ := P_add t2 (by omega) (x := 46) (by decide) (by decide)
    rw [t3, Option.bind_some]
    dsimp only
    have hm2 : (L ++ Z ++ [46]).length ≤ 61 := by rw [List.length_append, List.length_singleton]; omega
    have hng : (-pt).toInt = -Q := by rw [i_neg (by omega), hQ]
    obtain ⟨c3, u3, t5, t6⟩ := P_addZeros t4 (x := -pt) (n := (-Q).toNat) (by rw [hng]) (by omega)
    rw [t5, Option.bind_some]
    dsimp only
    have hif : (if pt < 0 then 0 else pt).toInt = ((Q.toNat : Nat) : Int) := by
      by_cases q : pt < 0
      · rw [if_pos q, e0]
        rw [i_lt, hQ, e0] at q
        omega
      · rw [if_neg q, hQ]
        rw [i_lt, hQ, e0] at q
        omega
    obtain ⟨c4, u4, t7, t8⟩ := T_plain42 (pt := pt) hE t6 h1 hif (by omega) (by rw [List.length_append, zds_len]; omega)
    rw [List.append_assoc, List.append_assoc, List.append_assoc] at t8
    exact ⟨c4, u4, t7, t8⟩
  · rw [if_neg (show ¬ pt < x1 by rw [i_lt, hQ, h1]; omega), if_neg cc, List.append_nil]
    exact ⟨c1, u1, rfl, t2⟩
def zsq (x : Int64) : List Int32 := if x < 0 ∧ zmg x ≠ 0 then [45] else []
theorem zsq_len (x : Int64) : (zsq x).length ≤ 1 := by
  unfold zsq
  split
  · exact Nat.le_refl _
  · exact Nat.zero_le _
/-- the word for what is no number -/
def zwd (x : Int64) : List Int32 := if 9218868437227405312 < zmg x then zst 1 (zsb 1).length else zsq x ++ zst 2 (zsb 2).length
theorem zwd_len (x : Int64) : (zwd x).length ≤ 20 := by
  unfold zwd
  have h := zsq_len x
  split
  · rw [zst_len]; decide
  · rw [List.length_append, zst_len]
    have : (zsb 2).length ≤ 10 := by decide
    omega
theorem T_begin47 {pc : Int32} {pu : Nat → Int32} {L : List Int32} (h : pP 1100 pc pu L) (hl : L.length ≤ 10) {x : Int64} :
    ∃ pc' pu', (zmg x = 9218868437227405312 → f_T_begin_47 pc pu x = some (1, pc', pu') ∧ pP 1100 pc' pu' (L ++ zst 2 (zsb 2).length)) ∧ (zmg x ≠ 9218868437227405312 → f_T_begin_47 pc pu x = some (0, pc', pu') ∧ pP 1100 pc' pu' L) := by
  unfold f_T_begin_47
  rw [B_isInfinite, Option.bind_some]
  by_cases c : zmg x = 9218868437227405312
  · have hw : (zsb 2).length ≤ 10 := by decide
    obtain ⟨c1, u1, t1, t2⟩ := P_addText h (w := 2) (by decide) (by omega)
    refine ⟨c1, u1, fun _ => ?_, fun q => absurd c q⟩
    rw [if_pos c, if_neg (show ¬ (1 : Int32) = 0 by decide), t1, Option.bind_some]
    exact ⟨rfl, t2⟩
  · refine ⟨pc, pu, fun q => absurd q c, fun _ => ?_⟩
    rw [if_neg c, if_pos rfl]
    exact ⟨rfl, h⟩
theorem T_begin (pc : Int32) (pu : Nat → Int32) (x : Int64) :
    ∃ pc' pu', (9218868437227405312 ≤ zmg x → f_T_begin pc pu x = some (1, pc', pu') ∧ pP 1100 pc' pu' (zwd x)) ∧ (zmg x < 9218868437227405312 → f_T_begin pc pu x = some (0, pc', pu') ∧ pP 1100 pc' pu' (zsq x)) := by
  unfold f_T_begin f_P_clear
  rw [Option.bind_some, B_isNan, Option.bind_some]
  have h0 := pP_0 1100 pu
  by_cases c : 9218868437227405312 < zmg x
  · obtain ⟨c1, u1, t1, t2⟩ := P_addText h0 (w := 1) (by decide) (by decide)
    refine ⟨c1, u1, fun _ => ?_, fun q => absurd q (by omega)⟩
    rw [if_pos c, if_neg (show ¬ (1 : Int32) = 0 by decide), t1, Option.bind_some]
    unfold zwd
    rw [if_pos c]
    exact ⟨rfl, t2⟩
  · rw [if_neg c, if_pos rfl]
    have fin : ∀ {c1 : Int32} {u1 : Nat → Int32}, pP 1100 c1 u1 (zsq x) → ∃ pc' pu', (9218868437227405312 ≤ zmg x → f_T_begin_47 c1 u1 x = some (1, pc', pu') ∧ pP 1100 pc' pu' (zwd x)) ∧ (zmg x < 9218868437227405312 → f_T_begin_47 c1 u1 x = some (0, pc', pu') ∧ pP 1100 pc' pu' (zsq x)) := by
      intro c1 u1 h1
      obtain ⟨c2, u2, t3, t4⟩ := T_begin47 h1 (by have := zsq_len x; omega) (x := x)
      refine ⟨c2, u2, fun q => ?_, fun q => t4 (by omega)⟩
      unfold zwd
      rw [if_neg c]
      exact t3 (by omega)
    by_cases cn : x < 0
    · rw [if_pos cn, B_isZero, Option.bind_some]
      by_cases cz : zmg x = 0
      · rw [if_pos cz, if_neg (show ¬ (1 : Int32) = 0 by decide)]
        apply fin
        unfold zsq
        rw [if_neg (fun q => q.2 cz)]
        exact h0
      · rw [if_neg cz, if_pos rfl]
        obtain ⟨c1, u1, t1, t2⟩ := P_add h0 (by decide) (x := 45) (by decide) (by decide)
        rw [t1, Option.bind_some]
        dsimp only
        apply fin
        unfold zsq
        rw [if_pos ⟨cn, cz⟩]
        exact t2
    · rw [if_neg cn]
      apply fin
      unfold zsq
      rw [if_neg (fun q => cn q.1)]
      exact h0
theorem M_writeWord (t s o c p : Int32) (out : Nat → Int32) {x : Int64} {x1 x2 : Int32} (hx1 : x1 = 0 ↔ ¬ (x < 0 ∧ zmg x ≠ 0 ∧ ¬ 9218868437227405312 < zmg x)) (hx2 : x2 = 0 ↔ ¬ 9218868437227405312 < zmg x) (hi : 9218868437227405312 ≤ zmg x) :
    ∃ o' out', f_M_writeWord t s o c p out x1 x2 = some (o', o', out') ∧ pP 1200 o' out' (zwd x) := by
  have h0 := pP_0 1200 out
  unfold f_M_writeWord
  have fin : ∀ {c1 : Int32} {u1 : Nat → Int32}, pP 1200 c1 u1 (if x1 = 0 then [] else [45]) → ∃ o' out', f_M_writeWord_15 t s c1 c p u1 x2 = some (o', o', out') ∧ pP 1200 o' out' (zwd x) := by
    intro c1 u1 h1
    unfold f_M_writeWord_15 f_M_writeWord_26 zwd
    by_cases c2 : 9218868437227405312 < zmg x
    · rw [if_neg (fun q => hx2.mp q c2), if_pos c2]
      rw [if_pos (hx1.mpr (fun q => q.2.2 c2))] at h1
      obtain ⟨c3, u3, t3, t4⟩ := M_word30 t s c p h1 (w := 4) (by decide) (by decide)
      have e : zst 1 (zsb 1).length = zst 4 (zsb 4).length := zst_eq (w := 1) (v := 4) rfl _
      rw [e]
      exact ⟨c3, u3, t3, t4⟩
    · rw [if_pos (hx2.mpr c2), if_neg c2]
      have e : zst 2 (zsb 2).length = zst 3 (zsb 3).length := zst_eq (w := 2) (v := 3) rfl _
      have e2 : zsq x = (if x1 = 0 then [] else [45]) := by
        unfold zsq
        by_cases q : x1 = 0
        · rw [if_pos q, if_neg (fun w => hx1.mp q ⟨w.1, w.2, c2⟩)]
        · rw [if_neg q]
          by_cases w : x < 0 ∧ zmg x ≠ 0
          · rw [if_pos w]
          · exact absurd (hx1.mpr (fun v => w ⟨v.1, v.2.1⟩)) q
      rw [e, e2]
      have hw : (zsb 3).length ≤ 10 := by decide
      have hw2 : (if x1 = 0 then ([] : List Int32) else [45]).length ≤ 1 := by
        split
        · exact Nat.zero_le _
        · exact Nat.le_refl _
      obtain ⟨c3, u3, t3, t4⟩ := M_word30 t s c p h1 (w := 3) (by decide) (by omega)
      exact ⟨c3, u3, t3, t4⟩
  by_cases q : x1 = 0
  · rw [if_pos q]
    apply fin
    rw [if_pos q]
    exact h0
  · rw [if_neg q]
    obtain ⟨c1, u1, t1, t2, _⟩ := M_emit t s c p h0 (by decide) 45
    rw [t1, Option.bind_some]
    dsimp only
    apply fin
    rw [if_neg q]
    exact t2
