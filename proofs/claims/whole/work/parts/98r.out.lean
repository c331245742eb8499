def zsc (g : Nat → Nat) (n : Nat) (Q : Int) : List Int32 := [zch (g 0)] ++ ((if n ≤ 1 then [] else [46]) ++ (zds g 1 (n - 1) ++ zxp (Q - 1)))
def zbp (g : Nat → Nat) (Q : Int) : List Int32 := if 0 < Q then zds g 0 Q.toNat else [48]
def zpl (g : Nat → Nat) (Q : Int) (n : Nat) : List Int32 := zbp g Q ++ (if Q < n then [46] ++ (zds (fun _ => 0) 0 (-Q).toNat ++ zds g Q.toNat (n - Q.toNat)) else [])
theorem T_sci31 {cn pt : Int32} {dg : Nat → Int32} {c V : Nat} (hE : eR 48 cn dg c V) {Q : Int} (hQ : pt.toInt = Q) (hQ1 : -900 < Q) (hQ2 : Q < 900) {pc : Int32} {pu : Nat → Int32} {L : List Int32} (h : pP 1100 pc pu L) {x1 : Int32} {n : Nat} (h1 : x1.toInt = n) (hn0 : 1 ≤ n) (hl : L.length + n + 5 ≤ 1100) :
    ∃ pc' pu', f_T_addScientific_31 pc pu cn pt dg x1 1 = some (pc', pu') ∧ pP 1100 pc' pu' (L ++ (zds (zdt c V) 1 (n - 1) ++ zxp (Q - 1))) := by
  unfold f_T_addScientific_31
  obtain ⟨⟨c1, u1⟩, t1, t2⟩ := zrun_inv (step := f_T_addScientific_31_step cn pt dg x1) (x := (pc, pu, 1)) (fun z => ∃ k : Nat, k ≤ n - 1 ∧ z.2.2.toInt = ((1 + k : Nat) : Int) ∧ pP 1100 z.1 z.2.1 (L ++ zds (zdt c V) 1 k)) (fun z => ((n : Int) - z.2.2.toInt).toNat) (fun y => pP 1100 y.1 y.2 (L ++ (zds (zdt c V) 1 (n - 1) ++ zxp (Q - 1)))) (by
    rintro ⟨c0, u, y⟩ ⟨k, hk, hy, hP⟩
    dsimp only at hy hP
    unfold f_T_addScientific_31_step f_T_addScientific_31_body
    dsimp only
    by_cases ck : k = n - 1
    · rw [if_pos (show x1 ≤ y by rw [i_le, h1, hy]; omega)]
      rw [ck] at hP
      unfold f_T_addScientific_57 f_E_pointPlace
      rw [Option.bind_some]
      have hs : (pt - 1).toInt = Q - 1 := by
        have e1 : (1 : Int32).toInt = 1 := rfl
        rw [i_sub (by rw [hQ, e1]; omega) (by rw [hQ, e1]; omega), hQ, e1]
      obtain ⟨c2, u2, t3, t4⟩ := P_addExponent hP (by rw [List.length_append, zds_len]; omega) hs (by omega) (by omega)
      rw [t3, Option.bind_some]
      dsimp only
      rw [List.append_assoc] at t4
      exact Or.inr ⟨_, rfl, t4⟩
    · have hlt : 1 + k < n := by omega
      rw [if_neg (show ¬ x1 ≤ y by rw [i_le, h1, hy]; omega)]
      obtain ⟨d, t1, t2⟩ := E_digitAt (pt := pt) hE hy
      obtain ⟨c1, u1, t3, t4⟩ := P_addDigit hP (by rw [List.length_append, zds_len]; omega) t2 (by have := zdt_9 c V (1 + k); omega)
      rw [t1, Option.bind_some, t3, Option.bind_some]
      dsimp only
      have hs : (y + 1).toInt = ((1 + (k + 1) : Nat) : Int) := i_suc (k := 1 + k) hy (by omega)
      rw [List.append_assoc] at t4
      exact Or.inl ⟨_, rfl, ⟨k + 1, by omega, hs, t4⟩, by dsimp only; rw [hs, hy]; omega⟩) ⟨0, Nat.zero_le _, rfl, by
          show pP 1100 pc pu (L ++ [])
          rw [List.append_nil]
          exact h⟩
  exact ⟨c1, u1, t1, t2⟩
theorem T_addScientific {cn pt : Int32} {dg : Nat → Int32} {c V : Nat} (hE : eR 48 cn dg c V) {Q : Int} (hQ : pt.toInt = Q) (hQ1 : -900 < Q) (hQ2 : Q < 900) {pc : Int32} {pu : Nat → Int32} {L : List Int32} (h : pP 1100 pc pu L) {x1 : Int32} {n : Nat} (h1 : x1.toInt = n) (hn0 : 1 ≤ n) (hl : L.length + n + 7 ≤ 1100) :
    ∃ pc' pu', f_T_addScientific pc pu cn pt dg x1 = some (pc', pu') ∧ pP 1100 pc' pu' (L ++ zsc (zdt c V) n Q) := by
  have e1 : (1 : Int32).toInt = 1 := rfl
  unfold f_T_addScientific f_T_addScientific_29 zsc
  obtain ⟨d, t1, t2⟩ := E_digitAt (pt := pt) hE (x := 0) (i := 0) rfl
  obtain ⟨c1, u1, t3, t4⟩ := P_addDigit h (by omega) t2 (by have := zdt_9 c V 0; omega)
  rw [t1, Option.bind_some, t3, Option.bind_some]
  dsimp only
  have hm : (L ++ [zch (zdt c V 0)]).length = L.length + 1 := by rw [List.length_append, List.length_singleton]
  by_cases cc : n ≤ 1
  · rw [if_pos (show x1 ≤ 1 by rw [i_le, h1, e1]; omega), if_pos cc, List.nil_append]
    obtain ⟨c2, u2, t5, t6⟩ := T_sci31 hE hQ hQ1 hQ2 t4 h1 hn0 (by omega)
    rw [List.append_assoc] at t6
    exact ⟨c2, u2, t5, t6⟩
  · rw [if_neg (show ¬ x1 ≤ 1 by rw [i_le, h1, e1]; omega), if_neg cc]
    obtain ⟨c2, u2, t5, t6⟩ := P_add t4 (by omega) (x := 46) (by decide) (by decide)
    rw [t5, Option.bind_some]
    dsimp only
    obtain ⟨c3, u3, t7, t8⟩ := T_sci31 hE hQ hQ1 hQ2 t6 h1 hn0 (by rw [List.length_append, hm, List.length_singleton]; omega)
    rw [List.append_assoc, List.append_assoc] at t8
    exact ⟨c3, u3, t7, t8⟩
theorem M_writeScientific (t s p : Int32) {cc : Int32} {dg : Nat → Int32} {c V : Nat} (hE : eR 420 cc dg c V) (hc : 1 ≤ c) {x1 : Int32} {Q : Int} (hx : x1.toInt = Q - 1) (hQ1 : -900 < Q) (hQ2 : Q < 900) {cn : Int32} {un : Nat → Int32} {L : List Int32} (h : pP 1200 cn un L) (hl : L.length + c + 7 ≤ 1200) :
    ∃ cn' un', f_M_writeScientific t s cn cc p un dg x1 = some (cn', un') ∧ pP 1200 cn' un' (L ++ zsc (zdt c V) c Q) := by
  have e1 : (1 : Int32).toInt = 1 := rfl
  have hcc := hE.1
  unfold f_M_writeScientific f_M_writeScientific_20 zsc
  obtain ⟨c1, u1, t3, t4⟩ := M_writeDigits t s p hE h (x1 := 0) (x2 := 1) (a := 0) (b := 1) rfl rfl (by omega) (by omega)
  have t4' : pP 1200 c1 u1 (L ++ [zch (zdt c V 0)]) := t4
  rw [t3, Option.bind_some]
  dsimp only
  have hm : (L ++ [zch (zdt c V 0)]).length = L.length + 1 := by rw [List.length_append, List.length_singleton]
  by_cases c' : c ≤ 1
  · rw [if_pos (show cc ≤ 1 by rw [i_le, hcc, e1]; omega), if_pos c', List.nil_append]
    obtain ⟨c2, u2, t5, t6⟩ := M_writeDigits t s p hE t4' (x1 := 1) (x2 := cc) (a := 1) (b := c) rfl hcc (by omega) (by omega)
    obtain ⟨c3, u3, t7, t8⟩ := M_writeExponent t s cc p t6 (by rw [List.length_append, hm, zds_len]; omega) hx (by omega) (by omega)
    rw [t5, Option.bind_some]
    dsimp only
    rw [t7, Option.bind_some]
    rw [List.append_assoc, List.append_assoc] at t8
    exact ⟨c3, u3, rfl, t8⟩
  · rw [if_neg (show ¬ cc ≤ 1 by rw [i_le, hcc, e1]; omega), if_neg c']
    obtain ⟨c2, u2, t5, t6, _⟩ := M_emit t s cc p t4' (by omega) 46
    have hm2 : (L ++ [zch (zdt c V 0)] ++ [46]).length = L.length + 2 := by rw [List.length_append, hm, List.length_singleton]
    rw [t5, Option.bind_some]
    dsimp only
    obtain ⟨c4, u4, t9, t10⟩ := M_writeDigits t s p hE t6 (x1 := 1) (x2 := cc) (a := 1) (b := c) rfl hcc (by omega) (by omega)
    obtain ⟨c3, u3, t7, t8⟩ := M_writeExponent t s cc p t10 (by rw [List.length_append, hm2, zds_len]; omega) hx (by omega) (by omega)
    rw [t9, Option.bind_some]
    dsimp only
    rw [t7, Option.bind_some]
    rw [List.append_assoc, List.append_assoc, List.append_assoc] at t8
    exact ⟨c3, u3, rfl, t8⟩
theorem T_before23 {cn pt : Int32} {dg : Nat → Int32} {c V : Nat} (hE : eR 48 cn dg c V) {pc : Int32} {pu : Nat → Int32} {L : List Int32} (h : pP 1100 pc pu L) {x1 : Int32} {n : Nat} (h1 : x1.toInt.toNat = n) (hl : L.length + n ≤ 1100) :
    ∃ pc' pu', f_T_addDigitsBeforePoint_23 pc pu cn pt dg x1 0 = some (pc', pu') ∧ pP 1100 pc' pu' (L ++ zds (zdt c V) 0 n) := by
  unfold f_T_addDigitsBeforePoint_23
  obtain ⟨⟨c1, u1⟩, t1, t2⟩ := zrun_inv (step := f_T_addDigitsBeforePoint_23_step cn pt dg x1) (x := (pc, pu, 0)) (fun z => ∃ k : Nat, k ≤ n ∧ z.2.2.toInt = ((0 + k : Nat) : Int) ∧ pP 1100 z.1 z.2.1 (L ++ zds (zdt c V) 0 k)) (fun z => ((n : Int) - z.2.2.toInt).toNat) (fun y => pP 1100 y.1 y.2 (L ++ zds (zdt c V) 0 n)) (by
    rintro ⟨c0, u, y⟩ ⟨k, hk, hy, hP⟩
    dsimp only at hy hP
    unfold f_T_addDigitsBeforePoint_23_step f_T_addDigitsBeforePoint_23_body
    dsimp only
    by_cases ck : k = n
    · rw [if_pos (show x1 ≤ y by rw [i_le, hy]; omega)]
      rw [ck] at hP
      exact Or.inr ⟨_, rfl, hP⟩
    · rw [if_neg (show ¬ x1 ≤ y by rw [i_le, hy]; omega)]
      obtain ⟨d, t1, t2⟩ := E_digitAt (pt := pt) hE hy
      obtain ⟨c1, u1, t3, t4⟩ := P_addDigit hP (by rw [List.length_append, zds_len]; omega) t2 (by have := zdt_9 c V (0 + k); omega)
      rw [t1, Option.bind_some, t3, Option.bind_some]
      dsimp only
      have hs : (y + 1).toInt = ((0 + (k + 1) : Nat) : Int) := i_suc (k := 0 + k) hy (by omega)
      rw [List.append_assoc] at t4
      exact Or.inl ⟨_, rfl, ⟨k + 1, by omega, hs, t4⟩, by dsimp only; rw [hs, hy]; omega⟩) ⟨0, Nat.zero_le _, rfl, by
          show pP 1100 pc pu (L ++ [])
          rw [List.append_nil]
          exact h⟩
  exact ⟨c1, u1, t1, t2⟩
theorem T_before {cn pt : Int32} {dg : Nat → Int32} {c V : Nat} (hE : eR 48 cn dg c V) {Q : Int} (hQ : pt.toInt = Q) (hQ2 : Q < 900) {pc : Int32} {pu : Nat → Int32} {L : List Int32} (h : pP 1100 pc pu L) (hl : L.length + 900 ≤ 1100) :
    ∃ pc' pu', f_T_addDigitsBeforePoint pc pu cn pt dg = some (pc', pu') ∧ pP 1100 pc' pu' (L ++ zbp (zdt c V) Q) := by
  have e0 : (0 : Int32).toInt = 0 := rfl
  unfold f_T_addDigitsBeforePoint f_T_addDigitsBeforePoint_21 f_E_pointPlace zbp
  rw [Option.bind_some]
  by_cases cc : 0 < Q
  · rw [if_pos (show 0 < pt by rw [i_lt, hQ, e0]; omega), if_pos cc]
    exact T_before23 hE h (by rw [hQ]) (by omega)
  · rw [if_neg (show ¬ 0 < pt by rw [i_lt, hQ, e0]; omega), if_neg cc]
    obtain ⟨c2, u2, t5, t6⟩ := P_add h (by omega) (x := 48) (by decide) (by decide)
    rw [t5, Option.bind_some]
    dsimp only
    obtain ⟨c3, u3, t7, t8⟩ := T_before23 (pt := pt) hE t6 (x1 := pt) (n := 0) (by rw [hQ]; omega) (by rw [List.length_append, List.length_singleton]; omega)
    have t8' : pP 1100 c3 u3 (L ++ [48] ++ []) := t8
    rw [List.append_nil] at t8'
    exact ⟨c3, u3, t7, t8'⟩
