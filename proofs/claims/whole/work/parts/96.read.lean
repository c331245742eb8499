/-! Infinity, blanks, read: class and reference -/
theorem zsb3 : zsb 3 = zsb 0 := rfl
theorem zsch3 (k : Int32) : zsch 3 k = zsch 0 k := by
  unfold zsch
  rw [zsb3]
def zinf (tx : Nat → Int32) (e f : Nat) : Prop := f + 8 = e ∧ ∀ k, k < 8 → tx (f + k) = zsch 0 (nI k)
theorem zslen0 : (zslen 0).toInt = 8 := by decide
theorem zsb0l : (zsb 0).length = 8 := rfl
theorem zsb3l : (zsb 3).length = 8 := rfl
theorem R_inf (c1 c4 c5 : Int32) {tx : Nat → Int32} {en at' : Int32} {e f : Nat} (he : en.toInt = e) (h600 : e ≤ 600) (hat : at'.toInt = f) (hf : f ≤ e) : ∃ d, f_R_isInfinityLeft c1 at' en c4 c5 tx = some d ∧ (zinf tx e f → d = 1) ∧ (¬ zinf tx e f → d = 0) := by
  have hd : (en - at').toInt = ((e - f : Nat) : Int) := by
    rw [i_sub (by rw [he, hat]; omega) (by rw [he, hat]; omega), he, hat]
    omega
  unfold f_R_isInfinityLeft
  by_cases c8 : f + 8 = e
  · rw [if_pos (show en - at' = zslen 0 by rw [i_eq, hd, zslen0]; omega)]
    clear hd
    unfold f_R_isInfinityLeft_21
    refine zrun_inv (step := f_R_isInfinityLeft_21_step c1 at' en c4 c5 tx) (x := 0) (fun z => ∃ k : Nat, k ≤ 8 ∧ z.toInt = (k : Int) ∧ ∀ i, i < k → tx (f + i) = zsch 0 (nI i)) (fun z => (8 - z.toInt).toNat) (fun d => (zinf tx e f → d = 1) ∧ (¬ zinf tx e f → d = 0)) ?_ ⟨0, by omega, rfl, fun i hi => absurd hi (Nat.not_lt_zero _)⟩
    rintro z ⟨k, hk, hz, hall⟩
    unfold f_R_isInfinityLeft_21_step f_R_isInfinityLeft_21_body
    by_cases ck : k = 8
    · subst ck
      rw [if_pos (show zslen 0 ≤ z by rw [i_le, zslen0, hz]; omega)]
      exact Or.inr ⟨_, rfl, fun _ => rfl, fun h => absurd ⟨c8, hall⟩ h⟩
    · have hadd : (at' + z).toInt = ((f + k : Nat) : Int) := by
        rw [i_add (by rw [hat, hz]; omega) (by rw [hat, hz]; omega), hat, hz]
        omega
      have hzi : zin z (zsb 0).length := ⟨by omega, by rw [zsb0l]; omega⟩
      have hnI : z = nI k := nI_of' hz
      have hu : zun tx e (f + k) = tx (f + k) := by unfold zun; rw [if_pos (by omega)]
      rw [if_neg (show ¬ zslen 0 ≤ z by rw [i_le, zslen0, hz]; omega), R_unitAt c1 at' c4 c5 he h600 hadd, Option.bind_some, if_pos hzi, hu]
      clear hadd
      by_cases ce : tx (f + k) = zsch 0 z
      · rw [if_pos ce]
        have hs : (z + 1).toInt = ((k + 1 : Nat) : Int) := i_suc hz (by omega)
        refine Or.inl ⟨_, rfl, ⟨k + 1, by omega, hs, fun i hi => ?_⟩, ?_⟩
        · by_cases ci : i = k
          · subst ci; rw [ce, hnI]
          · exact hall i (by omega)
        · rw [hs, hz]
          clear hs hz
          omega
      · rw [if_neg ce]
        refine Or.inr ⟨_, rfl, fun h => ?_, fun _ => rfl⟩
        have := h.2 k (by omega)
        rw [← hnI] at this
        exact absurd this ce
  · rw [if_neg (show ¬ en - at' = zslen 0 by rw [i_eq, hd, zslen0]; omega)]
    exact ⟨_, rfl, fun h => absurd h.1 c8, fun _ => rfl⟩
theorem M_inf (t s o c p : Int32) {tx : Nat → Int32} {x1 x2 : Int32} {e f : Nat} (he : x2.toInt = e) (h600 : e ≤ 600) (hx : x1.toInt = f) (hf : f ≤ e) : ∃ d, f_M_isInfinity t s o c p tx x1 x2 = some d ∧ (zinf tx e f → d = 1) ∧ (¬ zinf tx e f → d = 0) := by
  have e8 : (8 : Int32).toInt = 8 := rfl
  have hd : (x2 - x1).toInt = ((e - f : Nat) : Int) := by
    rw [i_sub (by rw [he, hx]; omega) (by rw [he, hx]; omega), he, hx]
    omega
  unfold f_M_isInfinity f_M_isInfinity_16 f_M_isInfinity_21
  by_cases c8 : f + 8 = e
  · rw [if_pos (show x2 - x1 = 8 by rw [i_eq, hd, e8]; omega)]
    clear hd
    refine zrun_inv (step := f_M_isInfinity_21_step t s o c p tx x1 3) (x := (1, 0)) (fun z => ∃ k : Nat, k ≤ 8 ∧ z.2.toInt = (k : Int) ∧ ((z.1 = 1 ∧ ∀ i, i < k → tx (f + i) = zsch 0 (nI i)) ∨ (z.1 = 0 ∧ ¬ zinf tx e f))) (fun z => (8 - z.2.toInt).toNat) (fun d => (zinf tx e f → d = 1) ∧ (¬ zinf tx e f → d = 0)) ?_ ⟨0, by omega, rfl, Or.inl ⟨rfl, fun i hi => absurd hi (Nat.not_lt_zero _)⟩⟩
    rintro ⟨x4, z⟩ ⟨k, hk, hz, hall⟩
    dsimp only at hz hall
    unfold f_M_isInfinity_21_step f_M_isInfinity_21_body f_M_isInfinity_56
    dsimp only
    have h01 : x4 = 0 ∨ x4 = 1 := by
      rcases hall with h | h
      · exact Or.inr h.1
      · exact Or.inl h.1
    rw [if_pos h01]
    by_cases ck : k = 8
    · subst ck
      rw [if_pos (show (8 : Int32) ≤ z by rw [i_le, e8, hz]; omega)]
      refine Or.inr ⟨_, rfl, ?_⟩
      rcases hall with h | h
      · exact ⟨fun _ => h.1, fun w => absurd ⟨c8, h.2⟩ w⟩
      · exact ⟨fun w => absurd w h.2, fun _ => h.1⟩
    · rw [if_neg (show ¬ (8 : Int32) ≤ z by rw [i_le, e8, hz]; omega)]
      rcases hall with h | h
      · rw [h.1, if_neg i10]
        have hadd : (x1 + z).toInt = ((f + k : Nat) : Int) := by
          rw [i_add (by rw [hx, hz]; omega) (by rw [hx, hz]; omega), hx, hz]
          omega
        have hzi : zin z (zsb 3).length := ⟨by omega, by rw [zsb3l]; omega⟩
        have hzt : zin (x1 + z) 600 := ⟨by omega, by omega⟩
        have hcl : (x1 + z).toNatClampNeg = f + k := by rw [i_cl, hadd, Int.toNat_natCast]
        have hnI : z = nI k := nI_of' hz
        rw [if_pos hzt, if_pos (by decide), if_pos hzi, hcl, zsch3]
        clear hadd hzt hcl
        have hs : (z + 1).toInt = ((k + 1 : Nat) : Int) := i_suc hz (by omega)
        have hmu : (8 - ((k + 1 : Nat) : Int)).toNat < (8 - (k : Int)).toNat := by clear hs hz; omega
        by_cases ce : tx (f + k) = zsch 0 z
        · rw [if_pos ce]
          refine Or.inl ⟨_, rfl, ⟨k + 1, by omega, hs, Or.inl ⟨rfl, fun i hi => ?_⟩⟩, by dsimp only; rw [hs, hz]; exact hmu⟩
          by_cases ci : i = k
          · subst ci; rw [ce, hnI]
          · exact h.2 i (by omega)
        · rw [if_neg ce]
          refine Or.inl ⟨_, rfl, ⟨k + 1, by omega, hs, Or.inr ⟨rfl, fun w => ?_⟩⟩, by dsimp only; rw [hs, hz]; exact hmu⟩
          have := w.2 k (by omega)
          rw [← hnI] at this
          exact absurd this ce
      · rw [if_pos h.1]
        exact Or.inr ⟨_, rfl, fun w => absurd w h.2, fun _ => h.1⟩
  · rw [if_neg (show ¬ x2 - x1 = 8 by rw [i_eq, hd, e8]; omega)]
    refine ⟨0, ?_, fun h => absurd h.1 c8, fun _ => rfl⟩
    obtain ⟨d, h1, h2⟩ := zrun_inv (step := f_M_isInfinity_21_step t s o c p tx x1 3) (x := (0, 0)) (fun z => z = (0, 0)) (fun _ => 0) (fun d => d = 0) (by
      rintro z rfl
      unfold f_M_isInfinity_21_step f_M_isInfinity_21_body
      dsimp only
      rw [if_neg (by decide), if_pos rfl, if_pos (Or.inl rfl)]
      exact Or.inr ⟨_, rfl, rfl⟩) rfl
    rw [h1, h2]
/-! the number of a text without blanks around it -/
theorem same_num57 (c1 t s o c p : Int32) {tx nl dl : Nat → Int32} {en at' cn pw nu du : Int32} {e f : Nat} (he : en.toInt = e) (h600 : e ≤ 600) (hat : at'.toInt = f) (hf : f ≤ e) {x3 : Int32} (hx3 : x3.toInt = f) {r : Nat → Int32} (hr : mOK r) (g : Int64) :
    ∃ d y r', f_R_numberOfText_89 c1 at' en cn pw tx nu nl du dl g = some (d, y) ∧ f_M_readDecimal_57 t s o c p tx r en x3 g = some (d, r') ∧ mOK r' := by
  obtain ⟨d1, u1, u2, u3⟩ := R_inf c1 cn pw (tx := tx) he h600 hat hf
  obtain ⟨d2, v1, v2, v3⟩ := M_inf t s o c p (tx := tx) he h600 hx3 hf
  unfold f_R_numberOfText_89 f_M_readDecimal_57
  rw [u1, Option.bind_some, v1, Option.bind_some]
  by_cases ci : zinf tx e f
  · rw [u2 ci, v2 ci, if_neg i10, if_neg i10]
    exact ⟨_, _, r, rfl, rfl, hr⟩
  · rw [u3 ci, v3 ci, if_pos rfl, if_pos rfl]
    obtain ⟨r1, t1, R1⟩ := M_set t s o c p hr (a := 0) (x1 := 0) (x2 := 0) (by decide) rfl
    rw [t1, Option.bind_some]
    exact same_dec c1 t s o c p he h600 hat hf hx3 R1.1 (by rw [R1.2.1]; rfl) g
theorem same_num75 (c1 t s o c p : Int32) {tx nl dl : Nat → Int32} {en at' cn pw nu du : Int32} {e f : Nat} (he : en.toInt = e) (h600 : e ≤ 600) (hat : at'.toInt = f) (hf : f < e) {x3 : Int32} (hx3 : x3.toInt = f) {r : Nat → Int32} (hr : mOK r) :
    ∃ d y r', f_R_numberOfText_75 c1 at' en cn pw tx nu nl du dl = some (d, y) ∧ f_M_readDecimal t s o c p tx r x3 en = some (d, r') ∧ mOK r' := by
  obtain ⟨at2, u1, u2⟩ := R_takeMinus c1 cn pw (tx := tx) he h600 hat (by omega)
  have hzu : zun tx e f = tx f := by unfold zun; rw [if_pos hf]
  rw [hzu] at u1 u2
  have hz : zin x3 600 := ⟨by omega, by omega⟩
  have hcl : x3.toNatClampNeg = f := by rw [i_cl, hx3, Int.toNat_natCast]
  have hle : ¬ en ≤ x3 := by rw [i_le, he, hx3]; omega
  unfold f_R_numberOfText_75 f_M_readDecimal f_M_readDecimal_24 f_M_readDecimal_25 f_M_readDecimal_54
  rw [u1, Option.bind_some]
  dsimp only
  rw [if_neg hle, if_pos hz, hcl]
  simp only [if_neg hle, if_pos hz]
  unfold zsn at u2
  by_cases c45 : tx f = 45
  · rw [if_pos c45, if_neg i10, if_pos c45, if_pos c45]
    rw [if_pos (Or.inr c45)] at u2
    have hs : (x3 + 1).toInt = ((f + 1 : Nat) : Int) := i_suc hx3 (by omega)
    exact same_num57 c1 t s o c p he h600 u2 (by omega) hs hr _
  · rw [if_neg c45, if_pos rfl, if_neg c45, if_neg c45]
    by_cases c43 : tx f = 43
    · rw [if_pos c43]
      rw [if_pos (Or.inl c43)] at u2
      have hs : (x3 + 1).toInt = ((f + 1 : Nat) : Int) := i_suc hx3 (by omega)
      exact same_num57 c1 t s o c p he h600 u2 (by omega) hs hr _
    · rw [if_neg c43]
      rw [if_neg (show ¬ (tx f = 43 ∨ tx f = 45) from fun h => h.elim c43 c45), Nat.add_zero] at u2
      exact same_num57 c1 t s o c p he h600 u2 (by omega) hx3 hr _
