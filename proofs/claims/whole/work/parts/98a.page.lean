/-! what is written: the class's page, the reference's out -/
def pP (cap : Nat) (cn : Int32) (un : Nat → Int32) (L : List Int32) : Prop := cn.toInt = (L.length : Int) ∧ L.length ≤ cap ∧ ∀ i, i < L.length → L[i]? = some (un i)
theorem pP_0 (cap : Nat) (un : Nat → Int32) : pP cap 0 un [] := ⟨rfl, Nat.zero_le _, fun i hi => absurd hi (Nat.not_lt_zero _)⟩
theorem pP_add {cap : Nat} {cn : Int32} {un : Nat → Int32} {L : List Int32} (h : pP cap cn un L) (hl : L.length < cap) (h31 : cap < 100000) (x : Int32) : pP cap (cn + 1) (upd un L.length x) (L ++ [x]) := by
  obtain ⟨h1, h2, h3⟩ := h
  refine ⟨?_, ?_, fun i hi => ?_⟩
  · rw [List.length_append, List.length_singleton]
    exact i_suc h1 (by omega)
  · rw [List.length_append, List.length_singleton]
    omega
  · rw [List.length_append, List.length_singleton] at hi
    by_cases c : i < L.length
    · rw [List.getElem?_append_left c, pk_un (by omega)]
      exact h3 i c
    · have e : i = L.length := by omega
      subst e
      rw [List.getElem?_append_right (Nat.le_refl _), Nat.sub_self, pk_us]
      rfl
theorem nar_id {x : Int32} (h0 : 0 ≤ x.toInt) (h1 : x.toInt < 65536) : vp_nar .char x = x := by
  apply i_ext
  rw [vp_nar_char]
  have hb := i_bv x
  have e : x.toUInt32.toUInt16.toUInt32.toNat = x.toBitVec.toNat % 65536 := by
    rw [UInt16.toNat_toUInt32, UInt32.toNat_toUInt16]
    rfl
  have e2 : (x.toUInt32.toUInt16.toUInt32.toInt32).toBitVec.toNat = x.toBitVec.toNat % 65536 := e
  rw [i_ofN e2 (by omega)]
  omega
theorem ji2c_i (x : Int32) : (ji2c x).toInt = ((x.toBitVec.toNat % 65536 : Nat) : Int) := by
  have e : (x.toUInt32 % 65536).toNat = x.toBitVec.toNat % 65536 := by
    rw [UInt32.toNat_mod]
    rfl
  exact i_ofN (n := x.toBitVec.toNat % 65536) e (by omega)
theorem ji2c_id {x : Int32} (h0 : 0 ≤ x.toInt) (h1 : x.toInt < 65536) : ji2c x = x := by
  apply i_ext
  rw [ji2c_i]
  have hb := i_bv x
  omega
theorem P_add {cn : Int32} {un : Nat → Int32} {L : List Int32} (h : pP 1100 cn un L) (hl : L.length < 1100) {x : Int32} (h0 : 0 ≤ x.toInt) (h1 : x.toInt < 65536) : ∃ cn' un', f_P_add cn un x = some (cn', un') ∧ pP 1100 cn' un' (L ++ [x]) := by
  have hc := h.1
  have e1100 : (1100 : Int32).toInt = 1100 := rfl
  unfold f_P_add
  rw [if_neg (show ¬ (1100 : Int32) ≤ cn by rw [i_le, e1100, hc]; omega), if_pos (show zin cn 1100 from ⟨by omega, by omega⟩), nar_id h0 h1, i_cl, hc, Int.toNat_natCast]
  exact ⟨_, _, rfl, pP_add h hl (by decide) x⟩
theorem M_emit (t s c p : Int32) {cn : Int32} {un : Nat → Int32} {L : List Int32} (h : pP 1200 cn un L) (hl : L.length < 1200) (x : Int32) : ∃ cn' un', f_M_emit t s cn c p un x = some (cn', un') ∧ pP 1200 cn' un' (L ++ [x]) ∧ ∀ i, L.length < i → un' i = un i := by
  have hc := h.1
  unfold f_M_emit
  rw [if_pos (show zin cn 1200 from ⟨by omega, by omega⟩), i_cl, hc, Int.toNat_natCast]
  exact ⟨_, _, rfl, pP_add h hl (by decide) x, fun i hi => pk_un (by omega)⟩
/-- a digit's character -/
def zch (d : Nat) : Int32 := nI (if d < 10 then 48 + d else 87 + d)
theorem nI_i {n : Nat} (h : n < 2147483648) : (nI n).toInt = (n : Int) := by
  have e : (nI n).toBitVec.toNat = n := by
    show (BitVec.ofNat 32 n).toNat = n
    rw [BitVec.toNat_ofNat]
    exact Nat.mod_eq_of_lt (by omega)
  exact i_ofN e h
theorem zch_i {d : Nat} (h : d < 36) : (zch d).toInt = ((if d < 10 then 48 + d else 87 + d : Nat) : Int) := by
  unfold zch
  exact nI_i (by split <;> omega)
theorem P_addDigit {cn : Int32} {un : Nat → Int32} {L : List Int32} (h : pP 1100 cn un L) (hl : L.length < 1100) {x : Int32} {d : Nat} (hx : x.toInt = d) (hd : d < 36) : ∃ cn' un', f_P_addDigit cn un x = some (cn', un') ∧ pP 1100 cn' un' (L ++ [zch d]) := by
  have e10 : (10 : Int32).toInt = 10 := rfl
  have e97 : (97 : Int32).toInt = 97 := rfl
  have e48 : (48 : Int32).toInt = 48 := rfl
  unfold f_P_addDigit f_P_addDigit_21
  have hz := zch_i hd
  by_cases c : d < 10
  · rw [if_neg (show ¬ (10 : Int32) ≤ x by rw [i_le, e10, hx]; omega)]
    rw [if_pos c] at hz
    have hs : (48 + x).toInt = ((48 + d : Nat) : Int) := by
      rw [i_add (by rw [e48, hx]; omega) (by rw [e48, hx]; omega), e48, hx]
      omega
    have he : 48 + x = zch d := i_ext (by rw [hs, hz])
    rw [he, ji2c_id (by rw [hz]; omega) (by rw [hz]; omega)]
    obtain ⟨c1, u1, t1, t2⟩ := P_add h hl (x := zch d) (by rw [hz]; omega) (by rw [hz]; omega)
    rw [t1, Option.bind_some]
    exact ⟨c1, u1, rfl, t2⟩
  · rw [if_pos (show (10 : Int32) ≤ x by rw [i_le, e10, hx]; omega)]
    rw [if_neg c] at hz
    have hs : (97 + x).toInt = ((97 + d : Nat) : Int) := by
      rw [i_add (by rw [e97, hx]; omega) (by rw [e97, hx]; omega), e97, hx]
      omega
    have hs2 : (97 + x - 10).toInt = ((87 + d : Nat) : Int) := by
      rw [i_sub (by rw [hs, e10]; omega) (by rw [hs, e10]; omega), hs, e10]
      omega
    have he : 97 + x - 10 = zch d := i_ext (by rw [hs2, hz])
    rw [he, ji2c_id (by rw [hz]; omega) (by rw [hz]; omega)]
    obtain ⟨c1, u1, t1, t2⟩ := P_add h hl (x := zch d) (by rw [hz]; omega) (by rw [hz]; omega)
    rw [t1, Option.bind_some]
    exact ⟨c1, u1, rfl, t2⟩
theorem M_letter {x : Int32} {d : Nat} (hx : x.toInt = d) (hd : d < 36) : f_M_letter x = some (zch d) := by
  have e10 : (10 : Int32).toInt = 10 := rfl
  have e97 : (97 : Int32).toInt = 97 := rfl
  have e48 : (48 : Int32).toInt = 48 := rfl
  have hz := zch_i hd
  unfold f_M_letter
  by_cases c : d < 10
  · rw [if_neg (show ¬ (10 : Int32) ≤ x by rw [i_le, e10, hx]; omega)]
    rw [if_pos c] at hz
    have hs : (48 + x).toInt = ((48 + d : Nat) : Int) := by
      rw [i_add (by rw [e48, hx]; omega) (by rw [e48, hx]; omega), e48, hx]
      omega
    have he : 48 + x = zch d := i_ext (by rw [hs, hz])
    rw [he]
  · rw [if_pos (show (10 : Int32) ≤ x by rw [i_le, e10, hx]; omega)]
    rw [if_neg c] at hz
    have hs : (97 + x).toInt = ((97 + d : Nat) : Int) := by
      rw [i_add (by rw [e97, hx]; omega) (by rw [e97, hx]; omega), e97, hx]
      omega
    have hs2 : (97 + x - 10).toInt = ((87 + d : Nat) : Int) := by
      rw [i_sub (by rw [hs, e10]; omega) (by rw [hs, e10]; omega), hs, e10]
      omega
    have he : 97 + x - 10 = zch d := i_ext (by rw [hs2, hz])
    rw [he]
theorem M_dig48 {x : Int32} {d : Nat} (hx : x.toInt = d) (hd : d < 10) : 48 + x = zch d := by
  have e48 : (48 : Int32).toInt = 48 := rfl
  have hz := zch_i (show d < 36 by omega)
  rw [if_pos hd] at hz
  apply i_ext
  rw [hz, i_add (by rw [e48, hx]; omega) (by rw [e48, hx]; omega), e48, hx]
  omega
/-! words -/
def zst (w : Nat) : Nat → List Int32
  | 0 => []
  | k + 1 => zst w k ++ [zsch w (nI k)]
theorem zst_len (w : Nat) : ∀ k, (zst w k).length = k
  | 0 => rfl
  | k + 1 => by
    show (zst w k ++ [zsch w (nI k)]).length = k + 1
    rw [List.length_append, zst_len w k, List.length_singleton]
theorem zst_eq {w v : Nat} (h : zsb w = zsb v) : ∀ k, zst w k = zst v k
  | 0 => rfl
  | k + 1 => by
    show zst w k ++ [zsch w (nI k)] = zst v k ++ [zsch v (nI k)]
    rw [zst_eq h k]
    unfold zsch
    rw [h]
theorem zslen_i (w : Nat) : (zslen w).toInt = ((zsb w).length : Int) := nI_i (zsb_len w)
theorem P_addText {cn : Int32} {un : Nat → Int32} {L : List Int32} (h : pP 1100 cn un L) {w : Nat} (hw : w < 5) (hl : L.length + (zsb w).length ≤ 1100) : ∃ cn' un', f_P_addText cn un w = some (cn', un') ∧ pP 1100 cn' un' (L ++ zst w (zsb w).length) := by
  unfold f_P_addText f_P_addText_2
  obtain ⟨⟨c1, u1⟩, t1, t2⟩ := zrun_inv (step := f_P_addText_2_step w) (x := (cn, un, 0)) (fun z => ∃ k : Nat, k ≤ (zsb w).length ∧ z.2.2.toInt = (k : Int) ∧ pP 1100 z.1 z.2.1 (L ++ zst w k)) (fun z => ((zsb w).length - z.2.2.toInt).toNat) (fun y => pP 1100 y.1 y.2 (L ++ zst w (zsb w).length)) (by
    rintro ⟨c, u, x⟩ ⟨k, hk, hx, hP⟩
    dsimp only at hx hP
    unfold f_P_addText_2_step f_P_addText_2_body
    dsimp only
    rw [if_pos hw, if_pos hw]
    by_cases ck : k = (zsb w).length
    · rw [if_pos (show zslen w ≤ x by rw [i_le, zslen_i, hx]; omega)]
      rw [ck] at hP
      exact Or.inr ⟨_, rfl, hP⟩
    · rw [if_neg (show ¬ zslen w ≤ x by rw [i_le, zslen_i, hx]; omega), if_pos (show zin x (zsb w).length from ⟨by omega, by omega⟩), nI_of' hx]
      have hr : 0 ≤ (zsch w (nI k)).toInt ∧ (zsch w (nI k)).toInt < 65536 := by
        unfold zsch
        rw [ji2c_i]
        omega
      obtain ⟨c1, u1, t1, t2⟩ := P_add hP (by rw [List.length_append, zst_len]; omega) hr.1 hr.2
      rw [t1, Option.bind_some]
      have hs : (nI k + 1).toInt = ((k + 1 : Nat) : Int) := by
        rw [← nI_of' hx]
        exact i_suc hx (by have := zsb_len w; omega)
      refine Or.inl ⟨_, rfl, ⟨k + 1, by omega, hs, ?_⟩, ?_⟩
      · dsimp only
        rw [List.append_assoc] at t2
        exact t2
      · dsimp only
        rw [hs, ← nI_of' hx, hx]
        exact mu_up (by omega)) ⟨0, Nat.zero_le _, rfl, by
          show pP 1100 cn un (L ++ [])
          rw [List.append_nil]
          exact h⟩
  exact ⟨c1, u1, t1, t2⟩
theorem M_word30 (t s c p : Int32) {cn : Int32} {un : Nat → Int32} {L : List Int32} (h : pP 1200 cn un L) {w : Nat} (hw : w < 5) (hl : L.length + (zsb w).length ≤ 1200) : ∃ cn' un', f_M_writeWord_30 t s cn c p un w 0 = some (cn', cn', un') ∧ pP 1200 cn' un' (L ++ zst w (zsb w).length) := by
  unfold f_M_writeWord_30
  obtain ⟨⟨d1, c1, u1⟩, t1, t2, t3⟩ := zrun_inv (step := f_M_writeWord_30_step t s c p w) (x := (cn, un, 0)) (fun z => ∃ k : Nat, k ≤ (zsb w).length ∧ z.2.2.toInt = (k : Int) ∧ pP 1200 z.1 z.2.1 (L ++ zst w k)) (fun z => ((zsb w).length - z.2.2.toInt).toNat) (fun y => y.1 = y.2.1 ∧ pP 1200 y.2.1 y.2.2 (L ++ zst w (zsb w).length)) (by
    rintro ⟨c0, u, x⟩ ⟨k, hk, hx, hP⟩
    dsimp only at hx hP
    unfold f_M_writeWord_30_step f_M_writeWord_30_body
    dsimp only
    rw [if_pos hw, if_pos hw]
    by_cases ck : k = (zsb w).length
    · rw [if_pos (show zslen w ≤ x by rw [i_le, zslen_i, hx]; omega)]
      rw [ck] at hP
      exact Or.inr ⟨_, rfl, rfl, hP⟩
    · rw [if_neg (show ¬ zslen w ≤ x by rw [i_le, zslen_i, hx]; omega), if_pos (show zin x (zsb w).length from ⟨by omega, by omega⟩), nI_of' hx]
      obtain ⟨c1, u1, t1, t2, _⟩ := M_emit t s c p hP (by rw [List.length_append, zst_len]; omega) (zsch w (nI k))
      rw [t1, Option.bind_some]
      have hs : (nI k + 1).toInt = ((k + 1 : Nat) : Int) := by
        rw [← nI_of' hx]
        exact i_suc hx (by have := zsb_len w; omega)
      refine Or.inl ⟨_, rfl, ⟨k + 1, by omega, hs, ?_⟩, ?_⟩
      · dsimp only
        rw [List.append_assoc] at t2
        exact t2
      · dsimp only
        rw [hs, ← nI_of' hx, hx]
        exact mu_up (by omega)) ⟨0, Nat.zero_le _, rfl, by
          show pP 1200 cn un (L ++ [])
          rw [List.append_nil]
          exact h⟩
  dsimp only at t2 t3
  subst t2
  exact ⟨d1, u1, t1, t3⟩
