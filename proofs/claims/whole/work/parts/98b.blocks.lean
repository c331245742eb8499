/-! digits, zeros, exponents on the page -/
def zds (g : Nat → Nat) (a : Nat) : Nat → List Int32
  | 0 => []
  | k + 1 => zds g a k ++ [zch (g (a + k))]
theorem zds_s (g : Nat → Nat) (a k : Nat) : zds g a (k + 1) = zds g a k ++ [zch (g (a + k))] := rfl
theorem zds_len (g : Nat → Nat) (a : Nat) : ∀ k, (zds g a k).length = k
  | 0 => rfl
  | k + 1 => by rw [zds_s, List.length_append, zds_len g a k, List.length_singleton]
theorem zds_congr {g h : Nat → Nat} {a b : Nat} : ∀ {k : Nat}, (∀ i, i < k → g (a + i) = h (b + i)) → zds g a k = zds h b k
  | 0, _ => rfl
  | k + 1, q => by rw [zds_s, zds_s, zds_congr (k := k) (fun i hi => q i (by omega)), q k (by omega)]
theorem zds_app (g : Nat → Nat) (a k : Nat) : ∀ m, zds g a (k + m) = zds g a k ++ zds g (a + k) m
  | 0 => by
    show zds g a k = zds g a k ++ []
    rw [List.append_nil]
  | m + 1 => by rw [← Nat.add_assoc, zds_s, zds_app g a k m, zds_s, List.append_assoc, Nat.add_assoc]
theorem zch_0 : zch 0 = 48 := rfl
theorem P_addZeros {cn : Int32} {un : Nat → Int32} {L : List Int32} (h : pP 1100 cn un L) {x : Int32} {n : Nat} (hx : x.toInt.toNat = n) (hl : L.length + n ≤ 1100) : ∃ cn' un', f_P_addZeros cn un x = some (cn', un') ∧ pP 1100 cn' un' (L ++ zds (fun _ => 0) 0 n) := by
  unfold f_P_addZeros f_P_addZeros_2
  obtain ⟨⟨c1, u1⟩, t1, t2⟩ := zrun_inv (step := f_P_addZeros_2_step x) (x := (cn, un, 0)) (fun z => ∃ k : Nat, k ≤ n ∧ z.2.2.toInt = (k : Int) ∧ pP 1100 z.1 z.2.1 (L ++ zds (fun _ => 0) 0 k)) (fun z => (n - z.2.2.toInt).toNat) (fun y => pP 1100 y.1 y.2 (L ++ zds (fun _ => 0) 0 n)) (by
    rintro ⟨c, u, y⟩ ⟨k, hk, hy, hP⟩
    dsimp only at hy hP
    unfold f_P_addZeros_2_step f_P_addZeros_2_body
    dsimp only
    by_cases ck : k = n
    · rw [if_pos (show x ≤ y by rw [i_le, hy]; omega)]
      rw [ck] at hP
      exact Or.inr ⟨_, rfl, hP⟩
    · rw [if_neg (show ¬ x ≤ y by rw [i_le, hy]; omega)]
      obtain ⟨c1, u1, t1, t2⟩ := P_add hP (by rw [List.length_append, zds_len]; omega) (x := 48) (by decide) (by decide)
      rw [t1, Option.bind_some]
      have hs : (y + 1).toInt = ((k + 1 : Nat) : Int) := i_suc hy (by omega)
      refine Or.inl ⟨_, rfl, ⟨k + 1, by omega, hs, ?_⟩, by dsimp only; rw [hs, hy]; exact mu_up (by omega)⟩
      dsimp only
      rw [List.append_assoc] at t2
      exact t2) ⟨0, Nat.zero_le _, rfl, by
        show pP 1100 cn un (L ++ [])
        rw [List.append_nil]
        exact h⟩
  exact ⟨c1, u1, t1, t2⟩
theorem M_emitZeros (t s c p : Int32) {cn : Int32} {un : Nat → Int32} {L : List Int32} (h : pP 1200 cn un L) {x : Int32} {n : Nat} (hx : x.toInt.toNat = n) (hl : L.length + n ≤ 1200) : ∃ cn' un', f_M_emitZeros t s cn c p un x = some (cn', un') ∧ pP 1200 cn' un' (L ++ zds (fun _ => 0) 0 n) := by
  unfold f_M_emitZeros f_M_emitZeros_2
  obtain ⟨⟨c1, u1⟩, t1, t2⟩ := zrun_inv (step := f_M_emitZeros_2_step t s c p x) (x := (cn, un, 0)) (fun z => ∃ k : Nat, k ≤ n ∧ z.2.2.toInt = (k : Int) ∧ pP 1200 z.1 z.2.1 (L ++ zds (fun _ => 0) 0 k)) (fun z => (n - z.2.2.toInt).toNat) (fun y => pP 1200 y.1 y.2 (L ++ zds (fun _ => 0) 0 n)) (by
    rintro ⟨c0, u, y⟩ ⟨k, hk, hy, hP⟩
    dsimp only at hy hP
    unfold f_M_emitZeros_2_step f_M_emitZeros_2_body
    dsimp only
    by_cases ck : k = n
    · rw [if_pos (show x ≤ y by rw [i_le, hy]; omega)]
      rw [ck] at hP
      exact Or.inr ⟨_, rfl, hP⟩
    · rw [if_neg (show ¬ x ≤ y by rw [i_le, hy]; omega)]
      obtain ⟨c1, u1, t1, t2, _⟩ := M_emit t s c p hP (by rw [List.length_append, zds_len]; omega) 48
      rw [t1, Option.bind_some]
      have hs : (y + 1).toInt = ((k + 1 : Nat) : Int) := i_suc hy (by omega)
      refine Or.inl ⟨_, rfl, ⟨k + 1, by omega, hs, ?_⟩, by dsimp only; rw [hs, hy]; exact mu_up (by omega)⟩
      dsimp only
      rw [List.append_assoc] at t2
      exact t2) ⟨0, Nat.zero_le _, rfl, by
        show pP 1200 cn un (L ++ [])
        rw [List.append_nil]
        exact h⟩
  exact ⟨c1, u1, t1, t2⟩
def zxp (e : Int) : List Int32 := [101] ++ ([if e < 0 then 45 else 43] ++ ((if e.natAbs < 100 then [] else [zch (e.natAbs / 100)]) ++ ((if e.natAbs < 10 then [] else [zch (e.natAbs / 10 % 10)]) ++ [zch (e.natAbs % 10)])))
theorem P_exp57 {cn : Int32} {un : Nat → Int32} {L : List Int32} (h : pP 1100 cn un L) (hl : L.length < 1100) {x : Int32} {v : Nat} (hx : x.toInt = v) : ∃ cn' un', f_P_addExponent_57 cn un x = some (cn', un') ∧ pP 1100 cn' un' (L ++ [zch (v % 10)]) := by
  have e10 : (10 : Int32).toInt = 10 := rfl
  have hr : (jrem x 10).toInt = ((v % 10 : Nat) : Int) := by
    rw [i_rem (by omega) (by decide), hx, e10]
    exact (Int.natCast_emod _ _).symm
  obtain ⟨c1, u1, t1, t2⟩ := P_addDigit h hl hr (by omega)
  unfold f_P_addExponent_57
  rw [t1, Option.bind_some]
  exact ⟨c1, u1, rfl, t2⟩
theorem P_exp40 {cn : Int32} {un : Nat → Int32} {L : List Int32} (h : pP 1100 cn un L) (hl : L.length + 2 ≤ 1100) {x : Int32} {v : Nat} (hx : x.toInt = v) : ∃ cn' un', f_P_addExponent_40 cn un x = some (cn', un') ∧ pP 1100 cn' un' (L ++ ((if v < 10 then [] else [zch (v / 10 % 10)]) ++ [zch (v % 10)])) := by
  have e10 : (10 : Int32).toInt = 10 := rfl
  unfold f_P_addExponent_40
  by_cases c : v < 10
  · rw [if_pos (show x < 10 by rw [i_lt, hx, e10]; omega), if_pos c, List.nil_append]
    exact P_exp57 h (by omega) hx
  · rw [if_neg (show ¬ x < 10 by rw [i_lt, hx, e10]; omega), if_neg c]
    have hq : (x / 10).toInt = ((v / 10 : Nat) : Int) := by
      rw [i_div (by omega) (by decide), hx, e10]
      exact (Int.natCast_ediv _ _).symm
    have hr : (jrem (x / 10) 10).toInt = ((v / 10 % 10 : Nat) : Int) := by
      rw [i_rem (by omega) (by decide), hq, e10]
      exact (Int.natCast_emod _ _).symm
    obtain ⟨c1, u1, t1, t2⟩ := P_addDigit h (by omega) hr (by omega)
    obtain ⟨c2, u2, t3, t4⟩ := P_exp57 t2 (by rw [List.length_append, List.length_singleton]; omega) hx
    rw [t1, Option.bind_some]
    dsimp only
    rw [t3]
    rw [List.append_assoc] at t4
    exact ⟨c2, u2, rfl, t4⟩
theorem P_addExponent {cn : Int32} {un : Nat → Int32} {L : List Int32} (h : pP 1100 cn un L) (hl : L.length + 5 ≤ 1100) {x : Int32} {e : Int} (hx : x.toInt = e) (h1 : -1000 < e) (h2 : e < 1000) : ∃ cn' un', f_P_addExponent cn un x = some (cn', un') ∧ pP 1100 cn' un' (L ++ zxp e) := by
  have e0 : (0 : Int32).toInt = 0 := rfl
  have e100 : (100 : Int32).toInt = 100 := rfl
  have habs : (if 0 ≤ x then x else 0 - x).toInt = ((e.natAbs : Nat) : Int) := by
    by_cases c : 0 ≤ x
    · rw [if_pos c, hx]
      rw [i_le, e0, hx] at c
      omega
    · rw [if_neg c]
      rw [i_le, e0, hx] at c
      rw [i_sub (by rw [e0, hx]; omega) (by rw [e0, hx]; omega), e0, hx]
      omega
  have h18 : ∀ {c1 : Int32} {u1 : Nat → Int32} {M : List Int32} (s1 : Int32), pP 1100 c1 u1 M → M.length + 4 ≤ 1100 → 0 ≤ s1.toInt → s1.toInt < 65536 → ∃ c2 u2, f_P_addExponent_18 c1 u1 x s1 = some (c2, u2) ∧ pP 1100 c2 u2 (M ++ ([s1] ++ ((if e.natAbs < 100 then [] else [zch (e.natAbs / 100)]) ++ ((if e.natAbs < 10 then [] else [zch (e.natAbs / 10 % 10)]) ++ [zch (e.natAbs % 10)])))) := by
    intro c1 u1 M s1 hM hm hs0 hs1
    unfold f_P_addExponent_18
    obtain ⟨c2, u2, t1, t2⟩ := P_add hM (by omega) hs0 hs1
    rw [t1, Option.bind_some]
    dsimp only
    generalize (if 0 ≤ x then x else 0 - x) = y at habs ⊢
    have hm2 : (M ++ [s1]).length = M.length + 1 := by rw [List.length_append, List.length_singleton]
    by_cases c : e.natAbs < 100
    · rw [if_pos (show y < 100 by rw [i_lt, habs, e100]; omega), if_pos c, List.nil_append]
      obtain ⟨c3, u3, t3, t4⟩ := P_exp40 t2 (by omega) habs
      rw [List.append_assoc] at t4
      exact ⟨c3, u3, t3, t4⟩
    · rw [if_neg (show ¬ y < 100 by rw [i_lt, habs, e100]; omega), if_neg c]
      have hq : (y / 100).toInt = ((e.natAbs / 100 : Nat) : Int) := by
        rw [i_div (by omega) (by decide), habs, e100]
        exact (Int.natCast_ediv _ _).symm
      obtain ⟨c3, u3, t3, t4⟩ := P_addDigit t2 (by omega) hq (by omega)
      obtain ⟨c4, u4, t5, t6⟩ := P_exp40 t4 (by rw [List.length_append, List.length_singleton]; omega) habs
      rw [t3, Option.bind_some]
      dsimp only
      rw [List.append_assoc, List.append_assoc] at t6
      exact ⟨c4, u4, t5, t6⟩
  unfold f_P_addExponent
  obtain ⟨c1, u1, t1, t2⟩ := P_add h (by omega) (x := 101) (by decide) (by decide)
  rw [t1, Option.bind_some]
  dsimp only
  unfold zxp
  have hm : (L ++ [101]).length + 4 ≤ 1100 := by rw [List.length_append, List.length_singleton]; omega
  by_cases c : e < 0
  · rw [if_neg (show ¬ 0 ≤ x by rw [i_le, e0, hx]; omega), if_pos c]
    obtain ⟨c2, u2, t3, t4⟩ := h18 45 t2 hm (by decide) (by decide)
    rw [List.append_assoc] at t4
    exact ⟨c2, u2, t3, t4⟩
  · rw [if_pos (show 0 ≤ x by rw [i_le, e0, hx]; omega), if_neg c]
    obtain ⟨c2, u2, t3, t4⟩ := h18 43 t2 hm (by decide) (by decide)
    rw [List.append_assoc] at t4
    exact ⟨c2, u2, t3, t4⟩
theorem M_exp69 (t s c p : Int32) {cn : Int32} {un : Nat → Int32} {L : List Int32} (h : pP 1200 cn un L) (hl : L.length < 1200) {x : Int32} {v : Nat} (hx : x.toInt = v) : ∃ cn' un', f_M_writeExponent_69 t s cn c p un x = some (cn', un') ∧ pP 1200 cn' un' (L ++ [zch (v % 10)]) := by
  have e10 : (10 : Int32).toInt = 10 := rfl
  have hr : (jrem x 10).toInt = ((v % 10 : Nat) : Int) := by
    rw [i_rem (by omega) (by decide), hx, e10]
    exact (Int.natCast_emod _ _).symm
  obtain ⟨c1, u1, t1, t2, _⟩ := M_emit t s c p h hl (zch (v % 10))
  unfold f_M_writeExponent_69
  rw [M_dig48 hr (by omega), t1, Option.bind_some]
  exact ⟨c1, u1, rfl, t2⟩
theorem M_exp49 (t s c p : Int32) {cn : Int32} {un : Nat → Int32} {L : List Int32} (h : pP 1200 cn un L) (hl : L.length + 2 ≤ 1200) {x : Int32} {v : Nat} (hx : x.toInt = v) : ∃ cn' un', f_M_writeExponent_49 t s cn c p un x = some (cn', un') ∧ pP 1200 cn' un' (L ++ ((if v < 10 then [] else [zch (v / 10 % 10)]) ++ [zch (v % 10)])) := by
  have e10 : (10 : Int32).toInt = 10 := rfl
  have e9 : (9 : Int32).toInt = 9 := rfl
  unfold f_M_writeExponent_49
  by_cases cv : v < 10
  · rw [if_pos (show x ≤ 9 by rw [i_le, hx, e9]; omega), if_pos cv, List.nil_append]
    exact M_exp69 t s c p h (by omega) hx
  · rw [if_neg (show ¬ x ≤ 9 by rw [i_le, hx, e9]; omega), if_neg cv]
    have hq : (x / 10).toInt = ((v / 10 : Nat) : Int) := by
      rw [i_div (by omega) (by decide), hx, e10]
      exact (Int.natCast_ediv _ _).symm
    have hr : (jrem (x / 10) 10).toInt = ((v / 10 % 10 : Nat) : Int) := by
      rw [i_rem (by omega) (by decide), hq, e10]
      exact (Int.natCast_emod _ _).symm
    obtain ⟨c1, u1, t1, t2, _⟩ := M_emit t s c p h (by omega) (zch (v / 10 % 10))
    obtain ⟨c2, u2, t3, t4⟩ := M_exp69 t s c p t2 (by rw [List.length_append, List.length_singleton]; omega) hx
    rw [M_dig48 hr (by omega), t1, Option.bind_some]
    dsimp only
    rw [t3]
    rw [List.append_assoc] at t4
    exact ⟨c2, u2, rfl, t4⟩
theorem M_exp31 (t s c p : Int32) {cn : Int32} {un : Nat → Int32} {L : List Int32} (h : pP 1200 cn un L) (hl : L.length + 3 ≤ 1200) {x : Int32} {v : Nat} (hx : x.toInt = v) (hv : v < 1000) : ∃ cn' un', f_M_writeExponent_31 t s cn c p un x = some (cn', un') ∧ pP 1200 cn' un' (L ++ ((if v < 100 then [] else [zch (v / 100)]) ++ ((if v < 10 then [] else [zch (v / 10 % 10)]) ++ [zch (v % 10)]))) := by
  have e100 : (100 : Int32).toInt = 100 := rfl
  have e99 : (99 : Int32).toInt = 99 := rfl
  unfold f_M_writeExponent_31
  by_cases cv : v < 100
  · rw [if_pos (show x ≤ 99 by rw [i_le, hx, e99]; omega), if_pos cv, List.nil_append]
    exact M_exp49 t s c p h (by omega) hx
  · rw [if_neg (show ¬ x ≤ 99 by rw [i_le, hx, e99]; omega), if_neg cv]
    have hq : (x / 100).toInt = ((v / 100 : Nat) : Int) := by
      rw [i_div (by omega) (by decide), hx, e100]
      exact (Int.natCast_ediv _ _).symm
    obtain ⟨c1, u1, t1, t2, _⟩ := M_emit t s c p h (by omega) (zch (v / 100))
    obtain ⟨c2, u2, t3, t4⟩ := M_exp49 t s c p t2 (by rw [List.length_append, List.length_singleton]; omega) hx
    rw [M_dig48 hq (by omega), t1, Option.bind_some]
    dsimp only
    rw [t3]
    rw [List.append_assoc] at t4
    exact ⟨c2, u2, rfl, t4⟩
theorem M_writeExponent (t s c p : Int32) {cn : Int32} {un : Nat → Int32} {L : List Int32} (h : pP 1200 cn un L) (hl : L.length + 5 ≤ 1200) {x : Int32} {e : Int} (hx : x.toInt = e) (h1 : -1000 < e) (h2 : e < 1000) : ∃ cn' un', f_M_writeExponent t s cn c p un x = some (cn', un') ∧ pP 1200 cn' un' (L ++ zxp e) := by
  have e0 : (0 : Int32).toInt = 0 := rfl
  obtain ⟨c1, u1, t1, t2, _⟩ := M_emit t s c p h (by omega) 101
  have hm : (L ++ [101]).length = L.length + 1 := by rw [List.length_append, List.length_singleton]
  unfold f_M_writeExponent
  rw [t1, Option.bind_some]
  dsimp only
  unfold f_M_writeExponent_18 zxp
  by_cases ce : e < 0
  · have hn : ¬ 0 ≤ x := by rw [i_le, e0, hx]; omega
    rw [if_neg hn, if_pos ce]
    obtain ⟨c2, u2, t3, t4, _⟩ := M_emit t s c p t2 (by omega) 45
    rw [t3, Option.bind_some]
    dsimp only
    rw [if_neg hn]
    have hab : (-x).toInt = ((e.natAbs : Nat) : Int) := by rw [i_neg (by omega), hx]; omega
    obtain ⟨c3, u3, t5, t6⟩ := M_exp31 t s c p t4 (by rw [List.length_append, List.length_singleton]; omega) hab (by omega)
    rw [List.append_assoc, List.append_assoc] at t6
    exact ⟨c3, u3, t5, t6⟩
  · have hn : 0 ≤ x := by rw [i_le, e0, hx]; omega
    rw [if_pos hn, if_neg ce]
    obtain ⟨c2, u2, t3, t4, _⟩ := M_emit t s c p t2 (by omega) 43
    rw [t3, Option.bind_some]
    dsimp only
    rw [if_pos hn]
    have hab : x.toInt = ((e.natAbs : Nat) : Int) := by rw [hx]; omega
    obtain ⟨c3, u3, t5, t6⟩ := M_exp31 t s c p t4 (by rw [List.length_append, List.length_singleton]; omega) hab (by omega)
    rw [List.append_assoc, List.append_assoc] at t6
    exact ⟨c3, u3, t5, t6⟩
