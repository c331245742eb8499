theorem zds_get (g : Nat → Nat) (a : Nat) : ∀ {n i : Nat}, i < n → (zds g a n)[i]? = some (zch (g (a + i)))
  | 0, i, h => absurd h (Nat.not_lt_zero _)
  | n + 1, i, h => by
    rw [zds_s]
    rcases Nat.lt_or_ge i n with q | q
    · rw [List.getElem?_append_left (by rw [zds_len]; exact q)]
      exact zds_get g a q
    · have e : i = n := by omega
      subst e
      rw [List.getElem?_append_right (by rw [zds_len]; omega), zds_len, Nat.sub_self]
      rfl
theorem pP_pop {cap : Nat} {cn : Int32} {un : Nat → Int32} {L : List Int32} {x : Int32} (h : pP cap cn un (L ++ [x])) : pP cap (cn - 1) un L ∧ un L.length = x ∧ cn.toInt = L.length + 1 := by
  obtain ⟨h1, h2, h3⟩ := h
  have e1 : (1 : Int32).toInt = 1 := rfl
  rw [List.length_append, List.length_singleton] at h1 h2 h3
  have r := i_rng cn
  refine ⟨⟨?_, by omega, fun i hi => ?_⟩, ?_, by omega⟩
  · rw [i_sub (by rw [e1]; omega) (by rw [e1]; omega), e1]
    omega
  · have := h3 i (by omega)
    rw [List.getElem?_append_left hi] at this
    exact this
  · have := h3 L.length (by omega)
    rw [List.getElem?_append_right (Nat.le_refl _), Nat.sub_self] at this
    exact (Option.some.inj this).symm
theorem pP_at {cap : Nat} {cn : Int32} {un : Nat → Int32} {L : List Int32} {g : Nat → Nat} {n i : Nat} (h : pP cap cn un (L ++ zds g 0 n)) (hi : i < n) : un (L.length + i) = zch (g i) := by
  have h3 := h.2.2 (L.length + i) (by rw [List.length_append, zds_len]; omega)
  rw [List.getElem?_append_right (by omega), show L.length + i - L.length = i by omega, zds_get g 0 hi, Nat.zero_add] at h3
  exact (Option.some.inj h3).symm
/-- how many are left when the zeros at the end go -/
def tz (d : Nat → Nat) : Nat → Nat
  | 0 => 0
  | k + 1 => if d k = 0 then tz d k else k + 1
theorem tz_s (d : Nat → Nat) (k : Nat) : tz d (k + 1) = if d k = 0 then tz d k else k + 1 := rfl
theorem tz_le (d : Nat → Nat) : ∀ k, tz d k ≤ k
  | 0 => Nat.le_refl _
  | k + 1 => by
    rw [tz_s]
    split
    · exact Nat.le_trans (tz_le d k) (by omega)
    · exact Nat.le_refl _
theorem tz_last (d : Nat → Nat) : ∀ k, tz d k = 0 ∨ ∃ j, tz d k = j + 1 ∧ d j ≠ 0
  | 0 => Or.inl rfl
  | k + 1 => by
    rw [tz_s]
    split
    · exact tz_last d k
    · next h => exact Or.inr ⟨k, rfl, h⟩
theorem tz_zero (d : Nat → Nat) : ∀ {k i : Nat}, tz d k ≤ i → i < k → d i = 0
  | 0, i, _, h => absurd h (Nat.not_lt_zero _)
  | k + 1, i, h1, h2 => by
    rw [tz_s] at h1
    by_cases c : d k = 0
    · rw [if_pos c] at h1
      rcases Nat.lt_or_ge i k with q | q
      · exact tz_zero d h1 q
      · have : i = k := by omega
        rw [this]
        exact c
    · rw [if_neg c] at h1
      omega
theorem tz_congr {d e : Nat → Nat} : ∀ {k : Nat}, (∀ i, i < k → d i = e i) → tz d k = tz e k
  | 0, _ => rfl
  | k + 1, h => by rw [tz_s, tz_s, h k (by omega), tz_congr (k := k) (fun i hi => h i (by omega))]
theorem zch_48 {d : Nat} (h : d < 36) : zch d = 48 ↔ d = 0 := by
  have h1 := zch_i h
  have e : (48 : Int32).toInt = 48 := rfl
  rw [i_eq, h1, e]
  split <;> omega
theorem zch_46 {d : Nat} (h : d < 36) : zch d ≠ 46 := by
  have h1 := zch_i h
  have e : (46 : Int32).toInt = 46 := rfl
  intro q
  rw [i_eq, h1, e] at q
  split at q <;> omega
/-- a text that does not end so -/
def zno (A : List Int32) (x : Int32) : Prop := A = [] ∨ ∃ B y, A = B ++ [y] ∧ y ≠ x
theorem P_drop_stop {cn : Int32} {un : Nat → Int32} {A : List Int32} {x : Int32} (hA : zno A x) (h : pP 1100 cn un A) : f_P_dropTrailing_0_step un x cn = some (Sum.inr cn) := by
  have e0 : (0 : Int32).toInt = 0 := rfl
  unfold f_P_dropTrailing_0_step f_P_dropTrailing_0_body
  rcases hA with rfl | ⟨B, y, rfl, hy⟩
  · rw [if_pos (show cn ≤ 0 by rw [i_le, h.1, e0]; exact Int.le_refl _)]
    rfl
  · obtain ⟨q1, q2, q3⟩ := pP_pop h
    have hl := q1.2.1
    have hl2 := h.2.1
    rw [List.length_append, List.length_singleton] at hl2
    rw [if_neg (show ¬ cn ≤ 0 by rw [i_le, q3, e0]; omega), if_pos (show zin (cn - 1) 1100 by exact ⟨by rw [q1.1]; omega, by rw [q1.1]; omega⟩), i_cl, q1.1, Int.toNat_natCast, q2, if_neg hy]
    rfl
theorem P_drop_go {cn : Int32} {un : Nat → Int32} {A : List Int32} {x : Int32} (h : pP 1100 cn un (A ++ [x])) : f_P_dropTrailing_0_step un x cn = some (Sum.inl (cn - 1)) := by
  have e0 : (0 : Int32).toInt = 0 := rfl
  unfold f_P_dropTrailing_0_step f_P_dropTrailing_0_body
  obtain ⟨q1, q2, q3⟩ := pP_pop h
  have hl := q1.2.1
  have hl2 := h.2.1
  rw [List.length_append, List.length_singleton] at hl2
  rw [if_neg (show ¬ cn ≤ 0 by rw [i_le, q3, e0]; omega), if_pos (show zin (cn - 1) 1100 by exact ⟨by rw [q1.1]; omega, by rw [q1.1]; omega⟩), i_cl, q1.1, Int.toNat_natCast, q2, if_pos rfl]
theorem P_drop48 {cn : Int32} {un : Nat → Int32} {A : List Int32} {d : Nat → Nat} {K : Nat} (hd : ∀ i, d i < 36) (hA : zno A 48) (h : pP 1100 cn un (A ++ zds d 0 K)) : ∃ cn', f_P_dropTrailing cn un 48 = some cn' ∧ pP 1100 cn' un (A ++ zds d 0 (tz d K)) := by
  unfold f_P_dropTrailing f_P_dropTrailing_0
  obtain ⟨c1, t1, t2⟩ := zrun_inv (step := f_P_dropTrailing_0_step un 48) (x := cn) (fun z => ∃ k : Nat, tz d k = tz d K ∧ pP 1100 z un (A ++ zds d 0 k)) (fun z => z.toInt.toNat) (fun y => pP 1100 y un (A ++ zds d 0 (tz d K))) (by
    rintro c0 ⟨k, hk, hP⟩
    cases k with
    | zero =>
      have hP' : pP 1100 c0 un (A ++ []) := hP
      rw [List.append_nil] at hP'
      refine Or.inr ⟨c0, P_drop_stop hA hP', ?_⟩
      rw [← hk]
      exact hP
    | succ j =>
      rw [tz_s] at hk
      rw [zds_s, Nat.zero_add, ← List.append_assoc] at hP
      by_cases c : d j = 0
      · rw [if_pos c] at hk
        have hz : zch (d j) = 48 := (zch_48 (hd j)).mpr c
        rw [hz] at hP
        obtain ⟨q1, q2, q3⟩ := pP_pop hP
        refine Or.inl ⟨_, P_drop_go hP, ⟨j, hk, q1⟩, ?_⟩
        rw [q1.1, q3]
        omega
      · rw [if_neg c] at hk
        refine Or.inr ⟨c0, P_drop_stop (Or.inr ⟨_, _, rfl, fun q => c ((zch_48 (hd j)).mp q)⟩) hP, ?_⟩
        rw [← hk, zds_s, Nat.zero_add, ← List.append_assoc]
        exact hP) ⟨K, rfl, h⟩
  exact ⟨c1, t1, t2⟩
theorem P_drop_no {cn : Int32} {un : Nat → Int32} {A : List Int32} {x : Int32} (hA : zno A x) (h : pP 1100 cn un A) : f_P_dropTrailing cn un x = some cn := by
  unfold f_P_dropTrailing f_P_dropTrailing_0
  obtain ⟨c1, t1, t2⟩ := zrun_inv (step := f_P_dropTrailing_0_step un x) (x := cn) (fun z => z = cn) (fun z => 0) (fun y => y = cn) (by
    rintro c0 rfl
    exact Or.inr ⟨_, P_drop_stop hA h, rfl⟩) rfl
  rw [t1, t2]
theorem P_drop_one {cn : Int32} {un : Nat → Int32} {A : List Int32} {x : Int32} (hA : zno A x) (h : pP 1100 cn un (A ++ [x])) : f_P_dropTrailing cn un x = some (cn - 1) := by
  unfold f_P_dropTrailing f_P_dropTrailing_0
  have q := (pP_pop h).1
  have q3 := (pP_pop h).2.2
  obtain ⟨c1, t1, t2⟩ := zrun_inv (step := f_P_dropTrailing_0_step un x) (x := cn) (fun z => z = cn ∨ z = cn - 1) (fun z => z.toInt.toNat) (fun y => y = cn - 1) (by
    rintro c0 (rfl | rfl)
    · refine Or.inl ⟨_, P_drop_go h, Or.inr rfl, ?_⟩
      rw [q.1, q3]
      omega
    · exact Or.inr ⟨_, P_drop_stop hA q, rfl⟩) (Or.inl rfl)
  rw [t1, t2]
/-- the fraction as it stands in the end -/
def zfz (d : Nat → Nat) (K : Nat) : List Int32 := if tz d K = 0 then [] else [46] ++ zds d 0 (tz d K)
theorem T_rest101 {cn : Int32} {un : Nat → Int32} {A : List Int32} {d : Nat → Nat} {K : Nat} (hd : ∀ i, d i < 36) (hA : zno A 46) (h : pP 1100 cn un (A ++ [46] ++ zds d 0 K)) (nu : Int32) (nl : Nat → Int32) : ∃ cn', f_T_addRestInRadix_101 cn un nu nl = some (cn', un, nu, nl) ∧ pP 1100 cn' un (A ++ zfz d K) := by
  unfold f_T_addRestInRadix_101
  obtain ⟨c1, t1, t2⟩ := P_drop48 hd (Or.inr ⟨A, 46, rfl, by decide⟩) h
  rw [t1, Option.bind_some]
  unfold zfz
  rcases tz_last d K with q | ⟨j, q, hj⟩
  · rw [if_pos q, List.append_nil]
    rw [q] at t2
    have t2' : pP 1100 c1 un (A ++ [46] ++ []) := t2
    rw [List.append_nil] at t2'
    rw [P_drop_one hA t2', Option.bind_some]
    exact ⟨_, rfl, (pP_pop t2').1⟩
  · rw [if_neg (by omega)]
    have hn : zno (A ++ [46] ++ zds d 0 (tz d K)) 46 := by
      rw [q, zds_s, ← List.append_assoc]
      exact Or.inr ⟨_, _, rfl, zch_46 (hd _)⟩
    rw [P_drop_no hn t2, Option.bind_some]
    rw [List.append_assoc] at t2
    exact ⟨_, rfl, t2⟩
theorem M_rad407 (t s cc p : Int32) {o : Int32} {out r : Nat → Int32} {A : List Int32} {y : Int32} (h : pP 1200 o out (A ++ [y])) : ∃ o', f_M_radix_407 t s o cc p out r = some (o', t, o', out, r) ∧ pP 1200 o' out (if y = 46 then A else A ++ [y]) := by
  unfold f_M_radix_407
  obtain ⟨q1, q2, q3⟩ := pP_pop h
  have hl2 := h.2.1
  rw [List.length_append, List.length_singleton] at hl2
  rw [if_pos (show zin (o - 1) 1200 by exact ⟨by rw [q1.1]; omega, by rw [q1.1]; omega⟩), i_cl, q1.1, Int.toNat_natCast, q2]
  by_cases c : y = 46
  · rw [if_pos c, if_pos c]
    exact ⟨_, rfl, q1⟩
  · rw [if_neg c, if_neg c]
    exact ⟨_, rfl, h⟩
theorem M_rad378 (t s cc p : Int32) {o : Int32} {out r : Nat → Int32} {A : List Int32} {d : Nat → Nat} {K : Nat} (hd : ∀ i, d i < 36) (h : pP 1200 o out (A ++ [46] ++ zds d 0 K)) : ∃ o', f_M_radix_378 t s o cc p out r = some (o', t, o', out, r) ∧ pP 1200 o' out (A ++ zfz d K) := by
  unfold f_M_radix_378
  obtain ⟨y, t1, o', rfl, t3⟩ := zrun_inv (step := f_M_radix_378_step s cc p) (x := (t, o, out, r)) (fun z => ∃ k : Nat, tz d k = tz d K ∧ ∃ c0, z = (t, c0, out, r) ∧ pP 1200 c0 out (A ++ [46] ++ zds d 0 k)) (fun z => z.2.1.toInt.toNat) (fun y => ∃ o', y = (o', t, o', out, r) ∧ pP 1200 o' out (A ++ zfz d K)) (by
    rintro _ ⟨k, hk, c0, rfl, hP⟩
    unfold f_M_radix_378_step f_M_radix_378_body
    dsimp only
    have stop : ∀ {B : List Int32} {y : Int32}, pP 1200 c0 out (B ++ [y]) → y ≠ 48 → (if y = 46 then B else B ++ [y]) = A ++ zfz d K → (∃ y_1, (if zin (c0 - 1) 1200 then if out (c0 - 1).toNatClampNeg = 48 then some (Sum.inl (t, c0 - 1, out, r)) else Option.map Sum.inr (f_M_radix_407 t s c0 cc p out r) else none) = some (Sum.inr (α := Int32 × Int32 × (Nat → Int32) × (Nat → Int32)) y_1) ∧ ∃ o', y_1 = (o', t, o', out, r) ∧ pP 1200 o' out (A ++ zfz d K)) := by
      intro B y hB hy hl
      obtain ⟨q1, q2, q3⟩ := pP_pop hB
      have hl2 := hB.2.1
      rw [List.length_append, List.length_singleton] at hl2
      obtain ⟨o', t1, t2⟩ := M_rad407 t s cc p (r := r) hB
      rw [if_pos (show zin (c0 - 1) 1200 by exact ⟨by rw [q1.1]; omega, by rw [q1.1]; omega⟩), i_cl, q1.1, Int.toNat_natCast, q2, if_neg hy, t1]
      rw [hl] at t2
      exact ⟨_, rfl, o', rfl, t2⟩
    cases k with
    | zero =>
      have hP' : pP 1200 c0 out (A ++ [46] ++ []) := hP
      rw [List.append_nil] at hP'
      right
      refine stop hP' (by decide) ?_
      unfold zfz
      rw [if_pos rfl, ← hk, if_pos (show tz d 0 = 0 from rfl), List.append_nil]
    | succ j =>
      rw [tz_s] at hk
      rw [zds_s, Nat.zero_add, ← List.append_assoc] at hP
      by_cases c : d j = 0
      · rw [if_pos c] at hk
        have hz : zch (d j) = 48 := (zch_48 (hd j)).mpr c
        rw [hz] at hP
        obtain ⟨q1, q2, q3⟩ := pP_pop hP
        have hl2 := hP.2.1
        rw [List.length_append, List.length_singleton] at hl2
        left
        rw [if_pos (show zin (c0 - 1) 1200 by exact ⟨by rw [q1.1]; omega, by rw [q1.1]; omega⟩), i_cl, q1.1, Int.toNat_natCast, if_pos q2]
        refine ⟨_, rfl, ⟨j, hk, c0 - 1, rfl, q1⟩, ?_⟩
        dsimp only
        rw [q1.1, q3]
        omega
      · rw [if_neg c] at hk
        right
        refine stop hP (fun q => c ((zch_48 (hd j)).mp q)) ?_
        unfold zfz
        rw [if_neg (zch_46 (hd j)), ← hk, if_neg (by omega), zds_s, Nat.zero_add]
        simp only [List.append_assoc]) ⟨K, rfl, o, rfl, h⟩
  exact ⟨o', t1, t3⟩
