/-! one command of the law, class and reference side by side: also where both throw -/
theorem M_thr1 (t s o c p x2 : Int32) : f_M_throwing t s o c p 1 x2 = some (1, 1) := by
  unfold f_M_throwing f_M_throwing_18
  rw [if_neg (show ¬ (1 : Int32) = 0 by decide), if_neg (show ¬ (1 : Int32) ≤ 0 by decide)]
theorem M_thr2 (t s o c p : Int32) : f_M_throwing t s o c p 0 1 = some (1, 2) := by
  unfold f_M_throwing f_M_throwing_18
  rw [if_pos rfl, if_neg (show ¬ (1 : Int32) = 0 by decide), if_neg (show ¬ (2 : Int32) ≤ 0 by decide)]
theorem zuq (q : Nat → Int64) (n : Nat) (v : Int64) : vp_updL q n v n = v := if_pos rfl
theorem zrk1 : zrk 1 = 1 := rfl
theorem zrk2 : zrk 2 = 2 := rfl
theorem zrk3 : zrk 3 = 1 := rfl
theorem n10 : ¬ (1 : Int32) = 0 := by decide
theorem n20 : ¬ (2 : Int32) = 0 := by decide
theorem M_put_bad (th o c p ms : Int32) (mt : Nat → Int32) (x : Int64) (x3 : Int32) : f_M_put_10 th ms o c p mt x x3 = some (0, 1, ms, mt) := by
  unfold f_M_put_10 f_M_put_15 f_M_put_41 f_M_put_42
  rw [if_neg n10, M_thr1, Option.bind_some]
  exact if_neg n10
theorem ro_put (a1 a2 a3 a4 th o c p : Int32) {rc ms : Int32} {ru mt : Nat → Int32} (h : tR rc ms ru mt) (q : Nat → Int64) (x : Int64) (x3 : Int32) :
    ∃ k rc' ru' q' d ms' mt', w_L_put rc a1 a2 a3 a4 ru q x x3 = some (k, rc', ru', q') ∧ f_M_put th ms o c p mt x x3 = some (d, k, ms', mt') ∧ (k = 0 → q' (0 : Int32).toNatClampNeg = d.toInt64) ∧ tR rc' ms' ru' mt' := by
  by_cases c1 : x3 < 1
  · refine ⟨1, rc, ru, q, 0, ms, mt, ?_, ?_, fun h => absurd h n10, h⟩
    · unfold w_L_put t_D_put
      rw [if_pos c1]; rfl
    · unfold f_M_put
      rw [if_pos c1, M_put_bad]
  · by_cases c2 : x3 ≤ 4
    · have h' := h
      obtain ⟨e1, e2, n, hn, hn6⟩ := h'
      subst e1 e2
      have d1 : 1 ≤ x3.toInt := by rw [i_lt] at c1; have : (1 : Int32).toInt = 1 := rfl; omega
      have d4 : x3.toInt ≤ 4 := by rw [i_le] at c2; have : (4 : Int32).toInt = 4 := rfl; omega
      have e6 : (600 : Int32).toInt = 600 := rfl
      have s1 : (600 - rc).toInt = 600 - n := by rw [i_sub (by omega) (by omega)]; omega
      have s2 : (rc + x3).toInt = n + x3.toInt := by rw [i_add (by omega) (by omega)]; omega
      by_cases c3 : 600 - rc < x3
      · have c4 : ¬ rc + x3 ≤ 600 := by rw [i_le, s2, e6]; rw [i_lt, s1] at c3; omega
        refine ⟨2, rc, ru, q, 0, rc, ru, ?_, ?_, fun h => absurd h n20, h⟩
        · unfold w_L_put t_D_put f_R_hasRoomFor
          rw [if_neg c1, if_pos c2, if_pos c3, Option.bind_some, if_pos rfl]; rfl
        · unfold f_M_put f_M_put_15 f_M_put_42
          rw [if_neg c1, if_pos c2, if_pos rfl, if_neg c4, M_thr2, Option.bind_some]
          exact if_neg n10
      · have c4 : rc.toInt + x3.toInt ≤ 600 := by rw [i_lt, s1] at c3; omega
        obtain ⟨d, u', h1, h2, h3⟩ := same_put a1 a2 a3 a4 th o c p h x c1 c2 c4
        refine ⟨0, d, u', vp_updL q (0 : Int32).toNatClampNeg d.toInt64, d, d, u', ?_, h2, fun _ => zuq _ _ _, h3⟩
        unfold w_L_put t_D_put f_R_hasRoomFor
        rw [if_neg c1, if_pos c2, if_neg c3, Option.bind_some, if_neg n10, Option.elim_none, h1, Option.bind_some]
    · refine ⟨1, rc, ru, q, 0, ms, mt, ?_, ?_, fun h => absurd h n10, h⟩
      · unfold w_L_put t_D_put
        rw [if_neg c1, if_neg c2]; rfl
      · unfold f_M_put
        rw [if_neg c1, if_neg c2, M_put_bad]
theorem zr5 {x5 : Int32} (h0 : ¬ x5 < 0) (h4 : x5 ≤ 4) : x5 = 0 ∨ x5 = 1 ∨ x5 = 2 ∨ x5 = 3 ∨ x5 = 4 := by
  rw [i_lt] at h0
  rw [i_le] at h4
  have e0 : (0 : Int32).toInt = 0 := rfl
  have e4 : (4 : Int32).toInt = 4 := rfl
  rw [i_eq, i_eq, i_eq, i_eq, i_eq]
  show _ = (0 : Int) ∨ _ = (1 : Int) ∨ _ = (2 : Int) ∨ _ = (3 : Int) ∨ _ = (4 : Int)
  omega
theorem zn5 {x5 : Int32} (h : x5 < 0 ∨ ¬ x5 ≤ 4) (a b : Int64) : t_D_reckon a b x5 = some 1 := by
  unfold t_D_reckon
  rw [if_neg, if_neg, if_neg, if_neg, if_neg]
  all_goals intro e; subst e; revert h; decide
theorem ro_reckon (t s o c p : Int32) {r : Nat → Int32} (hr : mOK r) (q : Nat → Int64) (a b : Int64) (x5 : Int32) :
    ∃ k q' d r', w_L_reckon q a b x5 = some (k, q') ∧ f_M_reckon t s o c p r a b x5 = some (d, k, r') ∧ (k = 0 → q' (0 : Int32).toNatClampNeg = d) ∧ mOK r' := by
  by_cases c1 : x5 < 0
  · refine ⟨1, q, 0, r, ?_, ?_, fun h => absurd h n10, hr⟩
    · unfold w_L_reckon
      rw [zn5 (Or.inl c1)]; rfl
    · unfold f_M_reckon f_M_reckon_12 f_M_reckon_17
      rw [if_pos c1, M_thr1, Option.bind_some]
      exact if_neg n10
  · by_cases c2 : x5 ≤ 4
    · obtain ⟨d, r', h1, h2, h3⟩ := same_reckon t s o c p hr a b c1 c2
      refine ⟨0, vp_updL q (0 : Int32).toNatClampNeg d, d, r', ?_, h2, fun _ => zuq _ _ _, h3⟩
      have ht : t_D_reckon a b x5 = none := by
        unfold t_D_reckon
        rcases zr5 c1 c2 with rfl | rfl | rfl | rfl | rfl <;> decide
      unfold w_L_reckon
      rw [ht, Option.elim_none, h1, Option.bind_some]
    · refine ⟨1, q, 0, r, ?_, ?_, fun h => absurd h n10, hr⟩
      · unfold w_L_reckon
        rw [zn5 (Or.inr c2)]; rfl
      · unfold f_M_reckon f_M_reckon_12 f_M_reckon_17
        rw [if_neg c1, if_neg c2, M_thr1, Option.bind_some]
        exact if_neg n10
theorem ro_turn (t s o c p : Int32) {r : Nat → Int32} (hr : mOK r) (q : Nat → Int64) (a : Int64) (x3 : Int32) :
    ∃ k q' d r', w_L_turn q a x3 = some (k, q') ∧ f_M_turn t s o c p r a x3 = some (d, k, r') ∧ (k = 0 → q' (0 : Int32).toNatClampNeg = d) ∧ mOK r' := by
  by_cases c1 : x3 < 0
  · refine ⟨1, q, 0, r, ?_, ?_, fun h => absurd h n10, hr⟩
    · unfold w_L_turn t_D_turn
      rw [if_pos c1]; rfl
    · unfold f_M_turn f_M_turn_11 f_M_turn_16
      rw [if_pos c1, M_thr1, Option.bind_some]
      exact if_neg n10
  · by_cases c2 : x3 ≤ 6
    · obtain ⟨d, r', h1, h2, h3⟩ := same_turn t s o c p hr a c1 c2
      refine ⟨0, vp_updL q (0 : Int32).toNatClampNeg d, d, r', ?_, h2, fun _ => zuq _ _ _, h3⟩
      unfold w_L_turn t_D_turn
      rw [if_neg c1, if_pos c2, Option.elim_none, h1, Option.bind_some]
    · refine ⟨1, q, 0, r, ?_, ?_, fun h => absurd h n10, hr⟩
      · unfold w_L_turn t_D_turn
        rw [if_neg c1, if_neg c2]; rfl
      · unfold f_M_turn f_M_turn_11 f_M_turn_16
        rw [if_neg c1, if_neg c2, M_thr1, Option.bind_some]
        exact if_neg n10
theorem ro_whole (t s o c p : Int32) (q : Nat → Int64) (a : Int64) (x3 : Int32) :
    ∃ k q' d, w_L_whole q a x3 = some (k, q') ∧ f_M_whole t s o c p a x3 = some (d, k) ∧ (k = 0 → q' (0 : Int32).toNatClampNeg = d) := by
  by_cases c1 : x3 < 0
  · refine ⟨1, q, 0, ?_, ?_, fun h => absurd h n10⟩
    · unfold w_L_whole t_D_whole
      rw [if_pos c1]; rfl
    · unfold f_M_whole f_M_whole_10 f_M_whole_15
      rw [if_pos c1, M_thr1, Option.bind_some]
      exact if_neg n10
  · by_cases c2 : x3 ≤ 2
    · obtain ⟨d, h1, h2⟩ := same_whole t s o c p a c1 c2
      refine ⟨0, vp_updL q (0 : Int32).toNatClampNeg d, d, ?_, h2, fun _ => zuq _ _ _⟩
      unfold w_L_whole t_D_whole
      rw [if_neg c1, if_pos c2, Option.elim_none, h1, Option.bind_some]
    · refine ⟨1, q, 0, ?_, ?_, fun h => absurd h n10⟩
      · unfold w_L_whole t_D_whole
        rw [if_neg c1, if_neg c2]; rfl
      · unfold f_M_whole f_M_whole_10 f_M_whole_15
        rw [if_neg c1, if_neg c2, M_thr1, Option.bind_some]
        exact if_neg n10
theorem M_radix_bad (t s o c p : Int32) (out r : Nat → Int32) (x : Int64) (x3 : Int32) : f_M_radix_18 t s o c p out r x x3 = some (0, 1, o, out, r) := by
  unfold f_M_radix_18 f_M_radix_23
  rw [M_thr1, Option.bind_some]
  exact if_neg n10
theorem ro_radix (t s o cc p : Int32) {out r : Nat → Int32} (hr : mOK r) {pc nu : Int32} {pu nl : Nat → Int32} (hp : pS pc pu o out) (q : Nat → Int64) (x : Int64) (x3 : Int32) :
    ∃ k pc' pu' nu' nl' q' d o' out' r', w_L_radix pc pu nu nl q x x3 = some (k, pc', pu', nu', nl', q') ∧ f_M_radix t s o cc p out r x x3 = some (d, k, o', out', r') ∧ (k = 0 → q' (0 : Int32).toNatClampNeg = d.toInt64) ∧ mOK r' ∧ pS pc' pu' o' out' := by
  by_cases c1 : x3 < 2
  · refine ⟨1, pc, pu, nu, nl, q, 0, o, out, r, ?_, ?_, fun h => absurd h n10, hr, hp⟩
    · unfold w_L_radix t_D_radix
      rw [if_pos c1]; rfl
    · unfold f_M_radix
      rw [if_pos c1, M_radix_bad]
  · by_cases c2 : 36 < x3
    · refine ⟨1, pc, pu, nu, nl, q, 0, o, out, r, ?_, ?_, fun h => absurd h n10, hr, hp⟩
      · unfold w_L_radix t_D_radix
        rw [if_neg c1, if_pos c2]; rfl
      · unfold f_M_radix
        rw [if_neg c1, if_pos c2, M_radix_bad]
    · by_cases c3 : x3 = 10
      · refine ⟨1, pc, pu, nu, nl, q, 0, o, out, r, ?_, ?_, fun h => absurd h n10, hr, hp⟩
        · unfold w_L_radix t_D_radix
          rw [if_neg c1, if_neg c2, if_pos c3]; rfl
        · unfold f_M_radix
          rw [if_neg c1, if_neg c2, if_pos c3, M_radix_bad]
      · obtain ⟨d, pc', pu', ⟨nu', nl'⟩, o', out', r', h1, h2, h3, h4⟩ := same_radix t s o cc p (out := out) hr (pc := pc) (nu := nu) (pu := pu) (nl := nl) x c1 c2 c3
        refine ⟨0, pc', pu', nu', nl', vp_updL q (0 : Int32).toNatClampNeg d.toInt64, d, o', out', r', ?_, h2, fun _ => zuq _ _ _, h3, h4⟩
        unfold w_L_radix t_D_radix
        rw [if_neg c1, if_neg c2, if_neg c3, Option.elim_none, h1, Option.bind_some]
theorem M_form_bad (t s o c p : Int32) (out r dg : Nat → Int32) (x : Int64) (k w : Int32) : f_M_form_49 t s o c p out r dg x k w = some (0, 1, o, c, p, out, r, dg) := by
  unfold f_M_form_49 f_M_form_54
  rw [M_thr1, Option.bind_some]
  exact if_neg n10
theorem ro_unit (t s cc p : Int32) {pc mo : Int32} {pu mt : Nat → Int32} (h : pS pc pu mo mt) (q : Nat → Int64) (x : Int32) :
    ∃ k q' d, w_L_unit pc pu q x = some (k, q') ∧ f_M_unit t s mo cc p mt x = some (d, k) ∧ (k = 0 → q' (0 : Int32).toNatClampNeg = d.toInt64) := by
  by_cases c1 : x < 0
  · refine ⟨1, q, 0, ?_, ?_, fun h => absurd h n10⟩
    · unfold w_L_unit t_D_unit
      rw [if_pos c1]; rfl
    · unfold f_M_unit f_M_unit_13 f_M_unit_18
      rw [if_pos c1, M_thr1, Option.bind_some]
      exact if_neg n10
  · by_cases c2 : x < pc
    · obtain ⟨d, h1, h2⟩ := same_unit t s cc p h c1 c2
      refine ⟨0, vp_updL q (0 : Int32).toNatClampNeg d.toInt64, d, ?_, h2, fun _ => zuq _ _ _⟩
      unfold w_L_unit t_D_unit
      rw [if_neg c1, T_len, Option.bind_some, if_pos c2, Option.elim_none, h1, Option.bind_some]
    · obtain ⟨L, a, b⟩ := h
      have he := pP_eq a b
      refine ⟨1, q, 0, ?_, ?_, fun h => absurd h n10⟩
      · unfold w_L_unit t_D_unit
        rw [if_neg c1, T_len, Option.bind_some, if_neg c2]; rfl
      · unfold f_M_unit f_M_unit_13 f_M_unit_18
        rw [if_neg c1, ← he, if_neg c2, M_thr1, Option.bind_some]
        exact if_neg n10
