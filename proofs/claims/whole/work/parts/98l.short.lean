/-! the shortest digits: the class -/
theorem zsg_gt {x y : Nat} : 0 < zsg x y ↔ y < x := by
  have h1 := @zsg_lt x y
  have h2 := @zsg_0 x y
  rw [i_lt] at h1 ⊢
  rw [i_eq] at h2
  have e0 : (0 : Int32).toInt = 0 := rfl
  rw [e0] at h1 h2 ⊢
  constructor
  · intro q
    rcases Nat.lt_or_ge y x with z | z
    · exact z
    · exfalso
      rcases Nat.lt_or_eq_of_le z with w | w
      · have := h1.mpr w; omega
      · have := h2.mpr w; omega
  · intro q
    rcases Int.lt_or_le 0 (zsg x y).toInt with z | z
    · exact z
    · exfalso
      rcases Int.lt_or_eq_of_le z with w | w
      · have := h1.mp w; omega
      · have := h2.mp w; omega
theorem cmpC' {S U q D : Nat} (hU : 0 < U) (hq : 0 < q) (h : S * q = 4 * U * D) (V W : Nat) : (V * S < W * U ↔ V * 4 * D < W * q) ∧ (V * S = W * U ↔ V * 4 * D = W * q) ∧ (W * U < V * S ↔ W * q < V * 4 * D) := by
  have e := cmpC hU hq h V W
  refine ⟨?_, ?_, ?_⟩
  · rw [← zsg_lt, e, zsg_lt]
  · rw [← zsg_0, e, zsg_0]
  · rw [← zsg_gt, e, zsg_gt]
def b1 (p : Prop) [Decidable p] : Int32 := if p then 1 else 0
theorem b1_0 (p : Prop) [Decidable p] : b1 p = 0 ↔ ¬ p := zbf
/-- what counting up leaves: value and count -/
theorem E_end136 {cn pt ru su bu au uu : Int32} {dg rl sl bl al ul : Nat → Int32} {k V : Nat} {P : Int} (hE : eR 48 cn dg k V) (hk : k < 48) (hpt : pt.toInt = P) (hP1 : -10000 < P) (hP2 : P < 10000) (st up go : Prop) [Decidable st] [Decidable up] [Decidable go] :
    ∃ cn' pt' dg' uu' ul', f_E_endShortest_136 cn pt dg ru rl su sl bu bl au al uu ul (b1 st) (b1 up) (b1 go) = some (b1 (st ∨ up), cn', pt', dg', uu', ul') ∧ eR 48 cn' dg' (if go ∧ V + 1 = 10 ^ k then k + 1 else k) (if go then V + 1 else V) ∧ pt'.toInt = (if go ∧ V + 1 = 10 ^ k then P + 1 else P) := by
  have h145 : ∀ (c : Int32) (p : Int32) (d : Nat → Int32), f_E_endShortest_145 c p d ru rl su sl bu bl au al uu ul (b1 st) (b1 up) = some (b1 (st ∨ up), c, p, d, uu, ul) := by
    intro c p d
    unfold f_E_endShortest_145 f_E_endShortest_155
    by_cases h1 : st
    · rw [if_neg (fun q => (b1_0 st).mp q h1)]
      unfold b1
      rw [if_pos (Or.inl h1)]
    · rw [if_pos ((b1_0 st).mpr h1)]
      by_cases h2 : up
      · rw [if_neg (fun q => (b1_0 up).mp q h2)]
        unfold b1
        rw [if_pos (Or.inr h2)]
      · rw [if_pos ((b1_0 up).mpr h2)]
        unfold b1
        rw [if_neg (fun q => q.elim h1 h2)]
  unfold f_E_endShortest_136
  by_cases hg : go
  · rw [if_neg (fun q => (b1_0 go).mp q hg), if_pos hg]
    obtain ⟨c2, p2, d2, v1, v2, v3⟩ := E_countUp hE hk hpt (by omega) (by omega)
    rw [v1, Option.bind_some]
    dsimp only
    rw [h145]
    refine ⟨c2, p2, d2, uu, ul, rfl, ?_, ?_⟩
    · by_cases c : V + 1 = 10 ^ k
      · rw [if_pos ⟨hg, c⟩]
        rw [if_pos c] at v2
        exact v2
      · rw [if_neg (fun q => c q.2)]
        rw [if_neg c] at v2
        exact v2
    · by_cases c : V + 1 = 10 ^ k
      · rw [if_pos ⟨hg, c⟩]
        rw [if_pos c] at v3
        exact v3
      · rw [if_neg (fun q => c q.2)]
        rw [if_neg c] at v3
        exact v3
  · rw [if_pos ((b1_0 go).mpr hg), if_neg hg, if_neg (fun q => hg q.1), h145]
    exact ⟨cn, pt, dg, uu, ul, rfl, hE, by rw [if_neg (fun q => hg q.1)]; exact hpt⟩
theorem E_end82 {cn pt ru su bu au uu : Int32} {dg rl sl bl al ul : Nat → Int32} {k V R S : Nat} {P : Int} (hE : eR 48 cn dg k V) (hk0 : 0 < k) (hk : k < 48) (hpt : pt.toInt = P) (hP1 : -10000 < P) (hP2 : P < 10000) (hR : nR ru rl R) (hS : nR su sl S) (hb : R + R < 1073741824 ^ 48) (st up : Prop) [Decidable st] [Decidable up] (mi : Prop) [Decidable mi] (hmi : mi ↔ (S < R + R ∨ (R + R = S ∧ V % 2 = 1))) :
    ∃ cn' pt' dg' uu' ul', f_E_endShortest_82 cn pt dg ru rl su sl bu bl au al uu ul (b1 st) (b1 up) = some (b1 (st ∨ up), cn', pt', dg', uu', ul') ∧ eR 48 cn' dg' (if (up ∧ (st → mi)) ∧ V + 1 = 10 ^ k then k + 1 else k) (if (up ∧ (st → mi)) then V + 1 else V) ∧ pt'.toInt = (if (up ∧ (st → mi)) ∧ V + 1 = 10 ^ k then P + 1 else P) := by
  have e1 : (1 : Int32).toInt = 1 := rfl
  unfold f_E_endShortest_82
  by_cases h1 : st
  · rw [if_neg (fun q => (b1_0 st).mp q h1)]
    by_cases h2 : up
    · rw [if_neg (fun q => (b1_0 up).mp q h2)]
      obtain ⟨u2, l2, t1⟩ := E_twice (cn := cn) (pt := pt) (uu := uu) (ul := ul) hR hS hb
      rw [t1, Option.bind_some]
      dsimp only
      unfold f_E_endShortest_129 f_E_endShortest_133 f_E_endShortest_134
      have hgo : ∀ (x6 : Int32), x6 = b1 (up ∧ (st → mi)) → ∃ cn' pt' dg' uu' ul', f_E_endShortest_136 cn pt dg ru rl su sl bu bl au al u2 l2 (b1 st) (b1 up) x6 = some (b1 (st ∨ up), cn', pt', dg', uu', ul') ∧ eR 48 cn' dg' (if (up ∧ (st → mi)) ∧ V + 1 = 10 ^ k then k + 1 else k) (if (up ∧ (st → mi)) then V + 1 else V) ∧ pt'.toInt = (if (up ∧ (st → mi)) ∧ V + 1 = 10 ^ k then P + 1 else P) := by
        intro x6 hx6
        rw [hx6]
        exact E_end136 hE hk hpt hP1 hP2 st up (up ∧ (st → mi))
      have yes : mi → (1 : Int32) = b1 (up ∧ (st → mi)) := by
        intro h
        unfold b1
        rw [if_pos ⟨h2, fun _ => h⟩]
      have no : ¬ mi → (0 : Int32) = b1 (up ∧ (st → mi)) := by
        intro h
        unfold b1
        rw [if_neg (fun q => h (q.2 h1))]
      by_cases c1 : S < R + R
      · rw [if_pos (zsg_gt.mpr c1)]
        exact hgo 1 (yes (hmi.mpr (Or.inl c1)))
      · rw [if_neg (fun q => c1 (zsg_gt.mp q))]
        by_cases c2 : R + R = S
        · rw [if_pos (zsg_0.mpr c2)]
          have hcn1 : (cn - 1).toInt = ((k - 1 : Nat) : Int) := by
            have hcn := hE.1
            rw [i_sub (by rw [hcn, e1]; omega) (by rw [hcn, e1]; omega), hcn, e1]
            omega
          obtain ⟨dd, d1, d2⟩ := E_digitAt (pt := pt) hE hcn1
          clear hcn1
          rw [zdt_lt (by omega), show k - 1 - (k - 1) = 0 by omega, Nat.pow_zero, Nat.div_one] at d2
          have hbit : (dd &&& 1).toInt = ((V % 10 % 2 : Nat) : Int) := by
            rw [i_and 1 (by decide) rfl, d2]
            exact (Int.natCast_emod _ _).symm
          rw [d1, Option.bind_some]
          by_cases c3 : V % 2 = 1
          · rw [if_neg (show ¬ (dd &&& 1) = 0 by rw [i_eq, hbit]; show ¬ _ = (0 : Int); omega)]
            exact hgo 1 (yes (hmi.mpr (Or.inr ⟨c2, c3⟩)))
          · rw [if_pos (show (dd &&& 1) = 0 by rw [i_eq, hbit]; show _ = (0 : Int); omega)]
            exact hgo 0 (no (fun q => (hmi.mp q).elim c1 (fun w => c3 w.2)))
        · rw [if_neg (fun q => c2 (zsg_0.mp q))]
          exact hgo 0 (no (fun q => (hmi.mp q).elim c1 (fun w => c2 w.1)))
    · rw [if_pos ((b1_0 up).mpr h2)]
      have hg : b1 up = b1 (up ∧ (st → mi)) := by
        unfold b1
        rw [if_neg h2, if_neg (fun q => h2 q.1)]
      have := E_end136 (ru := ru) (su := su) (bu := bu) (au := au) (uu := uu) (rl := rl) (sl := sl) (bl := bl) (al := al) (ul := ul) hE hk hpt hP1 hP2 st up (up ∧ (st → mi))
      rw [← hg] at this
      exact this
  · rw [if_pos ((b1_0 st).mpr h1)]
    have hg : b1 up = b1 (up ∧ (st → mi)) := by
      unfold b1
      by_cases h2 : up
      · rw [if_pos h2, if_pos ⟨h2, fun q => absurd q h1⟩]
      · rw [if_neg h2, if_neg (fun q => h2 q.1)]
    have := E_end136 (ru := ru) (su := su) (bu := bu) (au := au) (uu := uu) (rl := rl) (sl := sl) (bl := bl) (al := al) (ul := ul) hE hk hpt hP1 hP2 st up (up ∧ (st → mi))
    rw [← hg] at this
    exact this
theorem E_endShortest {cn pt ru su bu au uu : Int32} {dg rl sl bl al ul : Nat → Int32} {k V R S Bl Ab : Nat} {P : Int} {ev : Bool} {x1 : Int32} (hE : eR 48 cn dg k V) (hk0 : 0 < k) (hk : k < 48) (hpt : pt.toInt = P) (hP1 : -10000 < P) (hP2 : P < 10000) (hR : nR ru rl R) (hS : nR su sl S) (hBl : nR bu bl Bl) (hAb : nR au al Ab) (hb : R + R < 1073741824 ^ 48) (hb2 : R + Ab < 1073741824 ^ 48) (hx1 : x1 = if ev = true then 1 else 0) (st up mi : Prop) [Decidable st] [Decidable up] [Decidable mi] (hst : st ↔ (R < Bl ∨ (ev = true ∧ R = Bl))) (hup : up ↔ (S < R + Ab ∨ (ev = true ∧ R + Ab = S))) (hmi : mi ↔ (S < R + R ∨ (R + R = S ∧ V % 2 = 1))) :
    ∃ cn' pt' dg' uu' ul', f_E_endShortest cn pt dg ru rl su sl bu bl au al uu ul x1 = some (b1 (st ∨ up), cn', pt', dg', uu', ul') ∧ eR 48 cn' dg' (if (up ∧ (st → mi)) ∧ V + 1 = 10 ^ k then k + 1 else k) (if (up ∧ (st → mi)) then V + 1 else V) ∧ pt'.toInt = (if (up ∧ (st → mi)) ∧ V + 1 = 10 ^ k then P + 1 else P) := by
  obtain ⟨l1, t1, t2⟩ := N_copy (us := uu) (l := ul) hR
  obtain ⟨u2, l2, t3, t4⟩ := N_add t2 hAb hb2
  unfold f_E_endShortest
  rw [N_order hR hBl, Option.bind_some, t1, Option.bind_some]
  dsimp only
  rw [t3, Option.bind_some]
  dsimp only
  rw [N_order t4 hS, Option.bind_some]
  have h10 : x1 = 0 ↔ ¬ ev = true := by rw [hx1]; exact zbf
  -- whether it may go up
  have h63 : ∀ s0 : Int32, f_E_endShortest_63 cn pt dg ru rl su sl bu bl au al u2 l2 x1 (zsg (R + Ab) S) s0 = f_E_endShortest_82 cn pt dg ru rl su sl bu bl au al u2 l2 s0 (b1 up) := by
    intro s0
    unfold f_E_endShortest_63 f_E_endShortest_77 f_E_endShortest_81
    by_cases c1 : S < R + Ab
    · rw [if_pos (zsg_gt.mpr c1)]
      unfold b1
      rw [if_pos (hup.mpr (Or.inl c1))]
    · rw [if_neg (fun q => c1 (zsg_gt.mp q))]
      by_cases c2 : ev = true
      · rw [if_neg (fun q => h10.mp q c2)]
        by_cases c3 : R + Ab = S
        · rw [if_pos (zsg_0.mpr c3)]
          unfold b1
          rw [if_pos (hup.mpr (Or.inr ⟨c2, c3⟩))]
        · rw [if_neg (fun q => c3 (zsg_0.mp q))]
          unfold b1
          rw [if_neg (fun q => (hup.mp q).elim c1 (fun w => c3 w.2))]
      · rw [if_pos (h10.mpr c2)]
        unfold b1
        rw [if_neg (fun q => (hup.mp q).elim c1 (fun w => c2 w.1))]
  have hst1 : (if zsg R Bl < 0 then f_E_endShortest_58 cn pt dg ru rl su sl bu bl au al u2 l2 x1 (zsg (R + Ab) S) else if x1 = 0 then f_E_endShortest_62 cn pt dg ru rl su sl bu bl au al u2 l2 x1 (zsg (R + Ab) S) else if zsg R Bl = 0 then f_E_endShortest_58 cn pt dg ru rl su sl bu bl au al u2 l2 x1 (zsg (R + Ab) S) else f_E_endShortest_62 cn pt dg ru rl su sl bu bl au al u2 l2 x1 (zsg (R + Ab) S)) = f_E_endShortest_82 cn pt dg ru rl su sl bu bl au al u2 l2 (b1 st) (b1 up) := by
    unfold f_E_endShortest_58 f_E_endShortest_62
    rw [h63, h63]
    by_cases c1 : R < Bl
    · rw [if_pos (zsg_lt.mpr c1)]
      have : b1 st = 1 := by unfold b1; rw [if_pos (hst.mpr (Or.inl c1))]
      rw [this]
    · rw [if_neg (fun q => c1 (zsg_lt.mp q))]
      by_cases c2 : ev = true
      · rw [if_neg (fun q => h10.mp q c2)]
        by_cases c3 : R = Bl
        · rw [if_pos (zsg_0.mpr c3)]
          have : b1 st = 1 := by unfold b1; rw [if_pos (hst.mpr (Or.inr ⟨c2, c3⟩))]
          rw [this]
        · rw [if_neg (fun q => c3 (zsg_0.mp q))]
          have : b1 st = 0 := by unfold b1; rw [if_neg (fun q => (hst.mp q).elim c1 (fun w => c3 w.2))]
          rw [this]
      · rw [if_pos (h10.mpr c2)]
        have : b1 st = 0 := by unfold b1; rw [if_neg (fun q => (hst.mp q).elim c1 (fun w => c2 w.1))]
        rw [this]
  rw [hst1]
  exact E_end82 hE hk0 hk hpt hP1 hP2 hR hS hb st up mi hmi
