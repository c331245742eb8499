theorem E_places {cn pt ru su bu uu : Int32} {dg rl sl bl ul : Nat → Int32} {x : Int64} {x3 : Int32} {pl : Nat} (hfin : zmg x < 9218868437227405312) (hz : zmg x ≠ 0) (h3 : x3.toInt = pl) (hpl : pl ≤ 20) (hsm : vN (zam (zmg x)) ((zep (zmg x) : Int) - 1074) 21 < vD ((zep (zmg x) : Int) - 1074) 21) :
    ∃ cn' pt' dg' y c Q, f_E_makePlaces cn pt dg ru rl su sl bu bl uu ul x x3 = some (cn', pt', dg', y) ∧ eR 48 cn' dg' c (znr (zam (zmg x)) ((zep (zmg x) : Int) - 1074) (-(pl : Int))) ∧ pt'.toInt = Q ∧ ((c : Int) = Q + pl ∨ (c = 0 ∧ Q + pl < 0)) ∧ Q ≤ 22 ∧ -330 < Q ∧ (c = 0 ∨ 10 ^ (c - 1) ≤ znr (zam (zmg x)) ((zep (zmg x) : Int) - 1074) (-(pl : Int))) := by
  obtain ⟨pt1, r1, rl1, s1, sl1, b1, bl1, P, R, S, B, n, t1, t2, t3, t4, t5, t6, t7, t8, t9, t10, t11, t12, t13, t14, t15⟩ := E_begin (cn := cn) (pt := pt) (ru := ru) (su := su) (bu := bu) (rl := rl) (sl := sl) (bl := bl) hfin hz
  have hRS := isP_RS t3 t10 t11
  have hP21 := isP_le t3 hsm
  have e0 : (0 : Int32).toInt = 0 := rfl
  have hsum : (pt1 + x3).toInt = P + pl := by
    rw [i_add (by rw [t2, h3]; omega) (by rw [t2, h3]; omega), t2, h3]
  unfold f_E_makePlaces
  rw [t1, Option.bind_some]
  dsimp only
  by_cases c : P + pl < 0
  · rw [if_pos (show pt1 + x3 < 0 by rw [i_lt, hsum, e0]; omega)]
    have hQ : znr (zam (zmg x)) ((zep (zmg x) : Int) - 1074) (-(pl : Int)) = 0 := by
      have hlt : vN (zam (zmg x)) ((zep (zmg x) : Int) - 1074) (-(pl : Int) - 1) < vD ((zep (zmg x) : Int) - 1074) (-(pl : Int) - 1) := by
        obtain ⟨k, hk⟩ : ∃ k : Nat, -(pl : Int) - 1 = P + k := ⟨(-(pl : Int) - 1 - P).toNat, by omega⟩
        rw [hk]
        exact v_mono t3.1 k
      have hs := v_step (zam (zmg x)) ((zep (zmg x) : Int) - 1074) (-(pl : Int) - 1)
      rw [show -(pl : Int) - 1 + 1 = -(pl : Int) by omega] at hs
      have hD := vD_pos ((zep (zmg x) : Int) - 1074) (-(pl : Int))
      have hD1 := vD_pos ((zep (zmg x) : Int) - 1074) (-(pl : Int) - 1)
      unfold znr
      generalize vN (zam (zmg x)) ((zep (zmg x) : Int) - 1074) (-(pl : Int) - 1) = N1 at *
      generalize vD ((zep (zmg x) : Int) - 1074) (-(pl : Int) - 1) = D1 at *
      generalize vN (zam (zmg x)) ((zep (zmg x) : Int) - 1074) (-(pl : Int)) = N2 at *
      generalize vD ((zep (zmg x) : Int) - 1074) (-(pl : Int)) = D2 at *
      have h1 : N1 * D2 < D1 * D2 := (Nat.mul_lt_mul_right hD).mpr hlt
      rw [hs, Nat.mul_comm D1] at h1
      have h2 : 10 * N2 < D2 := Nat.lt_of_mul_lt_mul_right h1
      exact Nat.div_eq_of_lt (by omega)
    rw [hQ]
    exact ⟨0, pt1, dg, _, 0, P, rfl, eR_0 48 dg, t2, Or.inr ⟨rfl, c⟩, by omega, by omega, Or.inl rfl⟩
  · rw [if_neg (show ¬ pt1 + x3 < 0 by rw [i_lt, hsum, e0]; omega)]
    obtain ⟨w, hw⟩ : ∃ w : Nat, P + pl = w := ⟨(P + pl).toNat, by omega⟩
    rw [hw] at hsum
    obtain ⟨c2, p2, d2, ⟨y1, y2, y3, y4⟩, u1, u2, u3⟩ := E_takeDigits (uu := uu) (ul := ul) (dg := dg) t6 t7 hRS t14 t13 t15 rfl t2 (by omega) (by omega) hsum (by omega)
    have hnr := feq_nr t11 (feq_pow t10 w)
    rw [show P - (w : Int) = -(pl : Int) by omega] at hnr
    rw [hnr] at u2 u3
    rw [u1, Option.bind_some]
    dsimp only
    refine ⟨c2, p2, d2, _, _, _, rfl, u2, u3, ?_, ?_, ?_, ?_⟩
    · left
      split <;> omega
    · split <;> omega
    · split <;> omega
    · rcases Nat.eq_zero_or_pos w with q | q
      · subst q
        split
        · next e =>
          right
          rw [e]
          exact Nat.le_refl _
        · left
          rfl
      · right
        have hz1 := znr_rng t3 q
        rw [show P - (w : Int) = -(pl : Int) by omega] at hz1
        split
        · next e =>
          rw [e]
          exact Nat.le_refl _
        · exact hz1.1
/-- a digit at a place that may lie before the first -/
def zdj (g : Nat → Nat) (j : Int) : Nat := if j < 0 then 0 else g j.toNat
def zfx (g : Nat → Nat) (Q : Int) (pl : Nat) : List Int32 := zbp g Q ++ ((if pl = 0 then [] else [46]) ++ zds (fun i => zdj g (Q + i)) 0 pl)
theorem T_fixed101 {cn pt : Int32} {dg : Nat → Int32} {c V : Nat} (hE : eR 48 cn dg c V) {Q : Int} {x4 : Int32} (hQ : x4.toInt = Q) (hQ1 : -400 < Q) (hQ2 : Q < 400) {pc ru su bu au uu : Int32} {pu rl sl bl al ul : Nat → Int32} {L : List Int32} (h : pP 1100 pc pu L) {x3 : Int32} {n : Nat} (h1 : x3.toInt = n) (hl : L.length + n ≤ 1100) (hn : n ≤ 60) :
    ∃ pc' pu', f_T_writeFixed_101 pc pu cn pt dg ru rl su sl bu bl au al uu ul x3 x4 0 = some (pc', pu', cn, pt, dg, ru, rl, su, sl, bu, bl, au, al, uu, ul) ∧ pP 1100 pc' pu' (L ++ zds (fun i => zdj (zdt c V) (Q + i)) 0 n) := by
  unfold f_T_writeFixed_101
  obtain ⟨y, t1, pc', pu', t2, t3⟩ := zrun_inv (step := f_T_writeFixed_101_step x3 x4) (x := (pc, pu, cn, pt, dg, ru, rl, su, sl, bu, bl, au, al, uu, ul, 0)) (fun z => ∃ k : Nat, k ≤ n ∧ ∃ pc' pu' y, z = (pc', pu', cn, pt, dg, ru, rl, su, sl, bu, bl, au, al, uu, ul, y) ∧ y.toInt = ((0 + k : Nat) : Int) ∧ pP 1100 pc' pu' (L ++ zds (fun i => zdj (zdt c V) (Q + i)) 0 k)) (fun z => ((n : Int) - z.2.2.2.2.2.2.2.2.2.2.2.2.2.2.2.toInt).toNat) (fun y => ∃ pc' pu', y = (pc', pu', cn, pt, dg, ru, rl, su, sl, bu, bl, au, al, uu, ul) ∧ pP 1100 pc' pu' (L ++ zds (fun i => zdj (zdt c V) (Q + i)) 0 n)) (by
    rintro _ ⟨k, hk, c0, u, y, rfl, hy, hP⟩
    unfold f_T_writeFixed_101_step f_T_writeFixed_101_body
    dsimp only
    by_cases ck : k = n
    · rw [if_pos (show x3 ≤ y by rw [i_le, hy, h1]; omega)]
      rw [ck] at hP
      exact Or.inr ⟨_, rfl, c0, u, rfl, hP⟩
    · rw [if_neg (show ¬ x3 ≤ y by rw [i_le, hy, h1]; omega)]
      have hsum : (x4 + y).toInt = Q + k := by
        rw [i_add (by rw [hQ, hy]; omega) (by rw [hQ, hy]; omega), hQ, hy]
        omega
      have hd : ∃ d, f_E_digitAt cn pt dg (x4 + y) = some d ∧ d.toInt = (zdj (zdt c V) (Q + k) : Int) := by
        unfold zdj
        by_cases q : Q + k < 0
        · rw [if_pos q]
          exact ⟨0, E_digitNeg (by rw [hsum]; exact q), rfl⟩
        · rw [if_neg q]
          exact E_digitAt (pt := pt) hE (by rw [hsum]; omega)
      have h9 : zdj (zdt c V) (Q + k) < 36 := by
        unfold zdj
        split
        · decide
        · have := zdt_9 c V (Q + k).toNat
          omega
      obtain ⟨d, t1, t2⟩ := hd
      obtain ⟨c1, u1, t3, t4⟩ := P_addDigit hP (by rw [List.length_append, zds_len]; omega) t2 h9
      rw [t1, Option.bind_some, t3, Option.bind_some]
      dsimp only
      have hs : (y + 1).toInt = ((0 + (k + 1) : Nat) : Int) := i_suc (k := 0 + k) hy (by omega)
      rw [List.append_assoc] at t4
      have t4' : pP 1100 c1 u1 (L ++ zds (fun i => zdj (zdt c V) (Q + i)) 0 (k + 1)) := by
        rw [zds_s, Nat.zero_add]
        exact t4
      exact Or.inl ⟨_, rfl, ⟨k + 1, by omega, c1, u1, y + 1, rfl, hs, t4'⟩, by dsimp only; rw [hs, hy]; omega⟩) ⟨0, Nat.zero_le _, pc, pu, 0, rfl, rfl, by
          show pP 1100 pc pu (L ++ [])
          rw [List.append_nil]
          exact h⟩
  rw [t2] at t1
  exact ⟨pc', pu', t1, t3⟩
theorem T_fixed72 {cn pt : Int32} {dg : Nat → Int32} {c V : Nat} (hE : eR 48 cn dg c V) {Q : Int} (hQ : pt.toInt = Q) (hQ1 : -400 < Q) (hQ2 : Q < 400) {pc ru su bu au uu : Int32} {pu rl sl bl al ul : Nat → Int32} {L : List Int32} (h : pP 1100 pc pu L) {x3 : Int32} {n : Nat} (h1 : x3.toInt = n) (hl : L.length ≤ 10) (hn : n ≤ 60) :
    ∃ pc' pu', f_T_writeFixed_72 pc pu cn pt dg ru rl su sl bu bl au al uu ul x3 = some (pc', pu', cn, pt, dg, ru, rl, su, sl, bu, bl, au, al, uu, ul) ∧ pP 1100 pc' pu' (L ++ zfx (zdt c V) Q n) := by
  have e0 : (0 : Int32).toInt = 0 := rfl
  unfold f_T_writeFixed_72 f_T_writeFixed_98 f_E_pointPlace zfx
  rw [Option.bind_some]
  obtain ⟨pc1, pu1, t1, t2⟩ := T_before hE hQ (by omega) h (by omega)
  rw [t1, Option.bind_some]
  dsimp only
  have hb := zbp_len (zdt c V) Q
  have hm : (L ++ zbp (zdt c V) Q).length ≤ 420 := by rw [List.length_append]; omega
  by_cases q : n = 0
  · rw [if_pos (show x3 ≤ 0 by rw [i_le, h1, e0]; omega), if_pos q, List.nil_append]
    obtain ⟨pc2, pu2, t3, t4⟩ := T_fixed101 (pt := pt) (ru := ru) (su := su) (bu := bu) (au := au) (uu := uu) (rl := rl) (sl := sl) (bl := bl) (al := al) (ul := ul) hE hQ hQ1 hQ2 t2 h1 (by omega) hn
    rw [List.append_assoc] at t4
    exact ⟨pc2, pu2, t3, t4⟩
  · rw [if_neg (show ¬ x3 ≤ 0 by rw [i_le, h1, e0]; omega), if_neg q]
    obtain ⟨pc2, pu2, t3, t4⟩ := P_add t2 (by omega) (x := 46) (by decide) (by decide)
    rw [t3, Option.bind_some]
    dsimp only
    obtain ⟨pc3, pu3, t5, t6⟩ := T_fixed101 (pt := pt) (ru := ru) (su := su) (bu := bu) (au := au) (uu := uu) (rl := rl) (sl := sl) (bl := bl) (al := al) (ul := ul) hE hQ hQ1 hQ2 t4 h1 (by rw [List.length_append, List.length_singleton]; omega) hn
    rw [List.append_assoc, List.append_assoc] at t6
    exact ⟨pc3, pu3, t5, t6⟩
