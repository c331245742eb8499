/-! the shortest digits: the class, to its end -/
/-- the shortest: at k digits, k the least that ends -/
def sK (m b : Nat) (ev : Bool) (E P : Int) (k : Nat) : Prop := 1 ≤ k ∧ k ≤ 17 ∧ sEnd m b ev E (P - k) ∧ ∀ j : Nat, 1 ≤ j → j < k → ¬ sEnd m b ev E (P - j)
theorem sK_ex {m b : Nat} {ev : Bool} {E P : Int} (h : isP m E P) (hm : m < 9007199254740992) (hm0 : 0 < m) (hb : b = 2 ∨ (b = 1 ∧ m = 4503599627370496)) : ∃ k, sK m b ev E P k := by
  obtain ⟨k, k1, k2, k3, k4⟩ := least_k (D := fun j => sEnd m b ev E (P - j)) (n := 17) (sEnd_17 h hm hm0 hb) (by decide)
  exact ⟨k, k1, k2, k3, k4⟩
theorem sK_uniq {m b : Nat} {ev : Bool} {E P : Int} {k l : Nat} (h : sK m b ev E P k) (g : sK m b ev E P l) : k = l := by
  obtain ⟨h1, h2, h3, h4⟩ := h
  obtain ⟨g1, g2, g3, g4⟩ := g
  rcases Nat.lt_or_ge k l with q | q
  · exact absurd h3 (g4 k h1 q)
  · rcases Nat.lt_or_ge l k with z | z
    · exact absurd g3 (h4 l g1 z)
    · omega
/-- the value that is laid -/
noncomputable def sV (m b : Nat) (ev : Bool) (E t : Int) : Nat := @ite _ (sGo m b ev E t) (Classical.propDecidable _) (sF m E t + 1) (sF m E t)
theorem sV_go {m b : Nat} {ev : Bool} {E t : Int} (h : sGo m b ev E t) : sV m b ev E t = sF m E t + 1 := by
  unfold sV
  rw [if_pos h]
theorem sV_st {m b : Nat} {ev : Bool} {E t : Int} (h : ¬ sGo m b ev E t) : sV m b ev E t = sF m E t := by
  unfold sV
  rw [if_neg h]
/-- how many digits it has, and where its point is -/
def sC (k V : Nat) : Nat := if V = 10 ^ k then k + 1 else k
def sP (P : Int) (k V : Nat) : Int := if V = 10 ^ k then P + 1 else P
/-- one digit more, and the ends compared -/
theorem E_short_step {cn pt ru su bu au uu : Int32} {dg rl sl bl al ul : Nat → Int32} {R S B n k m b : Nat} {E P : Int} {ev : Bool} {x3 : Int32} (hm0 : 0 < m) (hP : isP m E P) (hPb1 : -326 ≤ P) (hPb2 : P ≤ 310) (hRm : R = 4 * m * B) (hf : R * vD E P = vN m E P * S) (hS0 : 0 < S) (hB0 : 0 < B) (hn : su.toInt = ((n + 1 : Nat) : Int)) (hz : zlen S = 30 * (n + 1)) (hn42 : n < 42) (hb : b = 1 ∨ b = 2)
    (hE : eR 48 cn dg k (R * 10 ^ k / S)) (hk : k < 17) (hpt : pt.toInt = P) (hNR : nR ru rl (R * 10 ^ k % S)) (hNS : nR su sl S) (hNB : nR bu bl (b * B * 10 ^ k)) (hNA : nR au al (2 * B * 10 ^ k)) (hsmB : b * B * 10 ^ k ≤ S) (hsmA : 2 * B * 10 ^ k ≤ S) (hx3 : x3 = if ev = true then 1 else 0) :
    ∃ ru' rl' bu' bl' au' al' r1 rl1 dd cn1 dg1 fl cn' pt' dg' uu' ul', f_N_multiplyAndAdd bu bl 10 0 = some (bu', bl') ∧ f_N_multiplyAndAdd au al 10 0 = some (au', al') ∧ f_N_multiplyAndAdd ru rl 10 0 = some (r1, rl1) ∧ f_N_divideLeavingRest r1 rl1 su sl = some (dd, ru', rl') ∧ f_E_append cn pt dg dd = some (cn1, dg1) ∧ f_E_endShortest cn1 pt dg1 ru' rl' su sl bu' bl' au' al' uu ul x3 = some (fl, cn', pt', dg', uu', ul') ∧ nR ru' rl' (R * 10 ^ (k + 1) % S) ∧ nR bu' bl' (b * B * 10 ^ (k + 1)) ∧ nR au' al' (2 * B * 10 ^ (k + 1)) ∧ ((sEnd m b ev E (P - (k + 1 : Nat)) ∧ fl = 1 ∧ eR 48 cn' dg' (sC (k + 1) (sV m b ev E (P - (k + 1 : Nat)))) (sV m b ev E (P - (k + 1 : Nat))) ∧ pt'.toInt = sP P (k + 1) (sV m b ev E (P - (k + 1 : Nat)))) ∨ (¬ sEnd m b ev E (P - (k + 1 : Nat)) ∧ fl = 0 ∧ eR 48 cn' dg' (k + 1) (R * 10 ^ (k + 1) / S) ∧ pt'.toInt = P ∧ b * B * 10 ^ (k + 1) ≤ S ∧ 2 * B * 10 ^ (k + 1) ≤ S)) := by
  have fit : ∀ {v : Nat} (j : Nat), v ≤ S → j ≤ 30 → v * 2 ^ j < 1073741824 ^ 48 := by
    intro v j hv hj
    have h1 : v * 2 ^ j ≤ S * 2 ^ j := Nat.mul_le_mul_right _ hv
    exact Nat.lt_of_le_of_lt h1 (n_fits (k := 30 * (n + 1)) (by omega) (by omega))
  have ten : ∀ {v : Nat}, v ≤ S → v * 10 + 0 < 1073741824 ^ 48 := by
    intro v hv
    have h4 := fit 4 hv (by decide)
    have e16 : (2 : Nat) ^ 4 = 16 := rfl
    rw [e16] at h4
    omega
  have hml : R * 10 ^ k % S < S := Nat.mod_lt _ hS0
  obtain ⟨g1, g2, g3⟩ := dig_next (R := R) (k := k) hS0
  obtain ⟨bu', bl', a1, a2⟩ := N_mulAdd hNB (x1 := 10) (x2 := 0) (f := 10) (a := 0) rfl rfl (by decide) (by decide) (by decide) (ten hsmB)
  obtain ⟨au', al', a3, a4⟩ := N_mulAdd hNA (x1 := 10) (x2 := 0) (f := 10) (a := 0) rfl rfl (by decide) (by decide) (by decide) (ten hsmA)
  obtain ⟨r1, rl1, a5, a6⟩ := N_mulAdd hNR (x1 := 10) (x2 := 0) (f := 10) (a := 0) rfl rfl (by decide) (by decide) (by decide) (ten (Nat.le_of_lt hml))
  rw [Nat.add_zero] at a2 a4 a6
  have hlt : R * 10 ^ k % S * 10 < S * 1048576 := by
    have : R * 10 ^ k % S * 10 < S * 10 := (Nat.mul_lt_mul_right (by decide)).mpr hml
    omega
  obtain ⟨dd, ru', rl', a7, a8, a9⟩ := N_divRest a6 hNS hn hz hlt
  obtain ⟨cn1, dg1, a10, a11⟩ := E_append (pt := pt) hE (by omega) a8 g3
  rw [g1] at a11
  rw [g2] at a9
  have eB : b * B * 10 ^ k * 10 = b * B * 10 ^ (k + 1) := by rw [Nat.pow_succ, Nat.mul_assoc (b * B)]
  have eA : 2 * B * 10 ^ k * 10 = 2 * B * 10 ^ (k + 1) := by rw [Nat.pow_succ, Nat.mul_assoc (2 * B)]
  have hb10B : b * B * 10 ^ (k + 1) ≤ 10 * S := by rw [← eB]; omega
  have hb10A : 2 * B * 10 ^ (k + 1) ≤ 10 * S := by rw [← eA]; omega
  rw [eB] at a2
  rw [eA] at a4
  -- the unit, and what is compared
  have hU := key_SU hm0 hf hRm (k + 1)
  have hU0 : 0 < B * 10 ^ (k + 1) := Nat.mul_pos hB0 (p10p _)
  have hq := vU_pos E (P - ((k + 1 : Nat) : Int))
  have hVF : R * 10 ^ (k + 1) / S = sF m E (P - ((k + 1 : Nat) : Int)) := feq_div hS0 (vD_pos _ _) (feq_pow hf (k + 1))
  have hdm := Nat.div_add_mod (R * 10 ^ (k + 1)) S
  have hml1 : R * 10 ^ (k + 1) % S < S := Nat.mod_lt _ hS0
  have eX : R * 10 ^ (k + 1) = 4 * m * (B * 10 ^ (k + 1)) := by rw [hRm, Nat.mul_assoc]
  have eBl : b * B * 10 ^ (k + 1) = b * (B * 10 ^ (k + 1)) := Nat.mul_assoc _ _ _
  have eAb : 2 * B * 10 ^ (k + 1) = 2 * (B * 10 ^ (k + 1)) := Nat.mul_assoc _ _ _
  have hfitA : R * 10 ^ (k + 1) % S + 2 * B * 10 ^ (k + 1) < 1073741824 ^ 48 := by
    have h4 := fit 4 (Nat.le_refl S) (by decide)
    have e16 : (2 : Nat) ^ 4 = 16 := rfl
    rw [e16] at h4
    omega
  have hfitR : R * 10 ^ (k + 1) % S + R * 10 ^ (k + 1) % S < 1073741824 ^ 48 := by
    have h4 := fit 4 (Nat.le_refl S) (by decide)
    have e16 : (2 : Nat) ^ 4 = 16 := rfl
    rw [e16] at h4
    omega
  obtain ⟨c1, c2, c3⟩ := cmpC' hU0 hq hU (R * 10 ^ (k + 1) / S) (4 * m - b)
  obtain ⟨d1, d2, d3⟩ := cmpC' hU0 hq hU (R * 10 ^ (k + 1) / S + 1) (4 * m + 2)
  obtain ⟨f1, f2, f3⟩ := cmpC' hU0 hq hU (2 * (R * 10 ^ (k + 1) / S) + 1) (8 * m)
  have eW1 : (4 * m - b) * (B * 10 ^ (k + 1)) = 4 * m * (B * 10 ^ (k + 1)) - b * (B * 10 ^ (k + 1)) := Nat.sub_mul _ _ _
  have eW2 : (4 * m + 2) * (B * 10 ^ (k + 1)) = 4 * m * (B * 10 ^ (k + 1)) + 2 * (B * 10 ^ (k + 1)) := Nat.add_mul _ _ _
  have eW3 : 8 * m * (B * 10 ^ (k + 1)) = 2 * (4 * m * (B * 10 ^ (k + 1))) := by rw [← Nat.mul_assoc 2, ← Nat.mul_assoc 2 4 m]
  have hbm : b * (B * 10 ^ (k + 1)) ≤ 4 * m * (B * 10 ^ (k + 1)) := Nat.mul_le_mul_right _ (by omega)
  have eV2 : (R * 10 ^ (k + 1) / S + 1) * S = S * (R * 10 ^ (k + 1) / S) + S := by rw [Nat.add_mul, Nat.one_mul, Nat.mul_comm]
  have eV3 : (2 * (R * 10 ^ (k + 1) / S) + 1) * S = 2 * (S * (R * 10 ^ (k + 1) / S)) + S := by rw [Nat.add_mul, Nat.one_mul, Nat.mul_assoc, Nat.mul_comm (R * 10 ^ (k + 1) / S) S]
  have eV1 : R * 10 ^ (k + 1) / S * S = S * (R * 10 ^ (k + 1) / S) := Nat.mul_comm _ _
  rw [eW1, eV1] at c1 c2 c3
  rw [eW2, eV2] at d1 d2 d3
  rw [eW3, eV3] at f1 f2 f3
  rw [hVF] at c1 c2 c3 d1 d2 d3 f1 f2 f3 a11
  have hstI : sSt m b ev E (P - ((k + 1 : Nat) : Int)) ↔ (R * 10 ^ (k + 1) % S < b * B * 10 ^ (k + 1) ∨ (ev = true ∧ R * 10 ^ (k + 1) % S = b * B * 10 ^ (k + 1))) := by
    unfold sSt
    rw [← c3, eq_comm (a := (4 * m - b) * vN 1 E (P - ((k + 1 : Nat) : Int))), ← c2, eBl]
    rw [eX] at hdm
    rw [← hVF, eX]
    generalize 4 * m * (B * 10 ^ (k + 1)) % S = ρ at *
    generalize S * (4 * m * (B * 10 ^ (k + 1)) / S) = σ at *
    generalize 4 * m * (B * 10 ^ (k + 1)) = τ at *
    generalize b * (B * 10 ^ (k + 1)) = β at *
    clear c1 c2 c3 d1 d2 d3 f1 f2 f3
    constructor
    · rintro (w | ⟨w1, w2⟩)
      · exact Or.inl (by omega)
      · exact Or.inr ⟨w1, by omega⟩
    · rintro (w | ⟨w1, w2⟩)
      · exact Or.inl (by omega)
      · exact Or.inr ⟨w1, by omega⟩
  have hupI : sUp m ev E (P - ((k + 1 : Nat) : Int)) ↔ (S < R * 10 ^ (k + 1) % S + 2 * B * 10 ^ (k + 1) ∨ (ev = true ∧ R * 10 ^ (k + 1) % S + 2 * B * 10 ^ (k + 1) = S)) := by
    unfold sUp
    rw [← d1, ← d2, eAb]
    rw [eX] at hdm
    rw [← hVF, eX]
    generalize 4 * m * (B * 10 ^ (k + 1)) % S = ρ at *
    generalize S * (4 * m * (B * 10 ^ (k + 1)) / S) = σ at *
    generalize 4 * m * (B * 10 ^ (k + 1)) = τ at *
    generalize 2 * (B * 10 ^ (k + 1)) = β at *
    clear c1 c2 c3 d1 d2 d3 f1 f2 f3
    constructor
    · rintro (w | ⟨w1, w2⟩)
      · exact Or.inl (by omega)
      · exact Or.inr ⟨w1, by omega⟩
    · rintro (w | ⟨w1, w2⟩)
      · exact Or.inl (by omega)
      · exact Or.inr ⟨w1, by omega⟩
  have hmiI : sMi m E (P - ((k + 1 : Nat) : Int)) ↔ (S < R * 10 ^ (k + 1) % S + R * 10 ^ (k + 1) % S ∨ (R * 10 ^ (k + 1) % S + R * 10 ^ (k + 1) % S = S ∧ sF m E (P - ((k + 1 : Nat) : Int)) % 2 = 1)) := by
    unfold sMi
    rw [← f1, ← f2]
    rw [eX] at hdm
    rw [← hVF, eX]
    generalize 4 * m * (B * 10 ^ (k + 1)) % S = ρ at *
    generalize S * (4 * m * (B * 10 ^ (k + 1)) / S) = σ at *
    generalize 4 * m * (B * 10 ^ (k + 1)) / S = ν at *
    generalize 4 * m * (B * 10 ^ (k + 1)) = τ at *
    clear c1 c2 c3 d1 d2 d3 f1 f2 f3
    constructor
    · rintro (w | ⟨w1, w2⟩)
      · exact Or.inl (by omega)
      · exact Or.inr ⟨by omega, w2⟩
    · rintro (w | ⟨w1, w2⟩)
      · exact Or.inl (by omega)
      · exact Or.inr ⟨by omega, w2⟩
  obtain ⟨cn', pt', dg', uu', ul', u1, u2, u3⟩ := @E_endShortest cn1 pt ru' su bu' au' uu dg1 rl' sl bl' al' ul (k + 1) _ _ S _ _ P ev x3 a11 (by omega) (by omega) hpt (by omega) (by omega) a9 hNS a2 a4 hfitR hfitA hx3 (sSt m b ev E (P - ((k + 1 : Nat) : Int))) (sUp m ev E (P - ((k + 1 : Nat) : Int))) (sMi m E (P - ((k + 1 : Nat) : Int))) (Classical.propDecidable _) (Classical.propDecidable _) (Classical.propDecidable _) hstI hupI hmiI
  refine ⟨ru', rl', bu', bl', au', al', r1, rl1, dd, cn1, dg1, _, cn', pt', dg', uu', ul', a1, a3, a5, a7, a10, u1, a9, a2, a4, ?_⟩
  by_cases hend : sEnd m b ev E (P - ((k + 1 : Nat) : Int))
  · refine Or.inl ⟨hend, ?_, ?_, ?_⟩
    · have hend' : sSt m b ev E (P - ((k + 1 : Nat) : Int)) ∨ sUp m ev E (P - ((k + 1 : Nat) : Int)) := hend
      unfold b1
      rw [if_pos hend']
    · by_cases hgo : sGo m b ev E (P - ((k + 1 : Nat) : Int))
      · rw [sV_go hgo]
        unfold sC
        unfold sGo at hgo
        rw [if_pos hgo] at u2
        by_cases c : sF m E (P - ((k + 1 : Nat) : Int)) + 1 = 10 ^ (k + 1)
        · rw [if_pos ⟨hgo, c⟩] at u2
          rw [if_pos c]
          exact u2
        · rw [if_neg (fun w => c w.2)] at u2
          rw [if_neg c]
          exact u2
      · rw [sV_st hgo]
        unfold sC
        unfold sGo at hgo
        rw [if_neg hgo, if_neg (fun w => hgo w.1)] at u2
        have hlt2 := (sF_rng hP (w := k + 1) (by omega)).2
        rw [if_neg (by omega)]
        exact u2
    · by_cases hgo : sGo m b ev E (P - ((k + 1 : Nat) : Int))
      · rw [sV_go hgo]
        unfold sP
        unfold sGo at hgo
        by_cases c : sF m E (P - ((k + 1 : Nat) : Int)) + 1 = 10 ^ (k + 1)
        · rw [if_pos ⟨hgo, c⟩] at u3
          rw [if_pos c]
          exact u3
        · rw [if_neg (fun w => c w.2)] at u3
          rw [if_neg c]
          exact u3
      · rw [sV_st hgo]
        unfold sP
        unfold sGo at hgo
        rw [if_neg (fun w => hgo w.1)] at u3
        have hlt2 := (sF_rng hP (w := k + 1) (by omega)).2
        rw [if_neg (by omega)]
        exact u3
  · have hns : ¬ sSt m b ev E (P - ((k + 1 : Nat) : Int)) := fun w => hend (Or.inl w)
    have hnu : ¬ sUp m ev E (P - ((k + 1 : Nat) : Int)) := fun w => hend (Or.inr w)
    refine Or.inr ⟨hend, ?_, ?_, ?_, ?_, ?_⟩
    · have hend' : ¬ (sSt m b ev E (P - ((k + 1 : Nat) : Int)) ∨ sUp m ev E (P - ((k + 1 : Nat) : Int))) := hend
      unfold b1
      rw [if_neg hend']
    · have n1 : ¬ (sUp m ev E (P - ((k + 1 : Nat) : Int)) ∧ (sSt m b ev E (P - ((k + 1 : Nat) : Int)) → sMi m E (P - ((k + 1 : Nat) : Int)))) := fun w => hnu w.1
      rw [if_neg n1, if_neg (fun w => n1 w.1)] at u2
      rw [hVF]
      exact u2
    · have n1 : ¬ (sUp m ev E (P - ((k + 1 : Nat) : Int)) ∧ (sSt m b ev E (P - ((k + 1 : Nat) : Int)) → sMi m E (P - ((k + 1 : Nat) : Int)))) := fun w => hnu w.1
      rw [if_neg (fun w => n1 w.1)] at u3
      exact u3
    · have h1 : ¬ R * 10 ^ (k + 1) % S < b * B * 10 ^ (k + 1) := fun w => hns (hstI.mpr (Or.inl w))
      omega
    · have h1 : ¬ S < R * 10 ^ (k + 1) % S + 2 * B * 10 ^ (k + 1) := fun w => hnu (hupI.mpr (Or.inl w))
      omega
