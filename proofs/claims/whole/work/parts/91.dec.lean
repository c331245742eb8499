/-! decimal texts: digits -/
def zdg (c : Int32) : Prop := 48 ≤ c.toInt ∧ c.toInt ≤ 57
theorem dg_M1 {c : Int32} (h : zdg c) : f_M_isDigit c = some 1 := by
  unfold f_M_isDigit
  have e48 : (48 : Int32).toInt = 48 := rfl
  have e57 : (57 : Int32).toInt = 57 := rfl
  rw [if_neg (show ¬ c < 48 by rw [i_lt, e48]; have := h.1; omega), if_neg (show ¬ 57 < c by rw [i_lt, e57]; have := h.2; omega)]
theorem dg_M0 {c : Int32} (h : ¬ zdg c) : f_M_isDigit c = some 0 := by
  unfold f_M_isDigit
  have e48 : (48 : Int32).toInt = 48 := rfl
  have e57 : (57 : Int32).toInt = 57 := rfl
  by_cases h1 : c < 48
  · rw [if_pos h1]
  · rw [if_neg h1]
    by_cases h2 : 57 < c
    · rw [if_pos h2]
    · rw [i_lt, e48] at h1
      rw [i_lt, e57] at h2
      exact absurd ⟨by omega, by omega⟩ h
theorem dg_R1 {c : Int32} (h : zdg c) : f_R_isDigit c = some 1 := dg_M1 h
theorem dg_R0 {c : Int32} (h : ¬ zdg c) : f_R_isDigit c = some 0 := dg_M0 h
def zdv (c : Int32) : Nat := (c.toInt - 48).toNat
theorem zdv_9 {c : Int32} (h : zdg c) : zdv c ≤ 9 := by
  unfold zdv
  have h1 := h.1
  have h2 := h.2
  omega
theorem zdv_i {c : Int32} (h : zdg c) : (c - 48).toInt = (zdv c : Int) := by
  have h1 := h.1
  have h2 := h.2
  have e48 : (48 : Int32).toInt = 48 := rfl
  unfold zdv
  rw [i_sub (by rw [e48]; omega) (by rw [e48]; omega), e48]
  omega
/-- amount, digits that count, power: after one more digit -/
def dst (beh : Bool) (dg : Nat) (s : Nat × Nat × Int) : Nat × Nat × Int :=
  if 0 < s.2.1 ∨ dg ≠ 0 then (if s.2.1 = 20 then (s.1, s.2.1, if beh = true then s.2.2 else s.2.2 + 1) else (10 * s.1 + dg, s.2.1 + 1, if beh = true then s.2.2 - 1 else s.2.2)) else (s.1, s.2.1, if beh = true then s.2.2 - 1 else s.2.2)
def dF (beh : Bool) (tx : Nat → Int32) (f : Nat) (s : Nat × Nat × Int) : Nat → Nat × Nat × Int
  | 0 => s
  | k + 1 => dst beh (zdv (tx (f + k))) (dF beh tx f s k)
def dI (n : Nat) (s : Nat × Nat × Int) : Prop := s.2.1 ≤ 20 ∧ s.1 < 10 ^ s.2.1 ∧ (0 < s.2.1 → 10 ^ (s.2.1 - 1) ≤ s.1) ∧ -(n : Int) ≤ s.2.2 ∧ s.2.2 ≤ n
theorem dI_0 : dI 0 (0, 0, 0) := ⟨by decide, by decide, fun h => absurd h (Nat.lt_irrefl _), by decide, by decide⟩
theorem dst_20 {beh : Bool} {dg A : Nat} {p : Int} : dst beh dg (A, 20, p) = (A, 20, if beh = true then p else p + 1) := by
  unfold dst
  rw [if_pos (Or.inl (show 0 < 20 by decide)), if_pos rfl]
theorem dst_c {beh : Bool} {dg A c : Nat} {p : Int} (h1 : 0 < c ∨ dg ≠ 0) (h2 : c ≠ 20) : dst beh dg (A, c, p) = (10 * A + dg, c + 1, if beh = true then p - 1 else p) := by
  unfold dst
  rw [if_pos h1, if_neg h2]
theorem dst_z {beh : Bool} {A : Nat} {p : Int} : dst beh 0 (A, 0, p) = (A, 0, if beh = true then p - 1 else p) := by
  unfold dst
  rw [if_neg (by simp)]
theorem dI_st {n : Nat} {s : Nat × Nat × Int} {beh : Bool} {dg : Nat} (h : dI n s) (hd : dg ≤ 9) : dI (n + 1) (dst beh dg s) := by
  obtain ⟨A, c, p⟩ := s
  obtain ⟨h1, h2, h3, h4, h5⟩ := h
  dsimp only at h1 h2 h3 h4 h5
  by_cases c1 : 0 < c ∨ dg ≠ 0
  · by_cases c2 : c = 20
    · subst c2
      rw [dst_20]
      refine ⟨h1, h2, h3, ?_, ?_⟩ <;> dsimp only <;> split <;> omega
    · rw [dst_c c1 c2]
      refine ⟨by dsimp only; omega, ?_, fun _ => ?_, ?_, ?_⟩
      · dsimp only
        rw [Nat.pow_succ]
        generalize 10 ^ c = P at h2 ⊢
        omega
      · dsimp only
        rw [Nat.add_sub_cancel]
        rcases Nat.eq_zero_or_pos c with q | q
        · subst q
          rw [Nat.pow_zero] at h2 ⊢
          omega
        · have h6 := h3 q
          have e : 10 ^ c = 10 * 10 ^ (c - 1) := by rw [← Nat.pow_succ', show (c - 1).succ = c by omega]
          rw [e]
          generalize 10 ^ (c - 1) = P at h6 ⊢
          omega
      · dsimp only
        split <;> omega
      · dsimp only
        split <;> omega
  · have c3 : c = 0 := by omega
    have c4 : dg = 0 := by omega
    subst c3 c4
    rw [dst_z]
    refine ⟨h1, h2, h3, ?_, ?_⟩ <;> dsimp only <;> split <;> omega
theorem dI_F {n : Nat} {s : Nat × Nat × Int} {beh : Bool} {tx : Nat → Int32} {f : Nat} (h : dI n s) : ∀ {k : Nat}, (∀ i, i < k → zdg (tx (f + i))) → dI (n + k) (dF beh tx f s k)
  | 0, _ => h
  | k + 1, hk => dI_st (dI_F h (fun i hi => hk i (by omega))) (zdv_9 (hk k (by omega)))
theorem R_dig76 (c1 c2 c3 : Int32) {cn pw nu x2 : Int32} {nl : Nat → Int32} {beh : Bool} {p : Int} (hpw : pw.toInt = p) (hp1 : -100000 < p) (hp2 : p < 100000) (hx2 : x2 = if beh = true then 1 else 0) : ∃ pw', f_R_takeDigit_76 c1 c2 c3 cn pw nu nl x2 = some (cn, pw', nu, nl) ∧ pw'.toInt = (if beh = true then p - 1 else p) := by
  unfold f_R_takeDigit_76
  have e1 : (1 : Int32).toInt = 1 := rfl
  subst hx2
  cases beh
  · rw [if_pos (by decide)]
    exact ⟨pw, rfl, hpw⟩
  · rw [if_neg (by decide)]
    refine ⟨_, rfl, ?_⟩
    rw [if_pos rfl, i_sub (by rw [hpw, e1]; omega) (by rw [hpw, e1]; omega), hpw, e1]
theorem R_takeDigit (c1 c2 c3 : Int32) {cn pw nu x1 x2 : Int32} {nl : Nat → Int32} {s : Nat × Nat × Int} {beh : Bool} {n dg : Nat} (hn : nR nu nl s.1) (hcn : cn.toInt = (s.2.1 : Int)) (hpw : pw.toInt = s.2.2) (hI : dI n s) (hn6 : n ≤ 10000) (hx1 : x1.toInt = dg) (hd9 : dg ≤ 9) (hx2 : x2 = if beh = true then 1 else 0) :
    ∃ cn' pw' nu' nl', f_R_takeDigit c1 c2 c3 cn pw nu nl x1 x2 = some (cn', pw', nu', nl') ∧ nR nu' nl' (dst beh dg s).1 ∧ cn'.toInt = ((dst beh dg s).2.1 : Int) ∧ pw'.toInt = (dst beh dg s).2.2 := by
  obtain ⟨A, c, p⟩ := s
  obtain ⟨h1, h2, h3, h4, h5⟩ := hI
  dsimp only at hn hcn hpw h1 h2 h3 h4 h5
  have e0 : (0 : Int32).toInt = 0 := rfl
  have e20 : (20 : Int32).toInt = 20 := rfl
  have e1 : (1 : Int32).toInt = 1 := rfl
  have c0 : 0 < cn ↔ 0 < c := by rw [i_lt, e0, hcn]; omega
  have x0 : x1 = 0 ↔ dg = 0 := by rw [i_eq, e0, hx1]; omega
  have c20 : cn = 20 ↔ c = 20 := by rw [i_eq, e20, hcn]; omega
  have hAll : (0 < c ∨ dg ≠ 0) → ∃ cn' pw' nu' nl', f_R_takeDigit_16 c1 c2 c3 cn pw nu nl x1 x2 1 = some (cn', pw', nu', nl') ∧ nR nu' nl' (dst beh dg (A, c, p)).1 ∧ cn'.toInt = ((dst beh dg (A, c, p)).2.1 : Int) ∧ pw'.toInt = (dst beh dg (A, c, p)).2.2 := by
    intro hc
    unfold f_R_takeDigit_16
    rw [if_neg i10]
    by_cases q : c = 20
    · subst q
      rw [if_pos (c20.mpr rfl), dst_20]
      dsimp only
      subst hx2
      cases beh
      · rw [if_pos (by decide)]
        refine ⟨_, _, _, _, rfl, hn, hcn, ?_⟩
        rw [if_neg (by decide), i_add (by rw [hpw, e1]; omega) (by rw [hpw, e1]; omega), hpw, e1]
      · rw [if_neg (by decide)]
        exact ⟨_, _, _, _, rfl, hn, hcn, by rw [if_pos rfl, hpw]⟩
    · rw [if_neg (fun w => q (c20.mp w)), dst_c hc q]
      unfold f_R_takeDigit_52
      have hb : A * 10 + dg < 1073741824 ^ 48 := by
        have a1 : 10 ^ c ≤ 10 ^ 20 := p10le (by omega)
        have a2 : 10 ^ 21 < 1073741824 ^ 48 := by decide +kernel
        have a3 : (10 : Nat) ^ 21 = 10 * 10 ^ 20 := by decide
        generalize 1073741824 ^ 48 = Z at a2 ⊢
        generalize (10 : Nat) ^ 20 = Y at a1 a3
        generalize (10 : Nat) ^ 21 = X at a2 a3
        generalize (10 : Nat) ^ c = W at a1 h2
        omega
      obtain ⟨u', l', t1, t2⟩ := N_mulAdd hn (x1 := 10) (x2 := x1) (f := 10) rfl hx1 (by decide) (by decide) (by omega) hb
      obtain ⟨pw', v1, v2⟩ := R_dig76 c1 c2 c3 (cn := cn + 1) (nu := u') (nl := l') (beh := beh) hpw (by omega) (by omega) hx2
      rw [if_neg i10, t1, Option.bind_some]
      dsimp only
      rw [v1]
      refine ⟨_, _, _, _, rfl, by rw [Nat.mul_comm]; exact t2, i_suc hcn (by omega), v2⟩
  unfold f_R_takeDigit f_R_takeDigit_11
  by_cases q : 0 < c
  · rw [if_pos (c0.mpr q)]
    exact hAll (Or.inl q)
  · rw [if_neg (fun w => q (c0.mp w))]
    by_cases q2 : dg = 0
    · have hc0 : c = 0 := by omega
      subst hc0 q2
      rw [if_pos (x0.mpr rfl), dst_z]
      unfold f_R_takeDigit_16 f_R_takeDigit_52
      obtain ⟨pw', v1, v2⟩ := R_dig76 c1 c2 c3 (cn := cn) (nu := nu) (nl := nl) (beh := beh) hpw (by omega) (by omega) hx2
      rw [if_pos rfl, if_pos rfl, v1]
      exact ⟨_, _, _, _, rfl, hn, hcn, v2⟩
    · rw [if_neg (fun w => q2 (x0.mp w))]
      exact hAll (Or.inr q2)
/-- a run of digits from f on -/
def zrn (tx : Nat → Int32) (e f a : Nat) : Prop := (∀ i, i < a → zdg (tx (f + i))) ∧ f + a ≤ e ∧ (f + a < e → ¬ zdg (tx (f + a)))
theorem R_takeDigits (c1 : Int32) {tx : Nat → Int32} {en : Int32} {e : Nat} (he : en.toInt = e) (h600 : e ≤ 600) {at' cn pw nu x1 : Int32} {nl : Nat → Int32} {s : Nat × Nat × Int} {beh : Bool} {n f : Nat} (hat : at'.toInt = f) (hfe : f ≤ e) (hn : nR nu nl s.1) (hcn : cn.toInt = (s.2.1 : Int)) (hpw : pw.toInt = s.2.2) (hI : dI n s) (hn6 : n ≤ 1000) (hx1 : x1 = if beh = true then 1 else 0) :
    ∃ a d at2 cn2 pw2 nu2 nl2, zrn tx e f a ∧ f_R_takeDigits c1 at' en cn pw tx nu nl x1 = some (d, at2, cn2, pw2, nu2, nl2) ∧ d.toInt = (a : Int) ∧ at2.toInt = ((f + a : Nat) : Int) ∧ nR nu2 nl2 (dF beh tx f s a).1 ∧ cn2.toInt = ((dF beh tx f s a).2.1 : Int) ∧ pw2.toInt = (dF beh tx f s a).2.2 := by
  unfold f_R_takeDigits f_R_takeDigits_5
  obtain ⟨⟨d, at2, cn2, pw2, nu2, nl2⟩, h1, a, h2⟩ := zrun_inv (step := f_R_takeDigits_5_step c1 en tx x1 at') (x := (at', cn, pw, nu, nl)) (fun z => ∃ k : Nat, (∀ i, i < k → zdg (tx (f + i))) ∧ f + k ≤ e ∧ z.1.toInt = ((f + k : Nat) : Int) ∧ nR z.2.2.2.1 z.2.2.2.2 (dF beh tx f s k).1 ∧ z.2.1.toInt = ((dF beh tx f s k).2.1 : Int) ∧ z.2.2.1.toInt = (dF beh tx f s k).2.2) (fun z => (e - z.1.toInt).toNat)
    (fun y => ∃ a : Nat, zrn tx e f a ∧ y.1.toInt = (a : Int) ∧ y.2.1.toInt = ((f + a : Nat) : Int) ∧ nR y.2.2.2.2.1 y.2.2.2.2.2 (dF beh tx f s a).1 ∧ y.2.2.1.toInt = ((dF beh tx f s a).2.1 : Int) ∧ y.2.2.2.1.toInt = (dF beh tx f s a).2.2) (by
      rintro ⟨at2, cn2, pw2, nu2, nl2⟩ ⟨k, hk, hke, ha, hR, hc, hp⟩
      dsimp only at ha hR hc hp
      unfold f_R_takeDigits_5_step f_R_takeDigits_5_body f_R_takeDigits_61
      dsimp only
      have hd : (at2 - at').toInt = (k : Int) := by
        rw [i_sub (by rw [ha, hat]; omega) (by rw [ha, hat]; omega), ha, hat]
        omega
      have fin : zrn tx e f k → ∃ y, some (at2 - at', at2, cn2, pw2, nu2, nl2) = some y ∧ ∃ a : Nat, zrn tx e f a ∧ y.1.toInt = (a : Int) ∧ y.2.1.toInt = ((f + a : Nat) : Int) ∧ nR y.2.2.2.2.1 y.2.2.2.2.2 (dF beh tx f s a).1 ∧ y.2.2.1.toInt = ((dF beh tx f s a).2.1 : Int) ∧ y.2.2.2.1.toInt = (dF beh tx f s a).2.2 := fun h => ⟨_, rfl, k, h, hd, ha, hR, hc, hp⟩
      clear hd
      by_cases ck : f + k = e
      · rw [if_pos (show en ≤ at2 by rw [i_le, he, ha]; omega)]
        obtain ⟨y, y1, y2⟩ := fin ⟨hk, hke, fun h => by omega⟩
        rw [y1]
        exact Or.inr ⟨y, rfl, y2⟩
      · have hz : zin at2 600 := ⟨by omega, by omega⟩
        have hcl : at2.toNatClampNeg = f + k := by rw [i_cl, ha, Int.toNat_natCast]
        rw [if_neg (show ¬ en ≤ at2 by rw [i_le, he, ha]; omega), if_pos hz, hcl]
        by_cases cd : zdg (tx (f + k))
        · rw [dg_R1 cd, Option.bind_some, if_neg i10, if_pos hz]
          have hI2 := dI_F (beh := beh) hI hk
          obtain ⟨cn3, pw3, nu3, nl3, t1, t2, t3, t4⟩ := R_takeDigit c1 at2 en hR hc hp hI2 (by omega) (zdv_i cd) (zdv_9 cd) hx1
          rw [t1, Option.bind_some]
          dsimp only
          have hlt : f + k < e := by omega
          have hs : (at2 + 1).toInt = ((f + (k + 1) : Nat) : Int) := i_suc (k := f + k) ha (by omega)
          refine Or.inl ⟨_, rfl, ⟨k + 1, fun i hi => ?_, hlt, hs, t2, t3, t4⟩, ?_⟩
          · by_cases ci : i = k
            · subst ci; exact cd
            · exact hk i (by omega)
          · dsimp only
            rw [hs]
            (try rw [ha])
            clear hs ha
            omega
        · rw [dg_R0 cd, Option.bind_some, if_pos rfl]
          obtain ⟨y, y1, y2⟩ := fin ⟨hk, hke, fun _ => cd⟩
          rw [y1]
          exact Or.inr ⟨y, rfl, y2⟩) ⟨0, fun i hi => absurd hi (Nat.not_lt_zero _), hfe, hat, hn, hcn, hpw⟩
  exact ⟨a, d, at2, cn2, pw2, nu2, nl2, h2.1, h1, h2.2.1, h2.2.2.1, h2.2.2.2.1, h2.2.2.2.2.1, h2.2.2.2.2.2⟩
