/-! read: class and reference -/
def zbl (c : Int32) : Prop := f_M_isBlank c = some 1
theorem bl_R1 {c : Int32} (h : zbl c) : f_R_isBlank c = some 1 := by
  obtain ⟨d, h1, h2, _⟩ := same_blank c
  unfold zbl at h
  rw [h1, ← h2, h]
theorem bl_M0 {c : Int32} (h : ¬ zbl c) : f_M_isBlank c = some 0 := by
  obtain ⟨d, h1, h2, h3⟩ := same_blank c
  rcases h3 with q | q
  · rw [h2, q]
  · exact absurd (by unfold zbl; rw [h2, q]) h
theorem bl_R0 {c : Int32} (h : ¬ zbl c) : f_R_isBlank c = some 0 := by
  obtain ⟨d, h1, h2, _⟩ := same_blank c
  rw [h1, ← h2, bl_M0 h]
/-- the text without blanks around it -/
def zTr (tx : Nat → Int32) (n F E : Nat) : Prop := F ≤ E ∧ E ≤ n ∧ (∀ i, i < F → zbl (tx i)) ∧ (F < n → ¬ zbl (tx F)) ∧ (∀ i, E ≤ i → i < n → zbl (tx i)) ∧ (F < E → ¬ zbl (tx (E - 1))) ∧ (F = E → F = n)
theorem R_bl52 (c1 c4 c5 : Int32) {tx : Nat → Int32} {at' en : Int32} {n F : Nat} (hn : n ≤ 600) (hat : at'.toInt = F) (hF : F ≤ n) (hen : en.toInt = n) (hpre : ∀ i, i < F → zbl (tx i)) (hst : F < n → ¬ zbl (tx F)) : ∃ E at2 en2, f_R_takeBlanksOff_52 c1 at' en c4 c5 tx = some (at2, en2) ∧ zTr tx n F E ∧ at2.toInt = (F : Int) ∧ en2.toInt = (E : Int) := by
  have e1 : (1 : Int32).toInt = 1 := rfl
  unfold f_R_takeBlanksOff_52
  obtain ⟨⟨at2, en2⟩, h1, E, h2⟩ := zrun_inv (step := f_R_takeBlanksOff_52_step c1 c4 c5 tx) (x := (at', en)) (fun z => z.1 = at' ∧ ∃ w : Nat, F ≤ w ∧ w ≤ n ∧ z.2.toInt = (w : Int) ∧ (∀ i, w ≤ i → i < n → zbl (tx i))) (fun z => z.2.toInt.toNat) (fun y => ∃ E : Nat, zTr tx n F E ∧ y.1.toInt = (F : Int) ∧ y.2.toInt = (E : Int)) (by
    rintro ⟨a, b⟩ ⟨ha, w, hw1, hw2, hb, hbl⟩
    dsimp only at ha hb
    subst ha
    unfold f_R_takeBlanksOff_52_step f_R_takeBlanksOff_52_body
    dsimp only
    by_cases cw : w = F
    · rw [if_pos (show b ≤ a by rw [i_le, hb, hat]; omega)]
      refine Or.inr ⟨_, rfl, w, ⟨hw1, hw2, hpre, hst, hbl, fun h => by omega, fun _ => ?_⟩, hat, hb⟩
      rcases Nat.lt_or_ge F n with q | q
      · exact absurd (hbl F (by omega) q) (hst q)
      · omega
    · obtain ⟨v, rfl⟩ : ∃ v, w = v + 1 := ⟨w - 1, by omega⟩
      have hmu : ((v : Int)).toNat < (((v + 1 : Nat) : Int)).toNat := by omega
      have hv : (b - 1).toInt = (v : Int) := by
        rw [i_sub (by rw [hb, e1]; omega) (by rw [hb, e1]; omega), hb, e1]
        omega
      rw [if_neg (show ¬ b ≤ a by rw [i_le, hb, hat]; clear hv; omega), if_pos (show zin (b - 1) 600 by clear hb; exact ⟨by omega, by omega⟩), i_cl, hv, Int.toNat_natCast]
      by_cases cb : zbl (tx v)
      · rw [bl_R1 cb, Option.bind_some, if_neg i10]
        refine Or.inl ⟨_, rfl, ⟨rfl, v, by omega, by omega, hv, fun i hi hi2 => ?_⟩, by dsimp only; rw [hv, hb]; exact hmu⟩
        by_cases ci : i = v
        · subst ci; exact cb
        · exact hbl i (by omega) hi2
      · rw [bl_R0 cb, Option.bind_some, if_pos rfl]
        exact Or.inr ⟨_, rfl, v + 1, ⟨hw1, hw2, hpre, hst, hbl, fun _ => by rw [Nat.add_sub_cancel]; exact cb, fun h => by omega⟩, hat, hb⟩) ⟨rfl, n, hF, Nat.le_refl _, hen, fun i h1 h2 => by omega⟩
  exact ⟨E, at2, en2, h1, h2⟩
theorem R_blanks (c1 c2 c3 c4 c5 : Int32) {tx : Nat → Int32} {n : Nat} (hn : n ≤ 600) (hc : c1.toInt = n) : ∃ F E at2 en2, f_R_takeBlanksOff c1 c2 c3 c4 c5 tx = some (at2, en2) ∧ zTr tx n F E ∧ at2.toInt = (F : Int) ∧ en2.toInt = (E : Int) := by
  unfold f_R_takeBlanksOff f_R_takeBlanksOff_13
  obtain ⟨⟨at2, en2⟩, h1, F, E, h2⟩ := zrun_inv (step := f_R_takeBlanksOff_13_step c1 c4 c5 tx) (x := (0, c1)) (fun z => z.2 = c1 ∧ ∃ k : Nat, k ≤ n ∧ z.1.toInt = (k : Int) ∧ (∀ i, i < k → zbl (tx i))) (fun z => (n - z.1.toInt).toNat) (fun y => ∃ F E : Nat, zTr tx n F E ∧ y.1.toInt = (F : Int) ∧ y.2.toInt = (E : Int)) (by
    rintro ⟨a, b⟩ ⟨hb, k, hk, ha, hbl⟩
    dsimp only at hb ha
    subst hb
    unfold f_R_takeBlanksOff_13_step f_R_takeBlanksOff_13_body
    dsimp only
    by_cases ck : k = n
    · obtain ⟨E, at2, en2, u1, u2, u3, u4⟩ := R_bl52 b c4 c5 (tx := tx) hn ha hk hc hbl (fun h => by omega)
      rw [if_pos (show b ≤ a by rw [i_le, hc, ha]; omega), u1]
      exact Or.inr ⟨_, rfl, k, E, u2, u3, u4⟩
    · rw [if_neg (show ¬ b ≤ a by rw [i_le, hc, ha]; omega), if_pos (show zin a 600 from ⟨by omega, by omega⟩), i_cl, ha, Int.toNat_natCast]
      by_cases cb : zbl (tx k)
      · rw [bl_R1 cb, Option.bind_some, if_neg i10]
        have hs : (a + 1).toInt = ((k + 1 : Nat) : Int) := i_suc ha (by omega)
        refine Or.inl ⟨_, rfl, ⟨rfl, k + 1, by omega, hs, fun i hi => ?_⟩, by dsimp only; rw [hs]; (try rw [ha]); exact mu_up (by omega)⟩
        by_cases ci : i = k
        · subst ci; exact cb
        · exact hbl i (by omega)
      · obtain ⟨E, at2, en2, u1, u2, u3, u4⟩ := R_bl52 b c4 c5 (tx := tx) hn ha hk hc hbl (fun _ => cb)
        rw [bl_R0 cb, Option.bind_some, if_pos rfl, u1]
        exact Or.inr ⟨_, rfl, k, E, u2, u3, u4⟩) ⟨rfl, 0, by omega, rfl, fun i hi => absurd hi (Nat.not_lt_zero _)⟩
  exact ⟨F, E, at2, en2, h1, h2⟩
theorem M_read40 (t s o c p : Int32) {tx r : Nat → Int32} {x1 x2 : Int32} {n F E : Nat} (hn : n ≤ 600) (h1 : x1.toInt = F) (h2 : x2.toInt = n) (hT : zTr tx n F E) {d : Int64}
    (hend : ∀ y2, y2.toInt = (E : Int) → ∃ r'', f_M_read_65 t s o c p tx r x1 y2 = some (d, t, s, r'') ∧ mOK r'') : ∃ r'', f_M_read_40 t s o c p tx r x1 x2 = some (d, t, s, r'') ∧ mOK r'' := by
  have e1 : (1 : Int32).toInt = 1 := rfl
  obtain ⟨q1, q2, q3, q4, q5, q6, q7⟩ := hT
  unfold f_M_read_40
  obtain ⟨⟨d', t', s', r'⟩, h3, h4, h5⟩ := zrun_inv (step := f_M_read_40_step o c p tx x1) (x := (t, s, r, x2)) (fun z => z.1 = t ∧ z.2.1 = s ∧ z.2.2.1 = r ∧ ∃ w : Nat, E ≤ w ∧ w ≤ n ∧ z.2.2.2.toInt = (w : Int)) (fun z => z.2.2.2.toInt.toNat) (fun y => (y.1, y.2.1, y.2.2.1) = (d, t, s) ∧ mOK y.2.2.2) (by
    rintro ⟨t', s', r', b⟩ ⟨a1, a2, a3, w, hw1, hw2, hb⟩
    dsimp only at a1 a2 a3 hb
    subst a1 a2 a3
    unfold f_M_read_40_step f_M_read_40_body
    dsimp only
    by_cases cF : w ≤ F
    · have hwE : w = E := by omega
      obtain ⟨r2, u1, u2⟩ := hend b (by rw [hb, hwE])
      rw [if_pos (show b ≤ x1 by rw [i_le, hb, h1]; omega), u1]
      exact Or.inr ⟨_, rfl, rfl, u2⟩
    · obtain ⟨v, rfl⟩ : ∃ v, w = v + 1 := ⟨w - 1, by omega⟩
      have hmu : ((v : Int)).toNat < (((v + 1 : Nat) : Int)).toNat := by omega
      have hvv : (((v + 1 : Nat) : Int)) - 1 = (v : Int) := by omega
      have hnb : ¬ b ≤ x1 := by rw [i_le, hb, h1]; omega
      have hv : (b - 1).toInt = (v : Int) := by
        rw [i_sub (by rw [hb, e1]; omega) (by rw [hb, e1]; omega), hb, e1]
        omega
      have hcl : (b - 1).toNatClampNeg = v := by rw [i_cl, hv, Int.toNat_natCast]
      rw [if_neg hnb, if_pos (show zin (b - 1) 600 by clear hb; exact ⟨by omega, by omega⟩), hcl]
      clear hv hcl
      by_cases cE : E ≤ v
      · have hb1 : zbl (tx v) := q5 v cE (by omega)
        have hvn : v ≤ n := by omega
        unfold zbl at hb1
        rw [hb1, Option.bind_some, if_neg i10]
        have hp : (b + (-1)).toInt = (v : Int) := by rw [i_prd hb]; exact hvv
        exact Or.inl ⟨_, rfl, ⟨rfl, rfl, rfl, v, cE, hvn, hp⟩, by dsimp only; rw [hp, hb]; exact hmu⟩
      · have hwE : v + 1 = E := by omega
        have hnb2 : ¬ zbl (tx v) := by
          have := q6 (by omega)
          rw [← hwE, Nat.add_sub_cancel] at this
          exact this
        obtain ⟨r2, u1, u2⟩ := hend b (by rw [hb, hwE])
        rw [bl_M0 hnb2, Option.bind_some, if_pos rfl, u1]
        exact Or.inr ⟨_, rfl, rfl, u2⟩) ⟨rfl, rfl, rfl, n, q2, Nat.le_refl _, h2⟩
  dsimp only at h4 h5
  have e4 : d' = d := congrArg (fun z => z.1) h4
  have e5 : t' = t := congrArg (fun z => z.2.1) h4
  have e6 : s' = s := congrArg (fun z => z.2.2) h4
  rw [e4, e5, e6] at h3
  exact ⟨r', h3, h5⟩
theorem M_read17 (t s o c p : Int32) {tx r : Nat → Int32} {x2 : Int32} {n F E : Nat} (hn : n ≤ 600) (h2 : x2.toInt = n) (hT : zTr tx n F E) {d : Int64}
    (hend : ∀ y1 y2, y1.toInt = (F : Int) → y2.toInt = (E : Int) → ∃ r'', f_M_read_65 t s o c p tx r y1 y2 = some (d, t, s, r'') ∧ mOK r'') : ∃ r'', f_M_read_17 t s o c p tx r 0 x2 = some (d, t, s, r'') ∧ mOK r'' := by
  have hT2 := hT
  obtain ⟨q1, q2, q3, q4, q5, q6, q7⟩ := hT2
  unfold f_M_read_17
  obtain ⟨⟨d', t', s', r'⟩, h3, h4, h5⟩ := zrun_inv (step := f_M_read_17_step o c p tx x2) (x := (t, s, r, 0)) (fun z => z.1 = t ∧ z.2.1 = s ∧ z.2.2.1 = r ∧ ∃ k : Nat, k ≤ F ∧ z.2.2.2.toInt = (k : Int)) (fun z => (n - z.2.2.2.toInt).toNat) (fun y => (y.1, y.2.1, y.2.2.1) = (d, t, s) ∧ mOK y.2.2.2) (by
    rintro ⟨t', s', r', a⟩ ⟨a1, a2, a3, k, hk, ha⟩
    dsimp only at a1 a2 a3 ha
    subst a1 a2 a3
    unfold f_M_read_17_step f_M_read_17_body
    dsimp only
    have go : k = F → ∃ r'', f_M_read_40 t' s' o c p tx r' a x2 = some (d, t', s', r'') ∧ mOK r'' := by
      intro hkF
      subst hkF
      exact M_read40 t' s' o c p hn ha h2 hT (fun y2 hy => hend a y2 ha hy)
    by_cases cn : k = n
    · obtain ⟨r2, u1, u2⟩ := go (by omega)
      rw [if_pos (show x2 ≤ a by rw [i_le, h2, ha]; omega), u1]
      exact Or.inr ⟨_, rfl, rfl, u2⟩
    · rw [if_neg (show ¬ x2 ≤ a by rw [i_le, h2, ha]; omega), if_pos (show zin a 600 from ⟨by omega, by omega⟩), i_cl, ha, Int.toNat_natCast]
      by_cases cF : k < F
      · have hb1 := q3 k cF
        unfold zbl at hb1
        rw [hb1, Option.bind_some, if_neg i10]
        have hs : (a + 1).toInt = ((k + 1 : Nat) : Int) := i_suc ha (by omega)
        exact Or.inl ⟨_, rfl, ⟨rfl, rfl, rfl, k + 1, cF, hs⟩, by dsimp only; rw [hs]; (try rw [ha]); exact mu_up (by omega)⟩
      · have hkF : k = F := by omega
        obtain ⟨r2, u1, u2⟩ := go hkF
        have hnb : ¬ zbl (tx k) := by rw [hkF]; exact q4 (by omega)
        rw [bl_M0 hnb, Option.bind_some, if_pos rfl, u1]
        exact Or.inr ⟨_, rfl, rfl, u2⟩) ⟨rfl, rfl, rfl, 0, by omega, rfl⟩
  dsimp only at h4 h5
  have e4 : d' = d := congrArg (fun z => z.1) h4
  have e5 : t' = t := congrArg (fun z => z.2.1) h4
  have e6 : s' = s := congrArg (fun z => z.2.2) h4
  rw [e4, e5, e6] at h3
  exact ⟨r', h3, h5⟩
/-- the text's number: class and reference -/
theorem same_num (c1 t s o c p : Int32) {tx nl dl : Nat → Int32} {en at' cn pw nu du : Int32} {F E : Nat} (h600 : E ≤ 600) (hat : at'.toInt = F) (hen : en.toInt = E) (hFE : F ≤ E) {r : Nat → Int32} (hr : mOK r) :
    ∃ d y, (if at' < en then ((f_R_unitAt c1 at' en cn pw tx at').bind fun r_22 => (if r_22 = 48 then ((f_R_unitAt c1 at' en cn pw tx (at' + 1)).bind fun r_37 => (if r_37 = 120 then (f_R_numberOfText_60 c1 at' en cn pw tx nu nl du dl) else ((f_R_unitAt c1 at' en cn pw tx (at' + 1)).bind fun r_52 => (if r_52 = 88 then (f_R_numberOfText_60 c1 at' en cn pw tx nu nl du dl) else (f_R_numberOfText_75 c1 at' en cn pw tx nu nl du dl))))) else (f_R_numberOfText_75 c1 at' en cn pw tx nu nl du dl))) else (some ((0 : Int64), (at', en, cn, pw, nu, nl, du, dl)))) = some (d, y) ∧ ∀ y1 y2, y1.toInt = (F : Int) → y2.toInt = (E : Int) → ∃ r'', f_M_read_65 t s o c p tx r y1 y2 = some (d, t, s, r'') ∧ mOK r'' := by
  by_cases cFE : F = E
  · rw [if_neg (show ¬ at' < en by rw [i_lt, hat, hen]; omega)]
    refine ⟨_, _, rfl, fun y1 y2 h1 h2 => ?_⟩
    unfold f_M_read_65
    rw [if_pos (show y1 = y2 by rw [i_eq, h1, h2]; omega)]
    exact ⟨r, rfl, hr⟩
  · rw [if_pos (show at' < en by rw [i_lt, hat, hen]; omega)]
    have hs : (at' + 1).toInt = ((F + 1 : Nat) : Int) := i_suc hat (by omega)
    rw [R_unitAt c1 at' cn pw hen h600 hat, R_unitAt c1 at' cn pw hen h600 hs, Option.bind_some, Option.bind_some, Option.bind_some]
    have hz0 : zun tx E F = tx F := by unfold zun; rw [if_pos (by omega)]
    rw [hz0]
    have e2 : (2 : Int32).toInt = 2 := rfl
    have two : ∀ {x : Int32}, x.toInt = (F : Int) → (x + 2).toInt = ((F + 2 : Nat) : Int) := by
      intro x hx
      rw [i_add (by rw [hx, e2]; omega) (by rw [hx, e2]; omega), hx, e2]
      omega
    -- decimal
    have dec : ∃ d y, f_R_numberOfText_75 c1 at' en cn pw tx nu nl du dl = some (d, y) ∧ ∀ y1 y2, y1.toInt = (F : Int) → y2.toInt = (E : Int) → ∃ r'', f_M_read_120 t s o c p tx r y1 y2 = some (d, t, s, r'') ∧ mOK r'' := by
      obtain ⟨d, y, r1, w1, w2, w3⟩ := same_num75 c1 t s o c p (tx := tx) (nl := nl) (dl := dl) (cn := cn) (pw := pw) (nu := nu) (du := du) hen h600 hat (by omega) hat hr
      refine ⟨d, y, w1, fun y1 y2 h1 h2 => ?_⟩
      have q1 : y1 = at' := i_ext (by rw [h1, hat])
      have q2 : y2 = en := i_ext (by rw [h2, hen])
      subst q1 q2
      unfold f_M_read_120 f_M_read_121
      rw [if_pos rfl, w2, Option.bind_some]
      exact ⟨r1, rfl, w3⟩
    -- hexadecimal
    have hex : F + 2 ≤ E → ∃ d y, f_R_numberOfText_60 c1 at' en cn pw tx nu nl du dl = some (d, y) ∧ ∀ y1 y2, y1.toInt = (F : Int) → y2.toInt = (E : Int) → ∃ r'', f_M_read_116 t s o c p tx r y1 y2 = some (d, t, s, r'') ∧ mOK r'' := by
      intro h2E
      have hen2 : en.toInt = ((F + 2 + (E - (F + 2)) : Nat) : Int) := by rw [hen]; omega
      obtain ⟨d, r1, w1, w2, w3⟩ := same_hex c1 cn pw t s o c p (tx := tx) hr (f := F + 2) hen2 (by omega) (two hat) (two hat)
      unfold f_R_numberOfText_60
      rw [w1, Option.bind_some]
      refine ⟨d, _, rfl, fun y1 y2 h1 h2 => ?_⟩
      have q1 : y1 = at' := i_ext (by rw [h1, hat])
      have q2 : y2 = en := i_ext (by rw [h2, hen])
      subst q1 q2
      unfold f_M_read_116 f_M_read_121
      rw [if_neg i10, w2, Option.bind_some]
      exact ⟨r1, rfl, w3⟩
    -- the reference's choice
    have ne : ∀ {y1 y2 : Int32}, y1.toInt = (F : Int) → y2.toInt = (E : Int) → ¬ y1 = y2 := by
      intro y1 y2 h1 h2
      rw [i_eq, h1, h2]
      omega
    have suc : ∀ {y1 : Int32}, y1.toInt = (F : Int) → (y1 + 1).toInt = ((F + 1 : Nat) : Int) := fun h => i_suc h (by omega)
    by_cases cx : F + 1 < E ∧ tx F = 48 ∧ (tx (F + 1) = 120 ∨ tx (F + 1) = 88)
    · have hz1 : zun tx E (F + 1) = tx (F + 1) := by unfold zun; rw [if_pos cx.1]
      obtain ⟨d, y, w1, w2⟩ := hex (by have := cx.1; omega)
      rw [if_pos cx.2.1, hz1, w1]
      refine ⟨d, y, ?_, fun y1 y2 h1 h2 => ?_⟩
      · rcases cx.2.2 with q | q
        · rw [if_pos q]
        · have q1 : ¬ tx (F + 1) = 120 := by rw [q]; decide
          rw [if_neg q1, if_pos q]
      · have hsuc := suc h1
        have hne := ne h1 h2
        have hz : zin y1 600 := ⟨by omega, by omega⟩
        have hcl : y1.toNatClampNeg = F := by rw [i_cl, h1, Int.toNat_natCast]
        have w3 := w2 y1 y2 h1 h2
        have hle : ¬ y2 ≤ y1 + 1 := by rw [i_le, h2, hsuc]; have := cx.1; clear h1; omega
        have hz2 : zin (y1 + 1) 600 := by clear h1; exact ⟨by omega, by omega⟩
        have hcl2 : (y1 + 1).toNatClampNeg = F + 1 := by rw [i_cl, hsuc, Int.toNat_natCast]
        unfold f_M_read_65
        rw [if_neg hne, if_neg hle, if_pos hz, hcl, if_pos cx.2.1, if_pos hz2, hcl2, if_pos hz2]
        rcases cx.2.2 with q | q
        · rw [if_pos q]; exact w3
        · have q1 : ¬ tx (F + 1) = 120 := by rw [q]; decide
          rw [if_neg q1, if_pos q]; exact w3
    · obtain ⟨d, y, w1, w2⟩ := dec
      rw [w1]
      refine ⟨d, y, ?_, fun y1 y2 h1 h2 => ?_⟩
      · by_cases c48 : tx F = 48
        · rw [if_pos c48]
          have n1 : ¬ zun tx E (F + 1) = 120 := by
            unfold zun
            by_cases q : F + 1 < E
            · rw [if_pos q]; exact fun h => cx ⟨q, c48, Or.inl h⟩
            · rw [if_neg q]; decide
          have n2 : ¬ zun tx E (F + 1) = 88 := by
            unfold zun
            by_cases q : F + 1 < E
            · rw [if_pos q]; exact fun h => cx ⟨q, c48, Or.inr h⟩
            · rw [if_neg q]; decide
          rw [if_neg n1, if_neg n2]
        · rw [if_neg c48]
      · have hsuc := suc h1
        have hne := ne h1 h2
        have hz : zin y1 600 := ⟨by omega, by omega⟩
        have hcl : y1.toNatClampNeg = F := by rw [i_cl, h1, Int.toNat_natCast]
        have w3 := w2 y1 y2 h1 h2
        unfold f_M_read_65
        rw [if_neg hne]
        by_cases q : F + 1 < E
        · have hle : ¬ y2 ≤ y1 + 1 := by rw [i_le, h2, hsuc]; clear h1; omega
          have hz2 : zin (y1 + 1) 600 := by clear h1; exact ⟨by omega, by omega⟩
          have hcl2 : (y1 + 1).toNatClampNeg = F + 1 := by rw [i_cl, hsuc, Int.toNat_natCast]
          rw [if_neg hle, if_pos hz, hcl]
          by_cases c48 : tx F = 48
          · rw [if_pos c48, if_pos hz2, hcl2, if_pos hz2, if_neg (fun h => cx ⟨q, c48, Or.inl h⟩), if_neg (fun h => cx ⟨q, c48, Or.inr h⟩)]
            exact w3
          · rw [if_neg c48]; exact w3
        · rw [if_pos (show y2 ≤ y1 + 1 by rw [i_le, h2, hsuc]; clear h1; omega)]
          exact w3
theorem same_read (a1 a2 a3 a4 th o c p : Int32) {rc ms : Int32} {ru mt : Nat → Int32} (h : tR rc ms ru mt) {nu du : Int32} {nl dl r : Nat → Int32} (hr : mOK r) :
    ∃ d y r', f_D_read rc a1 a2 a3 a4 ru nu nl du dl = some (d, 0, y) ∧ f_M_read th ms o c p mt r = some (d, 0, 0, r') ∧ mOK r' ∧ tR 0 0 ru mt := by
  obtain ⟨e, e2, n, hn, hn6⟩ := h
  subst e e2
  obtain ⟨F, E, at2, en2, u1, u2, u3, u4⟩ := R_blanks rc a1 a2 a3 a4 (tx := ru) hn6 hn
  obtain ⟨d, y, w1, w2⟩ := same_num rc 0 0 o c p (tx := ru) (nl := nl) (dl := dl) (cn := a3) (pw := a4) (nu := nu) (du := du) (Nat.le_trans u2.2.1 hn6) u3 u4 u2.1 hr
  obtain ⟨r', v1, v2⟩ := M_read17 0 0 o c p (r := r) hn6 hn u2 w2
  obtain ⟨y1, y2, y3, y4, y5, y6, y7, y8⟩ := y
  refine ⟨d, (y1, y2, y3, y4, y5, y6, y7, y8), r', ?_, ?_, v2, rfl, rfl, 0, rfl, by omega⟩
  · unfold f_D_read f_R_numberOfText f_R_clear
    rw [u1, Option.bind_some]
    dsimp only
    rw [w1, Option.bind_some]
    rfl
  · unfold f_M_read
    exact v1
