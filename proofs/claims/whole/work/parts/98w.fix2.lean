theorem zfx_hi {g : Nat → Nat} {Q : Int} {q pl : Nat} (hQ : Q = q) (h0 : 0 < q) : zfx g Q pl = zds g 0 q ++ ((if pl = 0 then [] else [46]) ++ zds g q pl) := by
  unfold zfx zbp
  rw [if_pos (by omega), hQ, Int.toNat_natCast]
  have e : zds (fun i => zdj g ((q : Int) + (i : Nat))) 0 pl = zds g q pl := by
    apply zds_congr
    intro i _
    unfold zdj
    rw [if_neg (by omega)]
    congr 1
    omega
  rw [e]
theorem zfx_lo {g : Nat → Nat} {Q : Int} {c pl : Nat} (hQ : Q ≤ 0) (h : (c : Int) = Q + pl ∨ (c = 0 ∧ Q + pl < 0)) : zfx g Q pl = [48] ++ ((if pl = 0 then [] else [46]) ++ (zds (fun _ => 0) 0 (pl - c) ++ zds g 0 c)) := by
  unfold zfx zbp
  rw [if_neg (by omega)]
  have e : zds (fun i => zdj g (Q + (i : Nat))) 0 pl = zds (fun _ => 0) 0 (pl - c) ++ zds g 0 c := by
    have hs : pl = (pl - c) + c := by omega
    have h1 : zds (fun i => zdj g (Q + (i : Nat))) 0 ((pl - c) + c) = zds (fun _ => 0) 0 (pl - c) ++ zds g 0 c := by
      rw [zds_app]
      have e1 : zds (fun i => zdj g (Q + (i : Nat))) 0 (pl - c) = zds (fun _ => 0) 0 (pl - c) := by
        apply zds_congr
        intro i hi
        unfold zdj
        rw [if_pos (by omega)]
      have e2 : zds (fun i => zdj g (Q + (i : Nat))) (0 + (pl - c)) c = zds g 0 c := by
        apply zds_congr
        intro i hi
        unfold zdj
        rw [if_neg (by omega)]
        congr 1
        omega
      rw [e1, e2]
    rw [← hs] at h1
    exact h1
  rw [e]
theorem M_fixed78 (t s : Int32) {o cc p : Int32} {out r dgm : Nat → Int32} {c V pl : Nat} (hE : eR 420 cc dgm c V) (hc : c ≤ 100) {x3 x5 : Int32} (h3 : x3.toInt = pl) (hpl : pl ≤ 20) (h5 : x5.toInt = ((c - pl : Nat) : Int)) {L : List Int32} (h : pP 1200 o out L) (hl : L.length ≤ 10) :
    ∃ o' out', f_M_fixed_78 t s o cc p out r dgm x3 x5 = some (o', o', cc, out', r, dgm) ∧ pP 1200 o' out' (L ++ (zds (zdt c V) 0 (c - pl) ++ ((if pl = 0 then [] else [46]) ++ (zds (fun _ => 0) 0 (pl - c) ++ zds (zdt c V) (c - pl) (c - (c - pl)))))) := by
  have e0 : (0 : Int32).toInt = 0 := rfl
  have hcc := hE.1
  unfold f_M_fixed_78
  obtain ⟨o1, u1, t1, t2⟩ := M_writeDigits t s p hE h (x1 := 0) (x2 := x5) (a := 0) (b := c - pl) rfl h5 (by omega) (by omega)
  rw [t1, Option.bind_some]
  dsimp only
  rw [Nat.sub_zero] at t2
  have hsub : (x3 - cc).toInt.toNat = pl - c := by
    rw [i_sub (by rw [h3, hcc]; omega) (by rw [h3, hcc]; omega), h3, hcc]
    omega
  have h95 : ∀ {o2 : Int32} {u2 : Nat → Int32} {M : List Int32}, pP 1200 o2 u2 M → M.length ≤ 200 → ∃ o' out', f_M_fixed_95 t s o2 cc p u2 r dgm x3 x5 = some (o', o', cc, out', r, dgm) ∧ pP 1200 o' out' (M ++ (zds (fun _ => 0) 0 (pl - c) ++ zds (zdt c V) (c - pl) (c - (c - pl)))) := by
    intro o2 u2 M hM hm
    unfold f_M_fixed_95
    obtain ⟨o3, u3, t3, t4⟩ := M_emitZeros t s cc p hM hsub (by omega)
    rw [t3, Option.bind_some]
    dsimp only
    obtain ⟨o4, u4, t5, t6⟩ := M_writeDigits t s p hE t4 h5 hcc (by rw [List.length_append, zds_len]; omega) (by omega)
    rw [t5, Option.bind_some]
    rw [List.append_assoc] at t6
    exact ⟨o4, u4, rfl, t6⟩
  have hm : (L ++ zds (zdt c V) 0 (c - pl)).length ≤ 120 := by rw [List.length_append, zds_len]; omega
  by_cases q : pl = 0
  · rw [if_pos (show x3 ≤ 0 by rw [i_le, h3, e0]; omega), if_pos q, List.nil_append]
    obtain ⟨o3, u3, t3, t4⟩ := h95 t2 (by omega)
    rw [List.append_assoc] at t4
    exact ⟨o3, u3, t3, t4⟩
  · rw [if_neg (show ¬ x3 ≤ 0 by rw [i_le, h3, e0]; omega), if_neg q]
    obtain ⟨o2, u2, t3, t4, _⟩ := M_emit t s cc p t2 (by omega) 46
    rw [t3, Option.bind_some]
    dsimp only
    obtain ⟨o3, u3, t5, t6⟩ := h95 t4 (by rw [List.length_append, List.length_singleton]; omega)
    rw [List.append_assoc, List.append_assoc] at t6
    exact ⟨o3, u3, t5, t6⟩
theorem M_fixed47 (t s : Int32) {o cc p : Int32} {out r dgm : Nat → Int32} {c V pl : Nat} (hE : eR 420 cc dgm c V) (hc : c ≤ 100) {x3 : Int32} (h3 : x3.toInt = pl) (hpl : pl ≤ 20) {Q : Int} (hQ : (c : Int) = Q + pl ∨ (c = 0 ∧ Q + pl < 0)) {L : List Int32} (h : pP 1200 o out L) (hl : L.length ≤ 5) :
    ∃ o' out', f_M_fixed_47 t s o cc p out r dgm x3 = some (o', o', cc, out', r, dgm) ∧ pP 1200 o' out' (L ++ zfx (zdt c V) Q pl) := by
  have hcc := hE.1
  have e0 : (0 : Int32).toInt = 0 := rfl
  unfold f_M_fixed_47 f_M_fixed_65
  by_cases q : c ≤ pl
  · rw [if_pos (show cc ≤ x3 by rw [i_le, h3, hcc]; omega), if_pos rfl, zfx_lo (c := c) (by omega) hQ]
    obtain ⟨o1, u1, t1, t2, _⟩ := M_emit t s cc p h (by omega) 48
    rw [t1, Option.bind_some]
    dsimp only
    obtain ⟨o2, u2, t3, t4⟩ := M_fixed78 (p := p) (r := r) (x5 := 0) t s hE hc h3 hpl (by rw [e0]; omega) t2 (by rw [List.length_append, List.length_singleton]; omega)
    rw [show c - pl = 0 by omega] at t4
    rw [List.append_assoc] at t4
    exact ⟨o2, u2, t3, t4⟩
  · have hsub : (cc - x3).toInt = ((c - pl : Nat) : Int) := by
      rw [i_sub (by rw [h3, hcc]; omega) (by rw [h3, hcc]; omega), h3, hcc]
      omega
    have hne : ¬ (cc - x3) = 0 := by
      rw [i_eq, hsub, e0]
      omega
    rw [if_neg (show ¬ cc ≤ x3 by rw [i_le, h3, hcc]; omega), if_neg hne, zfx_hi (q := c - pl) (by omega) (by omega)]
    obtain ⟨o2, u2, t3, t4⟩ := M_fixed78 (p := p) (r := r) t s hE hc h3 hpl hsub h (by omega)
    rw [show pl - c = 0 by omega, show c - (c - pl) = pl by omega] at t4
    exact ⟨o2, u2, t3, t4⟩
theorem M_fixed (t s o cc p : Int32) {out r dgm : Nat → Int32} (hr : mOK r) {x : Int64} (hfin : zmg x < 9218868437227405312) {x3 : Int32} {pl c V : Nat} (h3 : x3.toInt = pl) (hpl : pl ≤ 20) (hV : znr (zam (zmg x)) ((zep (zmg x) : Int) - 1074) (-(pl : Int)) = V) (hc : c ≤ 48) (hVc : V < 10 ^ c) (hV1 : c = 0 ∨ 10 ^ (c - 1) ≤ V) {Q : Int} (hQ : (c : Int) = Q + pl ∨ (c = 0 ∧ Q + pl < 0)) :
    ∃ o' cc' out' r' dgm', f_M_fixed t s o cc p out r dgm x x3 = some (o', o', cc', out', r', dgm') ∧ mOK r' ∧ pP 1200 o' out' (zsq x ++ zfx (zdt c V) Q pl) := by
  have hm := zmg_mag x
  have hng : (-x3).toInt = -(pl : Int) := by rw [i_neg (by omega), h3]
  have hVb : V < 10 ^ 419 := Nat.lt_of_lt_of_le hVc (Nat.pow_le_pow_right (by decide) (by omega))
  obtain ⟨n, cc1, out1, r1, dg1, t1, t2, t3, t4⟩ := M_nearest t s o cc p (out := out) (dg := dgm) hr (a := x &&& 9223372036854775807) (by rw [hm]; exact hfin) hng (by omega) (by omega) (by rw [hm, hV]; exact hVb)
  rw [hm, hV] at t3 t4
  have hn : n = c := by
    have hVn := t3.2.2.1
    rcases Nat.eq_zero_or_pos c with q | q
    · subst q
      rcases t4 with w | w
      · exact w
      · have : V = 0 := by omega
        have := Nat.pos_of_ne_zero (n := 10 ^ (n - 1)) (by exact Nat.ne_of_gt (Nat.pow_pos (by decide)))
        omega
    · rcases hV1 with w | w
      · omega
      · exact dig_n hVn t4 w q hVc
  subst hn
  have h18 : ∀ s0 : Int32, ∃ o' out', f_M_fixed_18 t s o cc p out r dgm x x3 s0 = some (o', o', cc1, out', r1, dg1) ∧ pP 1200 o' out' ((if s0 = 0 then [] else [45]) ++ zfx (zdt n V) Q pl) := by
    intro s0
    unfold f_M_fixed_18
    rw [t1, Option.bind_some]
    dsimp only
    by_cases q : s0 = 0
    · rw [if_pos q, if_pos q]
      exact M_fixed47 t s t3 (by omega) h3 hpl hQ (pP_0 1200 out1) (by decide)
    · rw [if_neg q, if_neg q]
      obtain ⟨o1, u1, t5, t6, _⟩ := M_emit t s cc1 p (pP_0 1200 out1) (by decide) 45
      rw [t5, Option.bind_some]
      dsimp only
      exact M_fixed47 t s t3 (by omega) h3 hpl hQ t6 (by decide)
  unfold f_M_fixed f_M_fixed_17 zsq
  by_cases cn : x < 0
  · rw [if_pos cn, M_isZero, Option.bind_some]
    by_cases hz : zmg x = 0
    · rw [if_pos hz, if_neg (show ¬ (1 : Int32) = 0 by decide), if_neg (fun q => q.2 hz)]
      obtain ⟨o1, u1, t5, t6⟩ := h18 0
      exact ⟨o1, _, u1, _, _, t5, t2, t6⟩
    · rw [if_neg hz, if_pos rfl, if_pos ⟨cn, hz⟩]
      obtain ⟨o1, u1, t5, t6⟩ := h18 1
      exact ⟨o1, _, u1, _, _, t5, t2, t6⟩
  · rw [if_neg cn, if_neg (fun q => cn q.1)]
    obtain ⟨o1, u1, t5, t6⟩ := h18 0
    exact ⟨o1, _, u1, _, _, t5, t2, t6⟩
theorem e21_iff {m : Nat} : vN (zam m) ((zep m : Int) - 1074) 21 < vD ((zep m : Int) - 1074) 21 ↔ m < 4921056587992461136 := by
  have hZ : zam 4921056587992461136 * 2 ^ 17 = 10 ^ 21 := by decide +kernel
  have hz : zep 4921056587992461136 = 1091 := by decide +kernel
  unfold vN vD
  rw [show (-(21 : Int)).toNat = 0 from rfl, Nat.pow_zero, Nat.mul_one, show (21 : Int).toNat = 21 from rfl]
  generalize hY : zam 4921056587992461136 = Y at *
  constructor
  · intro h
    rcases Nat.lt_or_ge m 4921056587992461136 with q | q
    · exact q
    · exfalso
      have h1 := zval_le q
      have h2 := zval_mono q
      rw [hY, hz] at h1
      rw [hz] at h2
      rw [show (-((zep m : Int) - 1074)).toNat = 0 by omega, Nat.pow_zero, Nat.mul_one, show ((zep m : Int) - 1074).toNat = (zep m - 1091) + 17 by omega, Nat.pow_add, ← Nat.mul_assoc, ← hZ] at h
      have h3 := Nat.mul_le_mul_right (2 ^ 17) h1
      omega
  · intro q
    have h1 := zval_lt q
    have h2 := zval_mono (Nat.le_of_lt q)
    rw [hY, hz] at h1
    rw [hz] at h2
    rcases Nat.lt_or_ge (zep m) 1074 with w | w
    · rw [show ((zep m : Int) - 1074).toNat = 0 by omega, Nat.pow_zero, Nat.mul_one, ← hZ, Nat.mul_assoc, ← Nat.pow_add, show 17 + (-((zep m : Int) - 1074)).toNat = 1091 - zep m by omega]
      exact h1
    · rw [show (-((zep m : Int) - 1074)).toNat = 0 by omega, Nat.pow_zero, Nat.mul_one, ← hZ, show 17 = (1091 - zep m) + ((zep m : Int) - 1074).toNat by omega, Nat.pow_add, ← Nat.mul_assoc]
      exact (Nat.mul_lt_mul_right (Nat.pow_pos (by decide))).mpr h1
