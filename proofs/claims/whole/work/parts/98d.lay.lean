/-! trailing zeros; the reference's digits -/
def dz : Nat → Nat → Nat × Nat
  | 0, V => (0, V)
  | c + 1, V => if 0 < c ∧ V % 10 = 0 then dz c (V / 10) else (c + 1, V)
theorem dz_s (c V : Nat) : dz (c + 1) V = if 0 < c ∧ V % 10 = 0 then dz c (V / 10) else (c + 1, V) := rfl
theorem eR_drop {cap : Nat} {cn cn' : Int32} {dg : Nat → Int32} {c V : Nat} (h : eR cap cn dg (c + 1) V) (h0 : V % 10 = 0) (hc : cn'.toInt = (c : Int)) : eR cap cn' dg c (V / 10) := by
  obtain ⟨h1, h2, h3, h4⟩ := h
  refine ⟨hc, by omega, ?_, fun i hi => ?_⟩
  · apply Nat.div_lt_of_lt_mul
    rw [Nat.mul_comm, ← Nat.pow_succ]
    exact h3
  · have e : V = 10 * (V / 10) + 0 := by omega
    rw [h4 i (by omega)]
    have := zdt_app (c := c) (V := V / 10) (d := 0) (i := i) (by decide) hi
    rw [← e] at this
    rw [this]
theorem E_dropTrailing {cn pt : Int32} {dg : Nat → Int32} {c V : Nat} (h : eR 48 cn dg c V) : ∃ cn', f_E_dropTrailingZeros cn pt dg = some cn' ∧ eR 48 cn' dg (dz c V).1 (dz c V).2 := by
  have e1 : (1 : Int32).toInt = 1 := rfl
  unfold f_E_dropTrailingZeros f_E_dropTrailingZeros_0
  refine zrun_inv (step := f_E_dropTrailingZeros_0_step pt dg) (x := cn) (fun z => ∃ c' V' : Nat, eR 48 z dg c' V' ∧ dz c' V' = dz c V) (fun z => z.toInt.toNat) (fun y => eR 48 y dg (dz c V).1 (dz c V).2) ?_ ⟨c, V, h, rfl⟩
  rintro z ⟨c', V', hR, hdz⟩
  have h1 := hR.1
  have h2 := hR.2.1
  unfold f_E_dropTrailingZeros_0_step f_E_dropTrailingZeros_0_body
  rw [← hdz]
  cases c' with
  | zero =>
    rw [if_pos (show z ≤ 1 by rw [i_le, h1, e1]; omega)]
    exact Or.inr ⟨z, rfl, hR⟩
  | succ c' =>
    rw [dz_s]
    by_cases c0 : 0 < c'
    · have hmu : ((c' : Int)).toNat < (((c' + 1 : Nat) : Int)).toNat := by omega
      have hz1 : (z - 1).toInt = (c' : Int) := by
        rw [i_sub (by rw [h1, e1]; omega) (by rw [h1, e1]; omega), h1, e1]
        omega
      have hd := hR.2.2.2 c' (by omega)
      have hl : zdt (c' + 1) V' c' = V' % 10 := by rw [zdt_lt (by omega), show c' + 1 - 1 - c' = 0 by omega, Nat.pow_zero, Nat.div_one]
      rw [hl] at hd
      rw [if_neg (show ¬ z ≤ 1 by rw [i_le, h1, e1]; omega), if_pos (show zin (z - 1) 48 by clear h1; exact ⟨by omega, by omega⟩), i_cl, hz1, Int.toNat_natCast]
      by_cases c9 : V' % 10 = 0
      · rw [if_pos (show dg c' = 0 by rw [i_eq, hd, c9]; rfl)]
        refine Or.inl ⟨_, rfl, ⟨c', V' / 10, eR_drop hR c9 hz1, ?_⟩, by rw [hz1, h1]; exact hmu⟩
        rw [if_pos ⟨c0, c9⟩]
      · rw [if_neg (show ¬ dg c' = 0 by rw [i_eq, hd]; show ¬ _ = (0 : Int); omega), if_neg (fun q => c9 q.2)]
        exact Or.inr ⟨z, rfl, hR⟩
    · rw [if_pos (show z ≤ 1 by rw [i_le, h1, e1]; omega), if_neg (fun q => c0 q.1)]
      exact Or.inr ⟨z, rfl, hR⟩
theorem M_lay52 (t s o p : Int32) {cn : Int32} {out r dg : Nat → Int32} {n V : Nat} {x2 : Int32} (hcn : cn.toInt = n) (hx2 : x2.toInt = n) (hn : n ≤ 420) (hV : V < 10 ^ n) (hout : ∀ j, j < n → (out (1199 - j)).toInt = ((V / 10 ^ j % 10 : Nat) : Int)) :
    ∃ dg', f_M_layRow_52 t s o cn p out r dg x2 0 = some (cn, out, r, dg') ∧ eR 420 cn dg' n V := by
  have e1200 : (1200 : Int32).toInt = 1200 := rfl
  unfold f_M_layRow_52
  obtain ⟨⟨c1, o1, r1, d1⟩, t1, t2⟩ := zrun_inv (step := f_M_layRow_52_step t s o p x2) (x := (cn, out, r, dg, 0)) (fun z => z.1 = cn ∧ z.2.1 = out ∧ z.2.2.1 = r ∧ ∃ k : Nat, k ≤ n ∧ z.2.2.2.2.toInt = (k : Int) ∧ ∀ i, i < k → (z.2.2.2.1 i).toInt = (zdt n V i : Int)) (fun z => (n - z.2.2.2.2.toInt).toNat) (fun y => y.1 = cn ∧ y.2.1 = out ∧ y.2.2.1 = r ∧ eR 420 cn y.2.2.2 n V) (by
    rintro ⟨c, o', r', d, x⟩ ⟨q1, q2, q3, k, hk, hx, hd⟩
    dsimp only at q1 q2 q3 hx hd
    subst q1 q2 q3
    unfold f_M_layRow_52_step f_M_layRow_52_body
    dsimp only
    by_cases ck : k = n
    · rw [if_pos (show c ≤ x by rw [i_le, hcn, hx]; omega)]
      rw [ck] at hd
      exact Or.inr ⟨_, rfl, rfl, rfl, rfl, hcn, hn, hV, hd⟩
    · have h1 : (1200 - x2).toInt = ((1200 - n : Nat) : Int) := by
        rw [i_sub (by rw [e1200, hx2]; omega) (by rw [e1200, hx2]; omega), e1200, hx2]
        omega
      have h2 : (1200 - x2 + x).toInt = ((1200 - n + k : Nat) : Int) := by
        rw [i_add (by rw [h1, hx]; omega) (by rw [h1, hx]; omega), h1, hx]
        omega
      have hcl : (1200 - x2 + x).toNatClampNeg = 1199 - (n - 1 - k) := by rw [i_cl, h2, Int.toNat_natCast]; clear h1 h2; omega
      have hz1 : zin (1200 - x2 + x) 1200 := by clear h1; exact ⟨by omega, by omega⟩
      clear h1 h2
      rw [if_neg (show ¬ c ≤ x by rw [i_le, hcn, hx]; omega), if_pos hz1, if_pos (show zin x 420 from ⟨by omega, by omega⟩), hcl]
      have hcx : x.toNatClampNeg = k := by rw [i_cl, hx, Int.toNat_natCast]
      rw [hcx]
      have hs : (x + 1).toInt = ((k + 1 : Nat) : Int) := i_suc hx (by omega)
      refine Or.inl ⟨_, rfl, ⟨rfl, rfl, rfl, k + 1, by omega, hs, fun i hi => ?_⟩, by dsimp only; rw [hs, hx]; exact mu_up (by omega)⟩
      dsimp only
      by_cases ci : i = k
      · subst ci
        rw [pk_us, hout (n - 1 - i) (by omega), zdt_lt (by omega)]
      · rw [pk_un ci]
        exact hd i (by omega)) ⟨rfl, rfl, rfl, 0, Nat.zero_le _, rfl, fun i hi => absurd hi (Nat.not_lt_zero _)⟩
  dsimp only at t2
  obtain ⟨q1, q2, q3, q4⟩ := t2
  subst q1 q2 q3
  exact ⟨d1, t1, q4⟩
theorem M_layRow (t s o c p : Int32) {out r dg : Nat → Int32} (hr : mOK r) {V : Nat} (hv : mV r 3 = V) (hV : V < 10 ^ 419) :
    ∃ n cn' out' r' dg', f_M_layRow t s o c p out r dg 10 = some (cn', out', r', dg') ∧ mOK r' ∧ eR 420 cn' dg' n V ∧ (n = 0 ∨ 10 ^ (n - 1) ≤ V) ∧ (∀ i, i < 700 → out' i = out i) := by
  have e0 : (0 : Int32).toInt = 0 := rfl
  have e1199 : (1199 : Int32).toInt = 1199 := rfl
  have e420 : (420 : Int32).toInt = 420 := rfl
  unfold f_M_layRow f_M_layRow_2
  obtain ⟨⟨c1, o1, r1, d1⟩, t1, n, t2⟩ := zrun_inv (step := f_M_layRow_2_step t s o p 10) (x := (c, out, r, dg, 0)) (fun z => z.1 = c ∧ z.2.2.2.1 = dg ∧ mOK z.2.2.1 ∧ (∀ i, i < 700 → z.2.1 i = out i) ∧ ∃ k : Nat, k ≤ 419 ∧ z.2.2.2.2.toInt = (k : Int) ∧ mV z.2.2.1 3 = V / 10 ^ k ∧ (k = 0 ∨ 10 ^ (k - 1) ≤ V) ∧ ∀ j, j < k → (z.2.1 (1199 - j)).toInt = ((V / 10 ^ j % 10 : Nat) : Int)) (fun z => (420 - z.2.2.2.2.toInt).toNat) (fun y => ∃ n : Nat, mOK y.2.2.1 ∧ eR 420 y.1 y.2.2.2 n V ∧ (n = 0 ∨ 10 ^ (n - 1) ≤ V) ∧ (∀ i, i < 700 → y.2.1 i = out i)) (by
    rintro ⟨c', o', r', d, x⟩ ⟨q1, q2, q3, q5, k, hk, hx, hm, hlo, hd⟩
    dsimp only at q1 q2 q3 q5 hx hm hd
    subst q1 q2
    unfold f_M_layRow_2_step f_M_layRow_2_body
    dsimp only
    obtain ⟨l, l1, l2⟩ := M_length t s o c' p q3 (a := 3) (x1 := 3) (by decide) rfl
    rw [l1, Option.bind_some]
    rw [hm] at l2
    by_cases c0 : V / 10 ^ k = 0
    · have hz : l ≤ 0 := by rw [i_le, l2, e0, c0]; decide
      rw [if_pos hz]
      have hVk : V < 10 ^ k := by
        rcases Nat.div_eq_zero_iff.mp c0 with q | q
        · have := p10p k; omega
        · exact q
      unfold f_M_layRow_32 f_M_layRow_47
      rw [if_neg (show ¬ (420 : Int32) ≤ x by rw [i_le, hx, e420]; omega)]
      obtain ⟨dg', u1, u2⟩ := M_lay52 t s o p (cn := x) (out := o') (r := r') (dg := d) hx hx (by omega) hVk hd
      rw [u1]
      exact Or.inr ⟨_, rfl, k, q3, u2, hlo, q5⟩
    · have hne : zlen (V / 10 ^ k) ≠ 0 := fun q => c0 (zlen_0.mp q)
      rw [if_neg (show ¬ l ≤ 0 by rw [i_le, l2, e0]; omega)]
      obtain ⟨dd, r2, u1, u2, u3⟩ := M_divide t s o c' p q3 (a := 3) (m := 10) (x1 := 3) (x2 := 10) (by decide) rfl rfl (by decide)
      rw [hm] at u2
      have hVk : 10 ^ k ≤ V := by
        rcases Nat.lt_or_ge V (10 ^ k) with q | q
        · exact absurd (Nat.div_eq_of_lt q) c0
        · exact q
      have hk419 : k < 419 := by
        rcases Nat.lt_or_ge k 419 with q | q
        · exact q
        · have := p10le q
          omega
      have h1 : (1199 - x).toInt = ((1199 - k : Nat) : Int) := by
        rw [i_sub (by rw [e1199, hx]; omega) (by rw [e1199, hx]; omega), e1199, hx]
        omega
      have hcl : (1199 - x).toNatClampNeg = 1199 - k := by rw [i_cl, h1, Int.toNat_natCast]
      rw [u1, Option.bind_some]
      dsimp only
      rw [if_pos (show zin (1199 - x) 1200 by clear hx; exact ⟨by omega, by omega⟩), hcl]
      clear h1 hcl
      have hs : (x + 1).toInt = ((k + 1 : Nat) : Int) := i_suc hx (by omega)
      have hmu : ((420 : Int) - ((k + 1 : Nat) : Int)).toNat < ((420 : Int) - (k : Int)).toNat := mu_up (u := 420) (by omega)
      refine Or.inl ⟨_, rfl, ⟨rfl, rfl, u3.1, fun i hi => ?_, k + 1, hk419, hs, ?_, Or.inr hVk, fun j hj => ?_⟩, by dsimp only; rw [hs, hx]; exact hmu⟩
      · dsimp only
        rw [pk_un (by omega)]
        exact q5 i hi
      · dsimp only
        rw [u3.2.1, hm, Nat.pow_succ, Nat.div_div_eq_div_mul]
      · dsimp only
        by_cases cj : j = k
        · subst cj
          rw [pk_us, u2]
        · rw [pk_un (by omega)]
          exact hd j (by omega)) ⟨rfl, rfl, hr, fun i _ => rfl, 0, by omega, rfl, by rw [Nat.pow_zero, Nat.div_one]; exact hv, Or.inl rfl, fun j hj => absurd hj (Nat.not_lt_zero _)⟩
  exact ⟨n, c1, o1, r1, d1, t1, t2⟩
theorem M_writeDigits (t s p : Int32) {cc cn : Int32} {un dg : Nat → Int32} {c V : Nat} {L : List Int32} (hR : eR 420 cc dg c V) (h : pP 1200 cn un L) {x1 x2 : Int32} {a b : Nat} (h1 : x1.toInt = a) (h2 : x2.toInt = b) (hl : L.length + (b - a) ≤ 1200) (hb : b < 100000) : ∃ cn' un', f_M_writeDigits t s cn cc p un dg x1 x2 = some (cn', un') ∧ pP 1200 cn' un' (L ++ zds (zdt c V) a (b - a)) := by
  obtain ⟨g1, g2, g3, g4⟩ := hR
  unfold f_M_writeDigits f_M_writeDigits_2
  obtain ⟨⟨c1, u1⟩, t1, t2⟩ := zrun_inv (step := f_M_writeDigits_2_step t s cc p dg x2) (x := (cn, un, x1)) (fun z => ∃ k : Nat, k ≤ b - a ∧ z.2.2.toInt = ((a + k : Nat) : Int) ∧ pP 1200 z.1 z.2.1 (L ++ zds (zdt c V) a k)) (fun z => (b - z.2.2.toInt).toNat) (fun y => pP 1200 y.1 y.2 (L ++ zds (zdt c V) a (b - a))) (by
    rintro ⟨c0, u, y⟩ ⟨k, hk, hy, hP⟩
    dsimp only at hy hP
    unfold f_M_writeDigits_2_step f_M_writeDigits_2_body f_M_writeDigits_28
    dsimp only
    by_cases ck : k = b - a
    · rw [if_pos (show x2 ≤ y by rw [i_le, h2, hy]; omega)]
      rw [ck] at hP
      exact Or.inr ⟨_, rfl, hP⟩
    · have hlt : a + k < b := by omega
      rw [if_neg (show ¬ x2 ≤ y by rw [i_le, h2, hy]; omega)]
      obtain ⟨c1, u1, t1, t2, _⟩ := M_emit t s cc p hP (by rw [List.length_append, zds_len]; omega) (zch (zdt c V (a + k)))
      have hmu : ((b : Int) - ((a + (k + 1) : Nat) : Int)).toNat < ((b : Int) - ((a + k : Nat) : Int)).toNat := by omega
      have hs : (y + 1).toInt = ((a + (k + 1) : Nat) : Int) := i_suc (k := a + k) hy (by omega)
      have hgo : ∃ q, some (Sum.inl (β := Int32 × (Nat → Int32)) (c1, u1, y + 1)) = some (Sum.inl q) ∧ (∃ k : Nat, k ≤ b - a ∧ q.2.2.toInt = ((a + k : Nat) : Int) ∧ pP 1200 q.1 q.2.1 (L ++ zds (zdt c V) a k)) ∧ (b - q.2.2.toInt).toNat < (b - y.toInt).toNat := by
        refine ⟨_, rfl, ⟨k + 1, by omega, hs, ?_⟩, by dsimp only; rw [hs, hy]; exact hmu⟩
        dsimp only
        rw [List.append_assoc] at t2
        exact t2
      left
      by_cases cc' : a + k < c
      · have hd := g4 (a + k) cc'
        have hcl : y.toNatClampNeg = a + k := by rw [i_cl, hy, Int.toNat_natCast]
        rw [if_neg (show ¬ cc ≤ y by rw [i_le, g1, hy]; clear hs; omega), if_pos (show zin y 420 by clear hs; exact ⟨by omega, by omega⟩), hcl, M_dig48 hd (zdt_9 _ _ _), t1, Option.bind_some]
        exact hgo
      · have hz : (0 : Int32).toInt = (zdt c V (a + k) : Int) := by rw [zdt_ge (by omega)]; rfl
        rw [if_pos (show cc ≤ y by rw [i_le, g1, hy]; clear hs; omega), M_dig48 hz (zdt_9 _ _ _), t1, Option.bind_some]
        exact hgo) ⟨0, Nat.zero_le _, h1, by
          show pP 1200 cn un (L ++ [])
          rw [List.append_nil]
          exact h⟩
  exact ⟨c1, u1, t1, t2⟩
