/-! the reference's round -/
/-- rows r' are rows r but for the row T -/
def mS (r r' : Nat → Int32) : Prop := mOK r' ∧ ∀ b, b < 6 → b ≠ 4 → mV r' b = mV r b
theorem or_z (x : Int64) : x ||| lN 0 = x := by
  show x ||| 0 = x
  exact Int64.or_zero
theorem zpk_0 : zpk 0 0 = 0 := by decide
theorem M_rnd189 (c1 c2 c3 c4 c5 : Int32) {r : Nat → Int32} {x1 x9 : Int64} {x7 : Int32} {v L : Nat} (hv : x9.toInt = v) (h7 : x7.toInt = (L : Int) - 1074) (hL : L < 1000000) (hv2 : v ≤ 9007199254740992) (hsm : v < 4503599627370496 → L = 0) :
    f_M_round_189 c1 c2 c3 c4 c5 r x1 x7 x9 = some (x1 ||| lN (zpk L v), r) := by
  unfold f_M_round_189
  rw [M_packed hv h7 hL hv2 hsm, Option.bind_some]
theorem M_rnd164 (c1 c2 c3 c4 c5 : Int32) {r : Nat → Int32} {x1 x9 : Int64} {x7 x11 x12 : Int32} {v L h w : Nat} (hv : x9.toInt = v) (h7 : x7.toInt = (L : Int) - 1074) (hL : L < 1000000) (hv2 : v < 9007199254740992) (hsm : v < 4503599627370496 → L = 0) (h11 : x11.toInt = h) (hh : h < 2) (h12 : x12.toInt = w) (hw : w < 2) :
    f_M_round_164 c1 c2 c3 c4 c5 r x1 x7 x9 x11 x12 = some (x1 ||| lN (zpk L (if h = 1 ∧ (w = 1 ∨ v % 2 = 1) then v + 1 else v)), r) := by
  have e0 : (0 : Int32).toInt = 0 := rfl
  have e1 : (1 : Int64).toInt = 1 := rfl
  have hb : (x9 &&& 1).toInt = ((v % 2 : Nat) : Int) := by
    rw [l_and 1 (by decide) rfl, hv]; exact (Int.natCast_emod _ _).symm
  have hs : (x9 + 1).toInt = ((v + 1 : Nat) : Int) := by
    rw [l_add, hv, e1] <;> (try rw [hv, e1]) <;> omega
  have up : f_M_round_183 c1 c2 c3 c4 c5 r x1 x7 x9 = some (x1 ||| lN (zpk L (v + 1)), r) := by
    unfold f_M_round_183
    by_cases q : v + 1 < 4503599627370496
    · exact M_rnd189 c1 c2 c3 c4 c5 hs h7 hL (by omega) (fun _ => hsm (by omega))
    · exact M_rnd189 c1 c2 c3 c4 c5 hs h7 hL (by omega) (fun z => absurd z q)
  have dn := M_rnd189 c1 c2 c3 c4 c5 (r := r) (x1 := x1) hv h7 hL (by omega) hsm
  unfold f_M_round_164
  by_cases ch : h = 0
  · rw [if_pos (by rw [i_eq, h11, ch]; rfl), if_neg (by omega)]
    exact dn
  · rw [if_neg (by rw [i_eq, h11, e0]; omega)]
    by_cases cw : w = 0
    · rw [if_pos (by rw [i_eq, h12, cw]; rfl)]
      by_cases cv : v % 2 = 1
      · rw [if_pos (by rw [l_eq, hb, cv]; rfl), if_pos ⟨by omega, Or.inr cv⟩]
        exact up
      · rw [if_neg (by rw [l_eq, hb, e1]; omega), if_neg (by omega)]
        exact dn
    · rw [if_neg (by rw [i_eq, h12, e0]; omega), if_pos ⟨by omega, Or.inl (by omega)⟩]
      exact up
def b2n (p : Prop) [Decidable p] : Nat := if p then 1 else 0
theorem b2n_lt (p : Prop) [Decidable p] : b2n p < 2 := by unfold b2n; split <;> decide
theorem mod_step {V k : Nat} : V % 2 ^ (k + 1) ≠ 0 ↔ V % 2 ^ k ≠ 0 ∨ V / 2 ^ k % 2 = 1 := by
  have hm : V % 2 ^ (k + 1) = V % 2 ^ k + 2 ^ k * (V / 2 ^ k % 2) := Nat.mod_pow_succ
  have hp := p2pos k
  have hh : V / 2 ^ k % 2 < 2 := Nat.mod_lt _ (by decide)
  rw [hm]
  generalize V / 2 ^ k % 2 = h at *
  rcases Nat.lt_or_ge 0 h with q | q
  · have : h = 1 := by omega
    subst this
    omega
  · have : h = 0 := by omega
    subst this
    omega
theorem M_rnd119 (c1 c2 c3 c4 c5 : Int32) {r : Nat → Int32} (hr : mOK r) {a : Nat} {x1 x9 : Int64} {x3 x6 x7 x8 x11 x12 : Int32} {v L h o mo : Nat} (ha : a < 6) (hx3 : x3.toInt = a) (h6 : x6.toInt = (zlen (mV r a) : Int)) (h8 : x8.toInt = o) (ho : 0 < o) (hv : x9.toInt = v) (h7 : x7.toInt = (L : Int) - 1074) (hL : L < 1000000) (hv2 : v < 9007199254740992) (hsm : v < 4503599627370496 → L = 0) (h11 : x11.toInt = h) (hh : h < 2) (h12 : x12.toInt = mo) (hmo : mo < 2) :
    f_M_round_119 c1 c2 c3 c4 c5 r x1 x3 x6 x7 x8 x9 x11 x12 0 = some (x1 ||| lN (zpk L (if h = 1 ∧ (mo = 1 ∨ mV r a % 2 ^ (o - 1) ≠ 0 ∨ v % 2 = 1) then v + 1 else v)), r) := by
  have e1 : (1 : Int32).toInt = 1 := rfl
  have e0 : (0 : Int32).toInt = 0 := rfl
  have hz := zlen_lt (mV r a)
  have r8 := i_rng x8
  have hp8 : (x8 - 1).toInt = ((o - 1 : Nat) : Int) := by
    rw [i_sub, h8, e1] <;> (try rw [h8, e1]) <;> omega
  unfold f_M_round_119
  obtain ⟨y, hy1, hy2⟩ := zrun_inv (step := f_M_round_119_step c1 c2 c3 c4 c5 x1 x3 x6 x7 x8 x9 x11) (x := (r, x12, 0)) (fun z => ∃ k : Nat, k ≤ o - 1 ∧ k ≤ zlen (mV r a) ∧ z.1 = r ∧ z.2.2.toInt = (k : Int) ∧ z.2.1.toInt = (b2n (mo = 1 ∨ mV r a % 2 ^ k ≠ 0) : Int)) (fun z => ((o : Int) - z.2.2.toInt).toNat)
    (fun y => y = (x1 ||| lN (zpk L (if h = 1 ∧ (mo = 1 ∨ mV r a % 2 ^ (o - 1) ≠ 0 ∨ v % 2 = 1) then v + 1 else v)), r)) (by
      rintro ⟨q, w, x13⟩ ⟨k, hk1, hk2, hq, hk, hw⟩
      dsimp only at hq hk hw
      subst hq
      unfold f_M_round_119_step f_M_round_119_body
      dsimp only
      have fin : (k = o - 1 ∨ k = zlen (mV q a)) → f_M_round_164 c1 c2 c3 c4 c5 q x1 x7 x9 x11 w = some (x1 ||| lN (zpk L (if h = 1 ∧ (mo = 1 ∨ mV q a % 2 ^ (o - 1) ≠ 0 ∨ v % 2 = 1) then v + 1 else v)), q) := by
        intro hend
        rw [M_rnd164 c1 c2 c3 c4 c5 hv h7 hL hv2 hsm h11 hh hw (b2n_lt _)]
        have e5 : mV q a % 2 ^ k = mV q a % 2 ^ (o - 1) := by
          rcases hend with e | e
          · rw [e]
          · have : mV q a < 2 ^ (o - 1) := Nat.lt_of_lt_of_le hz (p2le (by omega))
            rw [e, Nat.mod_eq_of_lt hz, Nat.mod_eq_of_lt this]
        rw [e5]
        have e6 : (h = 1 ∧ (b2n (mo = 1 ∨ mV q a % 2 ^ (o - 1) ≠ 0) = 1 ∨ v % 2 = 1)) ↔ (h = 1 ∧ (mo = 1 ∨ mV q a % 2 ^ (o - 1) ≠ 0 ∨ v % 2 = 1)) := by
          unfold b2n
          by_cases c : mo = 1 ∨ mV q a % 2 ^ (o - 1) ≠ 0
          · rw [if_pos c]
            constructor
            · rintro ⟨a1, -⟩; exact ⟨a1, by rcases c with c | c; exact Or.inl c; exact Or.inr (Or.inl c)⟩
            · rintro ⟨a1, -⟩; exact ⟨a1, Or.inl rfl⟩
          · rw [if_neg c]
            constructor
            · rintro ⟨a1, a2 | a2⟩
              · cases a2
              · exact ⟨a1, Or.inr (Or.inr a2)⟩
            · rintro ⟨a1, a2 | a2 | a2⟩
              · exact absurd (Or.inl a2) c
              · exact absurd (Or.inr a2) c
              · exact ⟨a1, Or.inr a2⟩
        by_cases c : h = 1 ∧ (mo = 1 ∨ mV q a % 2 ^ (o - 1) ≠ 0 ∨ v % 2 = 1)
        · rw [if_pos c, if_pos (e6.mpr c)]
        · rw [if_neg c, if_neg (fun z => c (e6.mp z))]
      by_cases ca : k = o - 1
      · rw [if_pos (by rw [i_le, hp8, hk]; omega), fin (Or.inl ca)]
        exact Or.inr ⟨_, rfl, rfl⟩
      · rw [if_neg (by rw [i_le, hp8, hk]; omega)]
        by_cases cb : k = zlen (mV q a)
        · rw [if_pos (by rw [i_le, h6, hk]; omega), fin (Or.inr cb)]
          exact Or.inr ⟨_, rfl, rfl⟩
        · rw [if_neg (by rw [i_le, h6, hk]; omega)]
          have hsuc := i_suc hk (by omega)
          have go : ∀ s0 : Int32, s0.toInt = (b2n (mo = 1 ∨ mV q a % 2 ^ (k + 1) ≠ 0) : Int) → (∃ y, f_M_round_156 c1 c2 c3 c4 c5 q x1 x3 x6 x7 x8 x9 x11 x13 s0 = some (Sum.inl y) ∧ (∃ k : Nat, k ≤ o - 1 ∧ k ≤ zlen (mV q a) ∧ y.1 = q ∧ y.2.2.toInt = (k : Int) ∧ y.2.1.toInt = (b2n (mo = 1 ∨ mV q a % 2 ^ k ≠ 0) : Int)) ∧ ((o : Int) - y.2.2.toInt).toNat < ((o : Int) - x13.toInt).toNat) := by
            intro s0 hs
            unfold f_M_round_156
            exact ⟨_, rfl, ⟨k + 1, by omega, by omega, rfl, hsuc, hs⟩, by dsimp only; rw [hsuc, hk]; omega⟩
          have one : (mo = 1 ∨ mV q a % 2 ^ (k + 1) ≠ 0) → ((1 : Int32).toInt = (b2n (mo = 1 ∨ mV q a % 2 ^ (k + 1) ≠ 0) : Int)) := fun c => by unfold b2n; rw [if_pos c]; rfl
          by_cases cw : mo = 1 ∨ mV q a % 2 ^ k ≠ 0
          · have hw1 : w.toInt = 1 := by rw [hw]; unfold b2n; rw [if_pos cw]; rfl
            rw [if_neg (by rw [i_eq, hw1, e0]; decide)]
            unfold f_M_round_151
            exact Or.inl (go 1 (one (by rcases cw with c | c; exact Or.inl c; exact Or.inr (mod_step.mpr (Or.inl c)))))
          · have hw1 : w.toInt = 0 := by rw [hw]; unfold b2n; rw [if_neg cw]; rfl
            obtain ⟨d, hd1, hd2⟩ := M_bit c1 c2 c3 c4 c5 hr ha hx3 hk
            rw [if_pos (by rw [i_eq, hw1, e0]), hd1, Option.bind_some]
            by_cases cd : mV q a / 2 ^ k % 2 = 1
            · rw [if_pos (by rw [i_eq, hd2, cd]; rfl)]
              unfold f_M_round_151
              exact Or.inl (go 1 (one (Or.inr (mod_step.mpr (Or.inr cd)))))
            · have hlt : mV q a / 2 ^ k % 2 < 2 := Nat.mod_lt _ (by decide)
              rw [if_neg (by rw [i_eq, hd2, e1]; omega)]
              refine Or.inl (go 0 ?_)
              unfold b2n
              rw [if_neg]
              · rfl
              · rintro (c | c)
                · exact cw (Or.inl c)
                · rcases mod_step.mp c with c | c
                  · exact cw (Or.inr c)
                  · exact cd c) ⟨0, by omega, by omega, rfl, rfl, by
                  dsimp only
                  rw [h12, Nat.pow_zero, Nat.mod_one]
                  unfold b2n
                  by_cases c : mo = 1
                  · rw [if_pos (Or.inl c), c]
                  · rw [if_neg (by rintro (q | q); exact c q; exact q rfl)]; omega⟩
  rw [hy1, hy2]
