/-! the reference's rows: length, shift, tens, quotient -/
theorem mR_trans {r r1 r2 : Nat → Int32} {a v1 v2 : Nat} (h1 : mR r r1 a v1) (h2 : mR r1 r2 a v2) : mR r r2 a v2 := ⟨h2.1, h2.2.1, fun b hb hne => (h2.2.2 b hb hne).trans (h1.2.2 b hb hne)⟩
theorem M_len35 (c1 c2 c3 c4 c5 : Int32) {r : Nat → Int32} (hr : mOK r) {a n : Nat} {x1 x2 : Int32} (ha : a < 6) (hx1 : x1.toInt = a) (hx2 : x2.toInt = n) (hn : mV r a < 2 ^ n) :
    ∃ d, f_M_length_35 c1 c2 c3 c4 c5 r x1 x2 = some d ∧ d.toInt = (zlen (mV r a) : Int) := by
  have e0 : (0 : Int32).toInt = 0 := rfl
  have e1 : (1 : Int32).toInt = 1 := rfl
  unfold f_M_length_35
  exact zrun_inv (step := f_M_length_35_step c1 c2 c3 c4 c5 r x1) (x := x2) (fun z => ∃ k : Nat, z.toInt = (k : Int) ∧ mV r a < 2 ^ k) (fun z => z.toInt.toNat)
    (fun y => y.toInt = (zlen (mV r a) : Int)) (by
      rintro x ⟨k, hk, hv⟩
      unfold f_M_length_35_step f_M_length_35_body
      by_cases hk0 : k = 0
      · subst hk0
        refine Or.inr ⟨x, by rw [if_pos (by rw [i_le, e0, hk]; omega)]; rfl, ?_⟩
        rw [zlen_of hv (Or.inl rfl), hk]
      · obtain ⟨j, rfl⟩ : ∃ j, k = j + 1 := ⟨k - 1, by omega⟩
        have rx := i_rng x
        have hp : (x - 1).toInt = (j : Int) := by
          rw [i_sub, e1, hk] <;> (try rw [e1, hk]) <;> omega
        obtain ⟨d, hd1, hd2⟩ := M_bit c1 c2 c3 c4 c5 hr ha hx1 hp
        rw [if_neg (by rw [i_le, e0, hk]; omega), hd1, Option.bind_some]
        have hq : mV r a / 2 ^ j < 2 := by
          apply Nat.div_lt_of_lt_mul
          rw [Nat.pow_succ] at hv
          exact hv
        by_cases hz : mV r a / 2 ^ j = 0
        · rw [if_pos (by rw [i_eq, hd2, hz]; rfl)]
          refine Or.inl ⟨_, rfl, ⟨j, ?_, ?_⟩, ?_⟩
          · rw [i_prd hk]; omega
          · rcases Nat.div_eq_zero_iff.mp hz with q | q
            · have := p2pos j; omega
            · exact q
          · rw [i_prd hk, hk]; omega
        · have hone : mV r a / 2 ^ j = 1 := by generalize mV r a / 2 ^ j = y at hq hz ⊢; omega
          rw [if_neg (by rw [i_eq, hd2, hone]; decide)]
          refine Or.inr ⟨x, rfl, ?_⟩
          rw [zlen_of hv (Or.inr ?_), hk]
          rw [Nat.add_sub_cancel]
          have := Nat.div_mul_le_self (mV r a) (2 ^ j)
          rw [hone] at this
          omega) ⟨n, hx2, hn⟩
theorem M_length (c1 c2 c3 c4 c5 : Int32) {r : Nat → Int32} (hr : mOK r) {a : Nat} {x1 : Int32} (ha : a < 6) (hx1 : x1.toInt = a) :
    ∃ d, f_M_length c1 c2 c3 c4 c5 r x1 = some d ∧ d.toInt = (zlen (mV r a) : Int) := by
  have e0 : (0 : Int32).toInt = 0 := rfl
  have e1 : (1 : Int32).toInt = 1 := rfl
  have e24 : (24 : Int32).toInt = 24 := rfl
  unfold f_M_length f_M_length_4
  have hlt := mV_lt hr ha
  exact zrun_inv (step := f_M_length_4_step c1 c2 c3 c4 c5 r x1) (x := 2496) (fun z => ∃ k : Nat, k ≤ 104 ∧ z.toInt = ((24 * k : Nat) : Int) ∧ mV r a < 16777216 ^ k ∧ mV r a = zv 16777216 (mw r a) k) (fun z => z.toInt.toNat)
    (fun y => y.toInt = (zlen (mV r a) : Int)) (by
      rintro x ⟨k, hk, hx, hv, hvz⟩
      unfold f_M_length_4_step f_M_length_4_body
      have hpow : mV r a < 2 ^ (24 * k) := by rw [Nat.pow_mul]; exact hv
      obtain ⟨d, hd1, hd2⟩ := M_len35 c1 c2 c3 c4 c5 hr ha hx1 hx hpow
      by_cases hk0 : k = 0
      · subst hk0
        rw [if_pos (by rw [i_le, e0, hx]; omega), hd1]
        exact Or.inr ⟨d, rfl, hd2⟩
      · obtain ⟨j, rfl⟩ : ∃ j, k = j + 1 := ⟨k - 1, by omega⟩
        have hp : (x - 1).toInt = ((24 * (j + 1) - 1 : Nat) : Int) := by
          rw [i_sub, e1, hx] <;> (try rw [e1, hx]) <;> omega
        have hdv : ((x - 1) / 24).toInt = (j : Int) := by
          rw [i_div (by rw [hp]; omega) (by decide), hp, e24]; omega
        have hj : j < 104 := by omega
        rw [if_neg (by rw [i_le, e0, hx]; omega), if_pos (mIn hx1 hdv ha hj), mCl hx1 hdv ha hj]
        have wa := mw_i hr ha hj
        by_cases hz : mw r a j = 0
        · rw [if_pos (by rw [i_eq, wa, hz]; rfl)]
          have hs : (x - 24).toInt = ((24 * j : Nat) : Int) := by
            rw [i_sub, e24, hx] <;> (try rw [e24, hx]) <;> omega
          have hvz' : mV r a = zv 16777216 (mw r a) j := by
            rw [hvz]
            show zv 16777216 (mw r a) j + mw r a j * 16777216 ^ j = _
            rw [hz]; omega
          refine Or.inl ⟨_, rfl, ⟨j, by omega, hs, ?_, hvz'⟩, by rw [hs, hx]; omega⟩
          rw [hvz']
          exact zv_lt (by decide) fun i hi => mw_lt hr ha (by omega)
        · rw [if_neg (by rw [i_eq, wa, e0]; omega), hd1]
          exact Or.inr ⟨d, rfl, hd2⟩) ⟨104, Nat.le_refl _, rfl, hlt, rfl⟩
theorem zv_shift {B : Nat} (f : Nat → Nat) (far : Nat) : ∀ n, zv B (fun j => if j < far then 0 else f (j - far)) (far + n) = B ^ far * zv B f n := by
  intro n
  rw [zv_split far n, zv_zero (fun i hi => if_pos hi), Nat.zero_add]
  congr 1
  exact zv_congr fun i hi => by rw [if_neg (by omega), Nat.add_sub_cancel_left]
theorem M_shift (c1 c2 c3 c4 c5 : Int32) {r : Nat → Int32} (hr : mOK r) {a n : Nat} {x1 x2 : Int32} (ha : a < 6) (hx1 : x1.toInt = a) (hx2 : x2.toInt = n) :
    ∃ r', f_M_shift c1 c2 c3 c4 c5 r x1 x2 = some r' ∧ mR r r' a (mV r a * 2 ^ n % mTop) := by
  have e0 : (0 : Int32).toInt = 0 := rfl
  have e1 : (1 : Int32).toInt = 1 := rfl
  have e24 : (24 : Int32).toInt = 24 := rfl
  have rx := i_rng x2
  have hd : (x2 / 24).toInt = ((n / 24 : Nat) : Int) := by
    rw [i_div (by omega) (by decide), hx2, e24]; exact (Int.natCast_ediv _ _).symm
  have hm : (jrem x2 24).toInt = ((n % 24 : Nat) : Int) := by
    rw [i_rem (by omega) (by decide), hx2, e24]; exact (Int.natCast_emod _ _).symm
  have hpw : (jshl 1 (jrem x2 24)).toInt = ((2 ^ (n % 24) : Nat) : Int) := by
    have hb : 2 ^ (n % 24) ≤ 2 ^ 23 := p2le (by omega)
    have hp := p2pos (n % 24)
    have e3 : (1 : Int32).toInt * ((2 ^ (n % 24) : Nat) : Int) = ((2 ^ (n % 24) : Nat) : Int) := by rw [e1, Int.one_mul]
    rw [i_shl hm (by omega), e3] <;> (try rw [e3]) <;> omega
  unfold f_M_shift f_M_shift_9
  generalize hfar : n / 24 = far at hd
  refine zrun_inv (step := f_M_shift_9_step c1 c2 c3 c4 c5 x1 x2 (x2 / 24)) (x := (r, 103)) (fun z => ∃ k : Nat, k ≤ 104 ∧ z.2.toInt = (k : Int) - 1 ∧ mOK z.1 ∧ (∀ i, (i < 104 * a + k ∨ 104 * a + 104 ≤ i) → z.1 i = r i) ∧ ∀ j, k ≤ j → j < 104 → mw z.1 a j = if j < far then 0 else mw r a (j - far)) (fun z => (z.2.toInt + 1).toNat)
    (fun r' => mR r r' a (mV r a * 2 ^ n % mTop)) ?_ ⟨104, Nat.le_refl _, rfl, hr, fun i _ => rfl, fun j h1 h2 => absurd h2 (by omega)⟩
  rintro ⟨q, x4⟩ ⟨k, hk, h4, hq, hsame, hdig⟩
  dsimp only at h4 hq hsame hdig
  unfold f_M_shift_9_step f_M_shift_9_body f_M_shift_49 f_M_shift_56
  dsimp only
  by_cases hk0 : k = 0
  · subst hk0
    obtain ⟨r', h1, h2, h3, h5⟩ := M_times c1 c2 c3 c4 c5 hq ha hx1 hpw e0
    rw [if_pos (by rw [i_lt, e0, h4]; omega), h1]
    refine Or.inr ⟨r', rfl, ?_⟩
    have hone := mR_of ha h2 h3 h5
    refine ⟨hone.1, ?_, fun b hb hne => (hone.2.2 b hb hne).trans (mV_same fun j hj => hsame _ (by omega))⟩
    rw [hone.2.1, Nat.add_zero]
    have hV : mV q a = mV r a * 16777216 ^ far % mTop := by
      have e5 : mV q a = zv 16777216 (fun j => if j < far then 0 else mw r a (j - far)) 104 := zv_congr fun i hi => hdig i (by omega) hi
      rcases Nat.lt_or_ge far 104 with hf | hf
      · have e6 := zv_shift (B := 16777216) (mw r a) far (104 - far)
        rw [show far + (104 - far) = 104 by omega] at e6
        have e7 := zv_mod (B := 16777216) (by decide) (f := mw r a) (n := 104) (k := 104 - far) (by omega) (fun i hi => mw_lt hr ha hi)
        have e8 : mTop = 16777216 ^ (104 - far) * 16777216 ^ far := by unfold mTop; rw [← Nat.pow_add, show 104 - far + far = 104 by omega]
        rw [e5, e6, ← e7, e8, Nat.mul_mod_mul_right, Nat.mul_comm]
        rfl
      · rw [e5, zv_zero (fun i hi => if_pos (by omega))]
        have e9 : mV r a * 16777216 ^ far = mV r a * 16777216 ^ (far - 104) * mTop := by
          unfold mTop
          rw [Nat.mul_assoc, ← Nat.pow_add, show far - 104 + 104 = far by omega]
        rw [e9, Nat.mul_mod_left]
    rw [hV, Nat.mod_mul_mod]
    congr 1
    rw [Nat.mul_assoc]
    congr 1
    rw [show (16777216 : Nat) = 2 ^ 24 from rfl, ← Nat.pow_mul, ← Nat.pow_add]
    congr 1
    omega
  · obtain ⟨j, rfl⟩ : ∃ j, k = j + 1 := ⟨k - 1, by omega⟩
    have h4' : x4.toInt = (j : Int) := by omega
    have hj : j < 104 := by omega
    have hin := mIn hx1 h4' ha hj
    have hcl := mCl hx1 h4' ha hj
    have key : ∀ v : Int32, v.toInt = ((if j < far then 0 else mw r a (j - far) : Nat) : Int) → (∃ y, some (Sum.inl (upd q (104 * a + j) v, x4 + (-1))) = some (Sum.inl (β := Nat → Int32) y) ∧ (∃ k : Nat, k ≤ 104 ∧ y.2.toInt = (k : Int) - 1 ∧ mOK y.1 ∧ (∀ i, (i < 104 * a + k ∨ 104 * a + 104 ≤ i) → y.1 i = r i) ∧ ∀ j, k ≤ j → j < 104 → mw y.1 a j = if j < far then 0 else mw r a (j - far)) ∧ (y.2.toInt + 1).toNat < (x4.toInt + 1).toNat) := by
      intro v hv
      have hl : (if j < far then 0 else mw r a (j - far) : Nat) < 16777216 := by
        split
        · decide
        · exact mw_lt hr ha (by omega)
      refine ⟨_, rfl, ⟨j, by omega, i_prd h4', mOK_upd hq (by rw [hv]; omega) (by rw [hv]; omega), fun i hi => ?_, fun i h1 h2 => ?_⟩, ?_⟩
      · show upd q _ _ i = r i
        rw [pk_un (by omega)]
        exact hsame i (by omega)
      · show mw (upd q _ _) a i = _
        by_cases e : i = j
        · subst e; exact mw_us hv
        · rw [mw_un (by omega)]; exact hdig i (by omega) h2
      · dsimp only
        rw [i_prd h4', h4']
        omega
    by_cases hf : far ≤ j
    · have hix : (((104 * x1) + x4) - (x2 / 24)).toInt = ((104 * a + (j - far) : Nat) : Int) := by
        have := mIx hx1 h4' ha hj
        rw [i_sub, this, hd] <;> (try rw [this, hd]) <;> omega
      have hz : zin (((104 * x1) + x4) - (x2 / 24)) 624 := by unfold zin; rw [hix]; omega
      have hc : (((104 * x1) + x4) - (x2 / 24)).toNatClampNeg = 104 * a + (j - far) := by rw [i_cl, hix]; exact Int.toNat_natCast _
      rw [if_neg (by rw [i_lt, e0, h4']; omega), if_pos (by rw [i_le, hd, h4']; omega), if_pos hz, if_pos hin, hcl, hc]
      refine Or.inl (key _ ?_)
      rw [if_neg (by omega), hsame _ (by omega)]
      exact mw_i hr ha (by omega)
    · rw [if_neg (by rw [i_lt, e0, h4']; omega), if_neg (by rw [i_le, hd, h4']; omega), if_pos hin, hcl]
      refine Or.inl (key 0 ?_)
      rw [if_pos (by omega)]
      rfl
