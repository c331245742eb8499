/-! the reference's rows: dividing, shifting, bits, length -/
theorem i_ne0 {x : Int32} {n : Nat} (h : x.toInt = n) (hn : 0 < n) : ¬ x.toInt64 = 0 := by
  rw [l_eq, i2l, h]
  show ¬ (n : Int) = 0
  omega
theorem zv_cons {B : Nat} (g : Nat → Nat) (n L : Nat) : zv B (fun i => g (n + i)) (L + 1) = g n + B * zv B (fun i => g (n + 1 + i)) L := by
  have h := zv_split (B := B) (f := fun i => g (n + i)) 1 L
  rw [Nat.add_comm 1 L] at h
  rw [h, Nat.pow_one]
  have e1 : zv B (fun i => g (n + i)) 1 = g n := by simp [zv]
  have e2 : zv B (fun i => g (n + (1 + i))) L = zv B (fun i => g (n + 1 + i)) L := zv_congr fun i _ => by rw [Nat.add_assoc]
  rw [e1, e2]
theorem M_divide (c1 c2 c3 c4 c5 : Int32) {r : Nat → Int32} (hr : mOK r) {a m : Nat} {x1 x2 : Int32} (ha : a < 6) (hx1 : x1.toInt = a) (hx2 : x2.toInt = m) (hm : 0 < m) :
    ∃ d r', f_M_divide c1 c2 c3 c4 c5 r x1 x2 = some (d, r') ∧ d.toInt = ((mV r a % m : Nat) : Int) ∧ mR r r' a (mV r a / m) := by
  have e0 : (0 : Int32).toInt = 0 := rfl
  have rm := i_rng x2
  unfold f_M_divide f_M_divide_6
  obtain ⟨⟨d, r'⟩, h1, h2, h3, h4, h5⟩ := zrun_inv (step := f_M_divide_6_step c1 c2 c3 c4 c5 x1 x2) (x := (r, 0, 103)) (fun z => ∃ k c : Nat, k ≤ 104 ∧ z.2.2.toInt = (k : Int) - 1 ∧ z.2.1.toInt = (c : Int) ∧ c = zv 16777216 (fun i => mw r a (k + i)) (104 - k) % m ∧ mOK z.1 ∧ (∀ i, (i < 104 * a + k ∨ 104 * a + 104 ≤ i) → z.1 i = r i) ∧ zv 16777216 (fun i => mw z.1 a (k + i)) (104 - k) = zv 16777216 (fun i => mw r a (k + i)) (104 - k) / m) (fun z => (z.2.2.toInt + 1).toNat)
    (fun y => y.1.toInt = ((mV r a % m : Nat) : Int) ∧ mOK y.2 ∧ mV y.2 a = mV r a / m ∧ ∀ i, (i < 104 * a ∨ 104 * a + 104 ≤ i) → y.2 i = r i) (by
      rintro ⟨q, cy, x5⟩ ⟨k, c, hk, h5, hc, hc2, hq, hsame, hval⟩
      dsimp only at h5 hc hq hsame hval
      unfold f_M_divide_6_step f_M_divide_6_body
      dsimp only
      have hcm : c < m := by rw [hc2]; exact Nat.mod_lt _ hm
      by_cases hk0 : k = 0
      · subst hk0
        simp only [Nat.zero_add, Nat.sub_zero, Nat.add_zero] at hc2 hval hsame
        refine Or.inr ⟨(cy.toInt32, q), by rw [if_pos (by rw [i_lt, e0, h5]; omega)]; rfl, ?_, hq, hval, hsame⟩
        dsimp only
        rw [l2i, hc, hc2] <;> (try rw [hc]) <;> (try omega)
        rfl
      · obtain ⟨n, rfl⟩ : ∃ n, k = n + 1 := ⟨k - 1, by omega⟩
        have h5' : x5.toInt = (n : Int) := by omega
        have hn : n < 104 := by omega
        have hin := mIn hx1 h5' ha hn
        have hcl := mCl hx1 h5' ha hn
        have wa := mw_i hq ha hn
        have la := mw_lt hq ha hn
        have hne := i_ne0 hx2 hm
        have hw3 : mw q a n = mw r a n := by unfold mw; rw [hsame _ (by omega)]
        rw [if_neg (by rw [i_lt, e0, h5']; omega), if_pos hin, if_pos hne, if_pos hin, if_pos hne, hcl]
        have e1 : (jlshl cy 24).toInt = ((2 ^ 24 * c : Nat) : Int) := by
          have e3 : cy.toInt * ((2 ^ 24 : Nat) : Int) = ((2 ^ 24 * c : Nat) : Int) := by rw [hc, Nat.mul_comm]; exact (Int.natCast_mul _ _).symm
          rw [l_shl (n := 24) rfl (by decide), e3] <;> (try rw [e3]) <;> omega
        have e2 : (jlshl cy 24 ||| (q (104 * a + n)).toInt64).toInt = ((c * 16777216 + mw q a n : Nat) : Int) := by
          rw [l_or 24 c (mw q a n) e1 (by rw [i2l, wa]) (by omega), e1, i2l, wa]
          omega
        generalize jlshl cy 24 ||| (q (104 * a + n)).toInt64 = v at e2 ⊢
        have hvd : v.toInt = ((c * 16777216 + mw q a n : Nat) : Int) := e2
        have hlt : (c * 16777216 + mw q a n) / m < 16777216 := by
          apply Nat.div_lt_of_lt_mul
          have : (c + 1) * 16777216 ≤ m * 16777216 := Nat.mul_le_mul_right _ hcm
          omega
        have e4 : (v / x2.toInt64).toInt = (((c * 16777216 + mw q a n) / m : Nat) : Int) := by
          rw [l_div (by rw [hvd]; omega) (by rw [i2l, hx2]; omega), hvd, i2l, hx2]; exact (Int.natCast_ediv _ _).symm
        have e5 : ((v / x2.toInt64).toInt32).toInt = (((c * 16777216 + mw q a n) / m : Nat) : Int) := by
          generalize (c * 16777216 + mw q a n) / m = Qd at hlt e4 ⊢
          rw [l2i, e4] <;> rw [e4] <;> omega
        have e5a : 0 ≤ ((v / x2.toInt64).toInt32).toInt ∧ ((v / x2.toInt64).toInt32).toInt < 16777216 := by
          generalize (c * 16777216 + mw q a n) / m = Qd at hlt e5
          omega
        have e6 : (jlrem v x2.toInt64).toInt = (((c * 16777216 + mw q a n) % m : Nat) : Int) := by
          rw [l_rem (by rw [hvd]; omega) (by rw [i2l, hx2]; omega), hvd, i2l, hx2]; exact (Int.natCast_emod _ _).symm
        have hz : ∀ g : Nat → Nat, zv 16777216 (fun i => g (n + i)) (104 - n) = g n + 16777216 * zv 16777216 (fun i => g (n + 1 + i)) (104 - (n + 1)) := by
          intro g
          have := zv_cons (B := 16777216) g n (104 - (n + 1))
          rw [show 104 - (n + 1) + 1 = 104 - n by omega] at this
          exact this
        refine Or.inl ⟨_, rfl, ⟨n, (c * 16777216 + mw q a n) % m, by omega, i_prd h5', e6, ?_, mOK_upd hq e5a.1 e5a.2, fun i hi => ?_, ?_⟩, ?_⟩
        · rw [hz (mw r a), hw3, Nat.add_comm, Nat.mul_comm c, hc2]
          rw [Nat.add_mod, Nat.mul_mod, Nat.mod_mod, ← Nat.mul_mod, ← Nat.add_mod]
        · show upd q _ _ i = r i
          rw [pk_un (by omega)]
          exact hsame i (by omega)
        · show zv _ (fun i => mw (upd q _ _) a (n + i)) (104 - n) = _
          rw [hz (mw (upd q (104 * a + n) _) a), hz (mw r a), mw_us e5]
          have e7 : zv 16777216 (fun i => mw (upd q (104 * a + n) (v / x2.toInt64).toInt32) a (n + 1 + i)) (104 - (n + 1)) = zv 16777216 (fun i => mw q a (n + 1 + i)) (104 - (n + 1)) := zv_congr fun i hi => mw_un (by omega)
          rw [e7, hval, hw3, hc2]
          generalize zv 16777216 (fun i => mw r a (n + 1 + i)) (104 - (n + 1)) = Hh
          have hdm := Nat.div_add_mod Hh m
          have e8 : mw r a n + 16777216 * Hh = (Hh % m * 16777216 + mw r a n) + m * (16777216 * (Hh / m)) := by
            have : 16777216 * Hh = 16777216 * (m * (Hh / m)) + 16777216 * (Hh % m) := by rw [← Nat.mul_add, hdm]
            rw [this, Nat.mul_left_comm m 16777216]
            omega
          rw [e8, Nat.add_mul_div_left _ _ hm]
        · dsimp only
          rw [i_prd h5', h5']
          omega) ⟨104, 0, Nat.le_refl _, rfl, rfl, by simp [zv], hr, fun i _ => rfl, by simp [zv]⟩
  exact ⟨d, r', h1, h2, mR_of ha h3 h4 h5⟩
theorem mTop_eq : mTop = 2 ^ 2496 := by unfold mTop; rw [show (16777216 : Nat) = 2 ^ 24 from rfl, ← Nat.pow_mul]
theorem M_bit (c1 c2 c3 c4 c5 : Int32) {r : Nat → Int32} (hr : mOK r) {a k : Nat} {x1 x2 : Int32} (ha : a < 6) (hx1 : x1.toInt = a) (hx2 : x2.toInt = k) :
    ∃ d, f_M_bit c1 c2 c3 c4 c5 r x1 x2 = some d ∧ d.toInt = ((mV r a / 2 ^ k % 2 : Nat) : Int) := by
  have rx := i_rng x2
  have e24 : (24 : Int32).toInt = 24 := rfl
  have e104 : (104 : Int32).toInt = 104 := rfl
  have hd : (x2 / 24).toInt = ((k / 24 : Nat) : Int) := by
    rw [i_div (by omega) (by decide), hx2, e24]; exact (Int.natCast_ediv _ _).symm
  have hm : (jrem x2 24).toInt = ((k % 24 : Nat) : Int) := by
    rw [i_rem (by omega) (by decide), hx2, e24]; exact (Int.natCast_emod _ _).symm
  unfold f_M_bit
  by_cases h : k / 24 < 104
  · have wa := mw_i hr ha h
    rw [if_pos (by rw [i_lt, hd, e104]; omega), if_pos (mIn hx1 hd ha h), mCl hx1 hd ha h]
    refine ⟨_, rfl, ?_⟩
    rw [i_and 1 (by decide) rfl, i_shr hm (by omega), wa]
    have e1 : mV r a / 2 ^ k % 2 = mw r a (k / 24) / 2 ^ (k % 24) % 2 := by
      have e2 : 2 ^ k = 16777216 ^ (k / 24) * 2 ^ (k % 24) := by
        rw [show (16777216 : Nat) = 2 ^ 24 from rfl, ← Nat.pow_mul, ← Nat.pow_add]
        congr 1
        omega
      have e3 := zv_dig (B := 16777216) (by decide) (f := mw r a) h (fun i hi => mw_lt hr ha hi)
      unfold mV
      rw [e2, ← Nat.div_div_eq_div_mul, ← e3]
      generalize zv 16777216 (mw r a) 104 / 16777216 ^ (k / 24) = y
      have e4 : (16777216 : Nat) = 2 ^ (k % 24) * 2 ^ (24 - k % 24) := by
        rw [← Nat.pow_add, show k % 24 + (24 - k % 24) = 24 by omega]
      rw [e4, Nat.mod_mul_right_div_self]
      have e5 : 2 ∣ 2 ^ (24 - k % 24) := ⟨2 ^ (24 - k % 24 - 1), by rw [← Nat.pow_succ']; congr 1; omega⟩
      rw [Nat.mod_mod_of_dvd _ e5]
    rw [e1, Int.natCast_emod, Int.natCast_ediv]
  · rw [if_neg (by rw [i_lt, hd, e104]; omega)]
    refine ⟨0, rfl, ?_⟩
    have h1 := mV_lt hr ha
    rw [mTop_eq] at h1
    have h2 : 2 ^ 2496 ≤ 2 ^ k := p2le (by omega)
    rw [Nat.div_eq_of_lt (by omega)]
    rfl
theorem M_bits (c1 c2 c3 c4 c5 : Int32) {r : Nat → Int32} (hr : mOK r) {a n : Nat} {x1 x2 : Int32} (ha : a < 6) (hx1 : x1.toInt = a) (hx2 : x2.toInt = n) (hn : n < 1000000) :
    ∃ d, f_M_bits c1 c2 c3 c4 c5 r x1 x2 = some d ∧ d.toInt = ((mV r a / 2 ^ n % 2 ^ 62 : Nat) : Int) := by
  have e0 : (0 : Int32).toInt = 0 := rfl
  have e2 : (2 : Int64).toInt = 2 := rfl
  unfold f_M_bits f_M_bits_6
  exact zrun_inv (step := f_M_bits_6_step c1 c2 c3 c4 c5 r x1 x2) (x := (0, 61)) (fun z => ∃ k : Nat, k ≤ 62 ∧ z.2.toInt = (k : Int) - 1 ∧ z.1.toInt = ((mV r a / 2 ^ (n + k) % 2 ^ (62 - k) : Nat) : Int)) (fun z => (z.2.toInt + 1).toNat)
    (fun y => y.toInt = ((mV r a / 2 ^ n % 2 ^ 62 : Nat) : Int)) (by
      rintro ⟨v, x5⟩ ⟨k, hk, h5, hv⟩
      dsimp only at h5 hv
      unfold f_M_bits_6_step f_M_bits_6_body
      dsimp only
      by_cases hk0 : k = 0
      · subst hk0
        exact Or.inr ⟨v, by rw [if_pos (by rw [i_lt, e0, h5]; omega)]; rfl, hv⟩
      · obtain ⟨j, rfl⟩ : ∃ j, k = j + 1 := ⟨k - 1, by omega⟩
        have h5' : x5.toInt = (j : Int) := by omega
        have hs : (x2 + x5).toInt = ((n + j : Nat) : Int) := by
          rw [i_add, hx2, h5'] <;> (try rw [hx2, h5']) <;> omega
        obtain ⟨d, hd1, hd2⟩ := M_bit c1 c2 c3 c4 c5 hr ha hx1 hs
        rw [if_neg (by rw [i_lt, e0, h5']; omega), hd1]
        have hb : mV r a / 2 ^ (n + (j + 1)) % 2 ^ (62 - (j + 1)) < 2 ^ 61 := Nat.lt_of_lt_of_le (Nat.mod_lt _ (p2pos _)) (p2le (by omega))
        have h1 : (2 * v).toInt = ((2 * (mV r a / 2 ^ (n + (j + 1)) % 2 ^ (62 - (j + 1))) : Nat) : Int) := by
          rw [l_mul, e2, hv] <;> (try rw [e2, hv]) <;> omega
        have h3 : mV r a / 2 ^ (n + j) % 2 < 2 := Nat.mod_lt _ (by decide)
        have h2 : (2 * v + d.toInt64).toInt = ((2 * (mV r a / 2 ^ (n + (j + 1)) % 2 ^ (62 - (j + 1))) + mV r a / 2 ^ (n + j) % 2 : Nat) : Int) := by
          rw [l_add, h1, i2l, hd2] <;> (try rw [h1, i2l, hd2]) <;> omega
        refine Or.inl ⟨_, rfl, ⟨j, by omega, i_prd h5', ?_⟩, ?_⟩
        · show (2 * v + d.toInt64).toInt = _
          rw [h2]
          congr 1
          rw [show n + (j + 1) = n + j + 1 by omega, Nat.pow_succ, ← Nat.div_div_eq_div_mul]
          generalize mV r a / 2 ^ (n + j) = y
          rw [show 62 - j = 62 - (j + 1) + 1 by omega, Nat.pow_succ, Nat.mul_comm (2 ^ (62 - (j + 1))) 2, Nat.mod_mul]
          omega
        · dsimp only
          rw [i_prd h5', h5']
          omega) ⟨62, Nat.le_refl _, rfl, by rw [Nat.sub_self, Nat.pow_zero, Nat.mod_one]; rfl⟩
/-- how many bits a number has -/
def zlen (n : Nat) : Nat := if n = 0 then 0 else Nat.log2 n + 1
theorem zlen_of {n k : Nat} (h1 : n < 2 ^ k) (h2 : k = 0 ∨ 2 ^ (k - 1) ≤ n) : zlen n = k := by
  unfold zlen
  by_cases h : n = 0
  · rw [if_pos h]
    rcases h2 with h2 | h2
    · exact h2.symm
    · have := p2pos (k - 1)
      omega
  · rw [if_neg h]
    rcases h2 with h2 | h2
    · subst h2
      omega
    · have a1 : Nat.log2 n < k := (Nat.log2_lt h).mpr h1
      have a2 : k - 1 ≤ Nat.log2 n := (Nat.le_log2 h).mpr h2
      omega
theorem zlen_lt (n : Nat) : n < 2 ^ zlen n := by
  unfold zlen
  by_cases h : n = 0
  · rw [if_pos h, h]; decide
  · rw [if_neg h]; exact Nat.lt_log2_self
theorem zlen_le {n : Nat} (h : n ≠ 0) : 2 ^ (zlen n - 1) ≤ n := by
  unfold zlen
  rw [if_neg h, Nat.add_sub_cancel]
  exact Nat.log2_self_le h
theorem zlen_mono {n k : Nat} (h : n < 2 ^ k) : zlen n ≤ k := by
  unfold zlen
  by_cases h0 : n = 0
  · rw [if_pos h0]; omega
  · rw [if_neg h0]; exact (Nat.log2_lt h0).mpr h
