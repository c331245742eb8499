/-! the reference's rows: adding, halving, dividing -/
theorem M_add (c1 c2 c3 c4 c5 : Int32) {r : Nat → Int32} (hr : mOK r) {a b : Nat} {x1 x2 : Int32} (ha : a < 6) (hb : b < 6) (hab : a ≠ b) (hx1 : x1.toInt = a) (hx2 : x2.toInt = b) :
    ∃ r', f_M_add c1 c2 c3 c4 c5 r x1 x2 0 = some r' ∧ mR r r' a ((mV r a + mV r b) % mTop) := by
  have e104 : (104 : Int32).toInt = 104 := rfl
  unfold f_M_add f_M_add_6
  obtain ⟨r', h1, h2, h3, h4⟩ := zrun_inv (step := f_M_add_6_step c1 c2 c3 c4 c5 x1 x2 0) (x := (r, 0, 0)) (fun z => ∃ k c : Nat, k ≤ 104 ∧ z.2.2.toInt = (k : Int) ∧ z.2.1.toInt = (c : Int) ∧ c < 2 ∧ mOK z.1 ∧ (∀ i, (i < 104 * a ∨ 104 * a + k ≤ i) → z.1 i = r i) ∧ zv 16777216 (mw z.1 a) k + c * 16777216 ^ k = zv 16777216 (mw r a) k + zv 16777216 (mw r b) k) (fun z => (104 - z.2.2.toInt).toNat)
    (fun r' => mOK r' ∧ mV r' a = (mV r a + mV r b) % mTop ∧ ∀ i, (i < 104 * a ∨ 104 * a + 104 ≤ i) → r' i = r i) (by
      rintro ⟨q, cy, x5⟩ ⟨k, c, hk, h5, hc, hc2, hq, hsame, hval⟩
      dsimp only at h5 hc hq hsame hval
      unfold f_M_add_6_step f_M_add_6_body f_M_add_76
      dsimp only
      by_cases hk2 : k = 104
      · subst hk2
        refine Or.inr ⟨q, by rw [if_pos (by rw [i_le, e104, h5]; omega)]; rfl, hq, ?_, hsame⟩
        have hlt := mV_lt hq ha
        unfold mV at *
        rw [← hval]
        unfold mTop at *
        rw [Nat.add_mul_mod_self_right, Nat.mod_eq_of_lt hlt]
      · have hk3 : k < 104 := by omega
        have h7 := i_suc h5 (by omega)
        have wa := mw_i hq ha hk3
        have wb := mw_i hq hb hk3
        have la := mw_lt hq ha hk3
        have lb := mw_lt hq hb hk3
        rw [if_neg (by rw [i_le, e104, h5]; omega), if_pos rfl, if_pos (mIn hx1 h5 ha hk3), if_pos (mIn hx2 h5 hb hk3), if_pos (mIn hx1 h5 ha hk3), mCl hx1 h5 ha hk3, mCl hx2 h5 hb hk3]
        have hv0 : (q (104 * a + k) + q (104 * b + k)).toInt = ((mw q a k + mw q b k : Nat) : Int) := by
          rw [i_add, wa, wb] <;> (try rw [wa, wb]) <;> omega
        have hv : (q (104 * a + k) + q (104 * b + k) + cy).toInt = ((mw q a k + mw q b k + c : Nat) : Int) := by
          rw [i_add, hv0, hc] <;> (try rw [hv0, hc]) <;> omega
        have hlow : ((q (104 * a + k) + q (104 * b + k) + cy) &&& 16777215).toInt = (((mw q a k + mw q b k + c) % 16777216 : Nat) : Int) := by
          rw [i_and 24 (by decide) rfl, hv]; exact (Int.natCast_emod _ _).symm
        have hhi : (jshr (q (104 * a + k) + q (104 * b + k) + cy) 24).toInt = (((mw q a k + mw q b k + c) / 16777216 : Nat) : Int) := by
          rw [i_shr (n := 24) rfl (by decide), hv]; exact (Int.natCast_ediv _ _).symm
        refine Or.inl ⟨_, rfl, ⟨k + 1, (mw q a k + mw q b k + c) / 16777216, by omega, h7, hhi, by omega, mOK_upd hq (by rw [hlow]; omega) (by rw [hlow]; omega), fun i hi => ?_, ?_⟩, ?_⟩
        · show upd q _ _ i = r i
          rw [pk_un (by omega)]
          exact hsame i (by omega)
        · show zv _ (mw (upd q _ _) a) k + mw (upd q _ _) a k * 16777216 ^ k + _ * 16777216 ^ (k + 1) = zv _ _ k + mw r a k * 16777216 ^ k + (zv _ _ k + mw r b k * 16777216 ^ k)
          have hw2 : ∀ v : Int32, zv 16777216 (mw (upd q (104 * a + k) v) a) k = zv 16777216 (mw q a) k := fun v => zv_congr fun i hi => mw_un (by omega)
          have hw3 : mw q a k = mw r a k := by unfold mw; rw [hsame _ (by omega)]
          have hw4 : mw q b k = mw r b k := by unfold mw; rw [hsame _ (by omega)]
          rw [mw_us hlow, hw2, ← hw3, ← hw4, Nat.pow_succ]
          have e9 : (mw q a k + mw q b k + c) % 16777216 * 16777216 ^ k + (mw q a k + mw q b k + c) / 16777216 * (16777216 ^ k * 16777216) = (mw q a k + mw q b k + c) * 16777216 ^ k := by
            rw [Nat.mul_comm (16777216 ^ k) 16777216, ← Nat.mul_assoc, ← Nat.add_mul]
            congr 1
            omega
          rw [Nat.add_assoc, e9, Nat.add_mul, Nat.add_mul]
          omega
        · dsimp only
          rw [h7, h5]
          omega) ⟨0, 0, by omega, rfl, rfl, by omega, hr, fun i _ => rfl, by simp [zv]⟩
  exact ⟨r', h1, mR_of ha h2 h3 h4⟩
theorem M_less (c1 c2 c3 c4 c5 : Int32) {r : Nat → Int32} (hr : mOK r) {a b : Nat} {x1 x2 : Int32} (ha : a < 6) (hb : b < 6) (hab : a ≠ b) (hx1 : x1.toInt = a) (hx2 : x2.toInt = b) (hle : mV r b ≤ mV r a) :
    ∃ r', f_M_add c1 c2 c3 c4 c5 r x1 x2 1 = some r' ∧ mR r r' a (mV r a - mV r b) := by
  have e104 : (104 : Int32).toInt = 104 := rfl
  unfold f_M_add f_M_add_6
  obtain ⟨r', h1, h2, h3, h4⟩ := zrun_inv (step := f_M_add_6_step c1 c2 c3 c4 c5 x1 x2 1) (x := (r, 0, 0)) (fun z => ∃ k c : Nat, k ≤ 104 ∧ z.2.2.toInt = (k : Int) ∧ z.2.1.toInt = -(c : Int) ∧ c < 2 ∧ mOK z.1 ∧ (∀ i, (i < 104 * a ∨ 104 * a + k ≤ i) → z.1 i = r i) ∧ zv 16777216 (mw z.1 a) k + zv 16777216 (mw r b) k = zv 16777216 (mw r a) k + c * 16777216 ^ k) (fun z => (104 - z.2.2.toInt).toNat)
    (fun r' => mOK r' ∧ mV r' a = mV r a - mV r b ∧ ∀ i, (i < 104 * a ∨ 104 * a + 104 ≤ i) → r' i = r i) (by
      rintro ⟨q, cy, x5⟩ ⟨k, c, hk, h5, hc, hc2, hq, hsame, hval⟩
      dsimp only at h5 hc hq hsame hval
      unfold f_M_add_6_step f_M_add_6_body f_M_add_76
      dsimp only
      by_cases hk2 : k = 104
      · subst hk2
        refine Or.inr ⟨q, by rw [if_pos (by rw [i_le, e104, h5]; omega)]; rfl, hq, ?_, hsame⟩
        have hlt := mV_lt hq ha
        unfold mV mTop at *
        rcases Nat.lt_or_ge 0 c with z | z
        · have : c = 1 := by omega
          subst this
          omega
        · have : c = 0 := by omega
          subst this
          omega
      · have hk3 : k < 104 := by omega
        have h7 := i_suc h5 (by omega)
        have wa := mw_i hq ha hk3
        have wb := mw_i hq hb hk3
        have la := mw_lt hq ha hk3
        have lb := mw_lt hq hb hk3
        rw [if_neg (by rw [i_le, e104, h5]; omega), if_neg (by decide), if_pos (mIn hx1 h5 ha hk3), if_pos (mIn hx2 h5 hb hk3), if_pos (mIn hx1 h5 ha hk3), mCl hx1 h5 ha hk3, mCl hx2 h5 hb hk3]
        have hv0 : (q (104 * a + k) - q (104 * b + k)).toInt = (mw q a k : Int) - mw q b k := by
          rw [i_sub, wa, wb] <;> (try rw [wa, wb]) <;> omega
        have hv : (q (104 * a + k) - q (104 * b + k) + cy).toInt = (mw q a k : Int) - mw q b k - c := by
          rw [i_add, hv0, hc] <;> (try rw [hv0, hc]) <;> omega
        obtain ⟨d, c', hd, hdl, hc'⟩ : ∃ d c' : Nat, d + mw q b k + c = mw q a k + c' * 16777216 ∧ d < 16777216 ∧ c' < 2 := by
          by_cases q1 : mw q b k + c ≤ mw q a k
          · exact ⟨mw q a k - (mw q b k + c), 0, by omega, by omega, by omega⟩
          · exact ⟨mw q a k + 16777216 - (mw q b k + c), 1, by omega, by omega, by omega⟩
        have hlow : ((q (104 * a + k) - q (104 * b + k) + cy) &&& 16777215).toInt = (d : Int) := by
          rw [i_and 24 (by decide) rfl, hv]
          show _ % (16777216 : Int) = _
          omega
        have hhi : (jshr (q (104 * a + k) - q (104 * b + k) + cy) 24).toInt = -(c' : Int) := by
          rw [i_shr (n := 24) rfl (by decide), hv]
          show _ / (16777216 : Int) = _
          omega
        refine Or.inl ⟨_, rfl, ⟨k + 1, c', by omega, h7, hhi, hc', mOK_upd hq (by rw [hlow]; omega) (by rw [hlow]; omega), fun i hi => ?_, ?_⟩, ?_⟩
        · show upd q _ _ i = r i
          rw [pk_un (by omega)]
          exact hsame i (by omega)
        · show zv _ (mw (upd q _ _) a) k + mw (upd q _ _) a k * 16777216 ^ k + (zv _ _ k + mw r b k * 16777216 ^ k) = zv _ _ k + mw r a k * 16777216 ^ k + c' * 16777216 ^ (k + 1)
          have hw2 : ∀ v : Int32, zv 16777216 (mw (upd q (104 * a + k) v) a) k = zv 16777216 (mw q a) k := fun v => zv_congr fun i hi => mw_un (by omega)
          have hw3 : mw q a k = mw r a k := by unfold mw; rw [hsame _ (by omega)]
          have hw4 : mw q b k = mw r b k := by unfold mw; rw [hsame _ (by omega)]
          rw [mw_us hlow, hw2, ← hw3, ← hw4, Nat.pow_succ]
          have e9 : d * 16777216 ^ k + mw q b k * 16777216 ^ k + c * 16777216 ^ k = mw q a k * 16777216 ^ k + c' * (16777216 ^ k * 16777216) := by
            rw [Nat.mul_comm (16777216 ^ k) 16777216, ← Nat.mul_assoc, ← Nat.add_mul, ← Nat.add_mul, ← Nat.add_mul, hd]
          omega
        · dsimp only
          rw [h7, h5]
          omega) ⟨0, 0, by omega, rfl, rfl, by omega, hr, fun i _ => rfl, by simp [zv]⟩
  exact ⟨r', h1, mR_of ha h2 h3 h4⟩
/-- halving in places: f beyond the end is 0 -/
theorem zv_half {f g : Nat → Nat} : ∀ n : Nat, (∀ k, k < n → g k = f k / 2 + f (k + 1) % 2 * 8388608) → 2 * zv 16777216 g n + f 0 % 2 = zv 16777216 f n + f n % 2 * 16777216 ^ n
  | 0, _ => by simp [zv]
  | n + 1, h => by
    have ih := zv_half (f := f) (g := g) n (fun k hk => h k (by omega))
    have hg := h n (by omega)
    show 2 * (zv 16777216 g n + g n * 16777216 ^ n) + f 0 % 2 = zv 16777216 f n + f n * 16777216 ^ n + f (n + 1) % 2 * 16777216 ^ (n + 1)
    have e1 : 2 * (g n * 16777216 ^ n) + f n % 2 * 16777216 ^ n = f n * 16777216 ^ n + f (n + 1) % 2 * 16777216 ^ (n + 1) := by
      rw [hg, Nat.pow_succ, Nat.mul_comm (16777216 ^ n) 16777216, ← Nat.mul_assoc, ← Nat.mul_assoc, ← Nat.add_mul, ← Nat.add_mul]
      congr 1
      omega
    omega
theorem M_halve (c1 c2 c3 c4 c5 : Int32) {r : Nat → Int32} (hr : mOK r) {a : Nat} {x1 : Int32} (ha : a < 6) (hx1 : x1.toInt = a) :
    ∃ r', f_M_halve c1 c2 c3 c4 c5 r x1 = some r' ∧ mR r r' a (mV r a / 2) := by
  have e104 : (104 : Int32).toInt = 104 := rfl
  let f : Nat → Nat := fun k => if k < 104 then mw r a k else 0
  unfold f_M_halve f_M_halve_2
  obtain ⟨r', h1, h2, h3, h4⟩ := zrun_inv (step := f_M_halve_2_step c1 c2 c3 c4 c5 x1) (x := (r, 0)) (fun z => ∃ k : Nat, k ≤ 104 ∧ z.2.toInt = (k : Int) ∧ mOK z.1 ∧ (∀ i, (i < 104 * a ∨ 104 * a + k ≤ i) → z.1 i = r i) ∧ ∀ j, j < k → mw z.1 a j = f j / 2 + f (j + 1) % 2 * 8388608) (fun z => (104 - z.2.toInt).toNat)
    (fun r' => mOK r' ∧ (∀ j, j < 104 → mw r' a j = f j / 2 + f (j + 1) % 2 * 8388608) ∧ ∀ i, (i < 104 * a ∨ 104 * a + 104 ≤ i) → r' i = r i) (by
      rintro ⟨q, x2⟩ ⟨k, hk, h2, hq, hsame, hdig⟩
      dsimp only at h2 hq hsame hdig
      unfold f_M_halve_2_step f_M_halve_2_body f_M_halve_35
      dsimp only
      by_cases hk2 : k = 104
      · subst hk2
        exact Or.inr ⟨q, by rw [if_pos (by rw [i_le, e104, h2]; omega)]; rfl, hq, hdig, hsame⟩
      · have hk3 : k < 104 := by omega
        have h7 := i_suc h2 (by omega)
        have hin := mIn hx1 h2 ha hk3
        have hcl := mCl hx1 h2 ha hk3
        have wa := mw_i hq ha hk3
        have la := mw_lt hq ha hk3
        have hfk : f k = mw q a k := by
          show (if k < 104 then mw r a k else 0) = _
          rw [if_pos hk3]; unfold mw; rw [hsame _ (by omega)]
        have key : ∀ v : Int32, v.toInt = ((f (k + 1) % 2 : Nat) : Int) → (∃ y, some (Sum.inl (upd q (104 * a + k) (jshr (q (104 * a + k)) 1 ||| jshl v 23), x2 + 1)) = some (Sum.inl (β := Nat → Int32) y) ∧ (∃ k : Nat, k ≤ 104 ∧ y.2.toInt = (k : Int) ∧ mOK y.1 ∧ (∀ i, (i < 104 * a ∨ 104 * a + k ≤ i) → y.1 i = r i) ∧ ∀ j, j < k → mw y.1 a j = f j / 2 + f (j + 1) % 2 * 8388608) ∧ (104 - y.2.toInt).toNat < (104 - x2.toInt).toNat) := by
          intro v hv
          have e1 : (jshr (q (104 * a + k)) 1).toInt = ((mw q a k / 2 : Nat) : Int) := by
            rw [i_shr (n := 1) rfl (by decide), wa]; exact (Int.natCast_ediv _ _).symm
          have e2 : (jshl v 23).toInt = ((2 ^ 23 * (f (k + 1) % 2) : Nat) : Int) := by
            have e3 : v.toInt * ((2 ^ 23 : Nat) : Int) = ((2 ^ 23 * (f (k + 1) % 2) : Nat) : Int) := by rw [hv, Nat.mul_comm]; exact (Int.natCast_mul _ _).symm
            rw [i_shl (n := 23) rfl (by decide), e3] <;> (try rw [e3]) <;> omega
          have e4 : (jshr (q (104 * a + k)) 1 ||| jshl v 23).toInt = ((f k / 2 + f (k + 1) % 2 * 8388608 : Nat) : Int) := by
            have hcomm : jshr (q (104 * a + k)) 1 ||| jshl v 23 = jshl v 23 ||| jshr (q (104 * a + k)) 1 := Int32.or_comm _ _
            rw [hcomm, i_or 23 (f (k + 1) % 2) (mw q a k / 2) (by decide) e2 e1 (by omega), e1, e2, hfk]
            omega
          refine ⟨_, rfl, ⟨k + 1, by omega, h7, mOK_upd hq (by rw [e4]; omega) (by rw [e4]; omega), fun i hi => ?_, fun j hj => ?_⟩, ?_⟩
          · show upd q _ _ i = r i
            rw [pk_un (by omega)]
            exact hsame i (by omega)
          · show mw (upd q _ _) a j = _
            by_cases e : j = k
            · subst e; exact mw_us e4
            · rw [mw_un (by omega)]; exact hdig j (by omega)
          · dsimp only
            rw [h7, h2]
            omega
        by_cases hk4 : k + 1 < 104
        · have e5 : (((104 * x1) + x2) + 1).toInt = ((104 * a + (k + 1) : Nat) : Int) := by
            have := i_suc (mIx hx1 h2 ha hk3) (by omega)
            rw [this]; rfl
          have e6 : zin (((104 * x1) + x2) + 1) 624 := by unfold zin; rw [e5]; omega
          have e7 : (((104 * x1) + x2) + 1).toNatClampNeg = 104 * a + (k + 1) := by rw [i_cl, e5]; exact Int.toNat_natCast _
          rw [if_neg (by rw [i_le, e104, h2]; omega), if_neg (by rw [i_le, e104, h7]; omega), if_pos e6, if_pos hin, if_pos hin, hcl, e7]
          refine Or.inl (key _ ?_)
          rw [i_and 1 (by decide) rfl, mw_i hq ha hk4]
          have hf1 : f (k + 1) = mw q a (k + 1) := by
            show (if k + 1 < 104 then mw r a (k + 1) else 0) = _
            rw [if_pos hk4]; unfold mw; rw [hsame _ (by omega)]
          rw [hf1]
          exact (Int.natCast_emod _ _).symm
        · rw [if_neg (by rw [i_le, e104, h2]; omega), if_pos (by rw [i_le, e104, h7]; omega), if_pos hin, if_pos hin, hcl]
          refine Or.inl (key 0 ?_)
          have hf1 : f (k + 1) = 0 := by
            show (if k + 1 < 104 then mw r a (k + 1) else 0) = _
            rw [if_neg hk4]
          rw [hf1]
          rfl) ⟨0, by omega, rfl, hr, fun i _ => rfl, fun j hj => absurd hj (Nat.not_lt_zero _)⟩
  refine ⟨r', h1, mR_of ha h2 ?_ h4⟩
  have hz := zv_half (f := f) (g := mw r' a) 104 h3
  have e1 : zv 16777216 f 104 = mV r a := zv_congr fun i hi => by show (if i < 104 then mw r a i else 0) = _; rw [if_pos hi]
  have e2 : f 104 = 0 := rfl
  rw [e1, e2] at hz
  unfold mV at *
  omega
