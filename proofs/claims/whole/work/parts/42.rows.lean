/-! the reference's rows, one operation after another -/
/-- rows r' are rows r but for row a, which holds v -/
def mR (r r' : Nat → Int32) (a v : Nat) : Prop := mOK r' ∧ mV r' a = v ∧ ∀ b, b < 6 → b ≠ a → mV r' b = mV r b
theorem mR_of {r r' : Nat → Int32} {a v : Nat} (ha : a < 6) (h1 : mOK r') (h2 : mV r' a = v) (h3 : ∀ i, (i < 104 * a ∨ 104 * a + 104 ≤ i) → r' i = r i) : mR r r' a v :=
  ⟨h1, h2, fun b hb hne => mV_same fun k hk => h3 _ (by omega)⟩
theorem l_andN {x m : Int64} (k : Nat) (hk : k < 63) (hm : m.toInt = ((2 ^ k - 1 : Nat) : Int)) : (x &&& m).toInt = ((x.toBitVec.toNat % 2 ^ k : Nat) : Int) := by
  have h := l_and (x := x) k hk hm
  have h2 := l_bv x
  have hd : ((2 ^ k : Nat) : Int) ∣ 18446744073709551616 := by
    refine ⟨((2 ^ (64 - k) : Nat) : Int), ?_⟩
    have : 2 ^ k * 2 ^ (64 - k) = 18446744073709551616 := by rw [← Nat.pow_add, show k + (64 - k) = 64 by omega]
    rw [← Int.natCast_mul, this]; rfl
  rw [h, Int.natCast_emod, h2]
  exact (Int.emod_emod_of_dvd _ hd).symm
theorem mw_us {q : Nat → Int32} {a k : Nat} {v : Int32} {n : Nat} (h : v.toInt = n) : mw (upd q (104 * a + k) v) a k = n := by
  unfold mw
  rw [pk_us, h]
  exact Int.toNat_natCast _
theorem mw_un {q : Nat → Int32} {a b k j : Nat} {v : Int32} (h : 104 * b + j ≠ 104 * a + k) : mw (upd q (104 * a + k) v) b j = mw q b j := by
  unfold mw
  rw [pk_un h]
def mdg (v j : Nat) : Nat := if j < 3 then v / 16777216 ^ j % 16777216 else 0
theorem zv_mdg {v : Nat} (hv : v < 18446744073709551616) : zv 16777216 (mdg v) 104 = v := by
  have e := zv_split (B := 16777216) (f := mdg v) 3 101
  rw [show 3 + 101 = 104 from rfl] at e
  rw [e, zv_zero (f := fun i => mdg v (3 + i)) (fun i _ => by unfold mdg; rw [if_neg (by omega)])]
  show 0 + mdg v 0 * 16777216 ^ 0 + mdg v 1 * 16777216 ^ 1 + mdg v 2 * 16777216 ^ 2 + _ * 0 = v
  simp only [mdg, show (0 : Nat) < 3 from by decide, show (1 : Nat) < 3 from by decide, show (2 : Nat) < 3 from by decide, if_true, Nat.pow_zero, Nat.pow_one, show (16777216 : Nat) ^ 2 = 281474976710656 from rfl]
  omega
theorem M_set (c1 c2 c3 c4 c5 : Int32) {r : Nat → Int32} (hr : mOK r) {a : Nat} {x1 : Int32} {x2 : Int64} (ha : a < 6) (hx1 : x1.toInt = a) :
    ∃ r', f_M_set c1 c2 c3 c4 c5 r x1 x2 = some r' ∧ mR r r' a x2.toBitVec.toNat := by
  have e104 : (104 : Int32).toInt = 104 := rfl
  have e3 : (3 : Int32).toInt = 3 := rfl
  have e24 : (24 : Int32).toInt = 24 := rfl
  unfold f_M_set f_M_set_3
  obtain ⟨r', h1, h2, h3, h4⟩ := zrun_inv (step := f_M_set_3_step c1 c2 c3 c4 c5 x1 x2) (x := (r, 0)) (fun z => ∃ k : Nat, k ≤ 104 ∧ z.2.toInt = (k : Int) ∧ mOK z.1 ∧ (∀ i, (i < 104 * a ∨ 104 * a + k ≤ i) → z.1 i = r i) ∧ ∀ j, j < k → mw z.1 a j = mdg x2.toBitVec.toNat j) (fun z => (104 - z.2.toInt).toNat)
    (fun r' => mOK r' ∧ (∀ j, j < 104 → mw r' a j = mdg x2.toBitVec.toNat j) ∧ ∀ i, (i < 104 * a ∨ 104 * a + 104 ≤ i) → r' i = r i) (by
      rintro ⟨q, x4⟩ ⟨k, hk, h4, hq, hsame, hdig⟩
      dsimp only at h4 hq hsame hdig
      unfold f_M_set_3_step f_M_set_3_body f_M_set_43
      dsimp only
      by_cases hk2 : k = 104
      · subst hk2
        exact Or.inr ⟨q, by rw [if_pos (by rw [i_le, e104, h4]; omega)]; rfl, hq, hdig, hsame⟩
      · have hk3 : k < 104 := by omega
        have hin := mIn hx1 h4 ha hk3
        have hcl := mCl hx1 h4 ha hk3
        have h7 := i_suc h4 (by omega)
        have key : ∀ v : Int32, v.toInt = (mdg x2.toBitVec.toNat k : Int) → (∃ y, some (Sum.inl (upd q (104 * a + k) v, x4 + 1)) = some (Sum.inl (β := Nat → Int32) y) ∧ (∃ k : Nat, k ≤ 104 ∧ y.2.toInt = (k : Int) ∧ mOK y.1 ∧ (∀ i, (i < 104 * a ∨ 104 * a + k ≤ i) → y.1 i = r i) ∧ ∀ j, j < k → mw y.1 a j = mdg x2.toBitVec.toNat j) ∧ (104 - y.2.toInt).toNat < (104 - x4.toInt).toNat) := by
          intro v hv
          have hl : mdg x2.toBitVec.toNat k < 16777216 := by unfold mdg; split <;> omega
          refine ⟨_, rfl, ⟨k + 1, by omega, h7, mOK_upd hq (by omega) (by omega), fun i hi => ?_, fun j hj => ?_⟩, ?_⟩
          · show upd q _ _ i = r i
            rw [pk_un (by omega)]
            exact hsame i (by omega)
          · show mw (upd q _ _) a j = _
            by_cases e : j = k
            · subst e; exact mw_us hv
            · rw [mw_un (by omega)]; exact hdig j (by omega)
          · dsimp only
            rw [h7, h4]
            omega
        by_cases hk4 : 3 ≤ k
        · rw [if_neg (by rw [i_le, e104, h4]; omega), if_pos (by rw [i_le, e3, h4]; omega), if_pos hin, hcl]
          exact Or.inl (key 0 (by unfold mdg; rw [if_neg (by omega)]; rfl))
        · rw [if_neg (by rw [i_le, e104, h4]; omega), if_neg (by rw [i_le, e3, h4]; omega), if_pos hin, hcl]
          refine Or.inl (key _ ?_)
          have h24 : (24 * x4).toInt = ((24 * k : Nat) : Int) := by
            rw [i_mul, e24, h4] <;> (try rw [e24, h4]) <;> omega
          have hb : (jlushr x2 (24 * x4) &&& 16777215).toInt = ((x2.toBitVec.toNat / 2 ^ (24 * k) % 2 ^ 24 : Nat) : Int) := by
            rw [l_andN 24 (by decide) rfl, l_ushrN x2 h24 (by omega)]
          have hlt : x2.toBitVec.toNat / 2 ^ (24 * k) % 2 ^ 24 < 16777216 := Nat.mod_lt _ (by decide)
          rw [l2i, hb] <;> (try rw [hb])
          · unfold mdg
            rw [if_pos (by omega), Nat.pow_mul]
          · omega
          · omega) ⟨0, by omega, rfl, hr, fun i _ => rfl, fun j hj => absurd hj (Nat.not_lt_zero _)⟩
  refine ⟨r', h1, mR_of ha h2 ?_ h4⟩
  unfold mV
  rw [zv_congr h3]
  exact zv_mdg x2.toBitVec.isLt
theorem M_copy (c1 c2 c3 c4 c5 : Int32) {r : Nat → Int32} (hr : mOK r) {a b : Nat} {x1 x2 : Int32} (ha : a < 6) (hb : b < 6) (hab : a ≠ b) (hx1 : x1.toInt = a) (hx2 : x2.toInt = b) :
    ∃ r', f_M_copy c1 c2 c3 c4 c5 r x1 x2 = some r' ∧ mR r r' a (mV r b) := by
  have e104 : (104 : Int32).toInt = 104 := rfl
  unfold f_M_copy f_M_copy_2
  obtain ⟨r', h1, h2, h3, h4⟩ := zrun_inv (step := f_M_copy_2_step c1 c2 c3 c4 c5 x1 x2) (x := (r, 0)) (fun z => ∃ k : Nat, k ≤ 104 ∧ z.2.toInt = (k : Int) ∧ mOK z.1 ∧ (∀ i, (i < 104 * a ∨ 104 * a + k ≤ i) → z.1 i = r i) ∧ ∀ j, j < k → mw z.1 a j = mw r b j) (fun z => (104 - z.2.toInt).toNat)
    (fun r' => mOK r' ∧ (∀ j, j < 104 → mw r' a j = mw r b j) ∧ ∀ i, (i < 104 * a ∨ 104 * a + 104 ≤ i) → r' i = r i) (by
      rintro ⟨q, x4⟩ ⟨k, hk, h4, hq, hsame, hdig⟩
      dsimp only at h4 hq hsame hdig
      unfold f_M_copy_2_step f_M_copy_2_body
      dsimp only
      by_cases hk2 : k = 104
      · subst hk2
        exact Or.inr ⟨q, by rw [if_pos (by rw [i_le, e104, h4]; omega)]; rfl, hq, hdig, hsame⟩
      · have hk3 : k < 104 := by omega
        have h7 := i_suc h4 (by omega)
        rw [if_neg (by rw [i_le, e104, h4]; omega), if_pos (mIn hx2 h4 hb hk3), if_pos (mIn hx1 h4 ha hk3), mCl hx1 h4 ha hk3, mCl hx2 h4 hb hk3]
        have hv := mw_i hq hb hk3
        have hl := mw_lt hq hb hk3
        refine Or.inl ⟨_, rfl, ⟨k + 1, by omega, h7, mOK_upd hq (by omega) (by omega), fun i hi => ?_, fun j hj => ?_⟩, ?_⟩
        · show upd q _ _ i = r i
          rw [pk_un (by omega)]
          exact hsame i (by omega)
        · show mw (upd q _ _) a j = _
          by_cases e : j = k
          · subst e
            rw [mw_us hv]
            unfold mw
            rw [hsame _ (by omega)]
          · rw [mw_un (by omega)]; exact hdig j (by omega)
        · dsimp only
          rw [h7, h4]
          omega) ⟨0, by omega, rfl, hr, fun i _ => rfl, fun j hj => absurd hj (Nat.not_lt_zero _)⟩
  exact ⟨r', h1, mR_of ha h2 (zv_congr h3) h4⟩
def zsg (x y : Nat) : Int32 := if x < y then -1 else if x = y then 0 else 1
theorem i_prd {x : Int32} {k : Nat} (h : x.toInt = k) : (x + (-1)).toInt = (k : Int) - 1 := by
  have r := i_rng x
  have e0 : (-1 : Int32).toInt = -1 := rfl
  rw [i_add, e0, h] <;> (try rw [e0, h]) <;> omega
theorem M_order (c1 c2 c3 c4 c5 : Int32) {r : Nat → Int32} (hr : mOK r) {a b : Nat} {x1 x2 : Int32} (ha : a < 6) (hb : b < 6) (hx1 : x1.toInt = a) (hx2 : x2.toInt = b) :
    f_M_order c1 c2 c3 c4 c5 r x1 x2 = some (zsg (mV r a) (mV r b)) := by
  have e0 : (0 : Int32).toInt = 0 := rfl
  unfold f_M_order f_M_order_3
  obtain ⟨r', h1, h2⟩ := zrun_inv (step := f_M_order_3_step c1 c2 c3 c4 c5 r x1 x2) (x := 103) (fun z => ∃ k : Nat, k ≤ 104 ∧ z.toInt = (k : Int) - 1 ∧ ∀ j, k ≤ j → j < 104 → mw r a j = mw r b j) (fun z => (z.toInt + 1).toNat)
    (fun r' => r' = zsg (mV r a) (mV r b)) (by
      rintro x3 ⟨k, hk, h3, heq⟩
      unfold f_M_order_3_step f_M_order_3_body f_M_order_40
      by_cases hk0 : k = 0
      · subst hk0
        refine Or.inr ⟨0, by rw [if_pos (by rw [i_lt, e0, h3]; omega)]; rfl, ?_⟩
        have : mV r a = mV r b := zv_congr fun i hi => heq i (by omega) hi
        rw [this]
        unfold zsg
        rw [if_neg (Nat.lt_irrefl _), if_pos rfl]
      · obtain ⟨n, rfl⟩ : ∃ n, k = n + 1 := ⟨k - 1, by omega⟩
        have h3' : x3.toInt = (n : Int) := by omega
        have hn : n < 104 := by omega
        have wa := mw_i hr ha hn
        have wb := mw_i hr hb hn
        have la := fun i (hi : i < 104) => mw_lt hr ha hi
        have lb := fun i (hi : i < 104) => mw_lt hr hb hi
        rw [if_neg (by rw [i_lt, e0, h3']; omega), if_pos (mIn hx1 h3' ha hn), if_pos (mIn hx2 h3' hb hn), mCl hx1 h3' ha hn, mCl hx2 h3' hb hn]
        by_cases he : mw r a n = mw r b n
        · rw [if_pos (by rw [i_eq, wa, wb, he])]
          refine Or.inl ⟨_, rfl, ⟨n, by omega, i_prd h3', fun j h1 h2 => ?_⟩, ?_⟩
          · rcases Nat.lt_or_ge n j with q | q
            · exact heq j (by omega) h2
            · rw [show j = n by omega]; exact he
          · rw [i_prd h3', h3']
            omega
        · rw [if_neg (by rw [i_eq, wa, wb]; omega)]
          rcases Nat.lt_or_gt_of_ne he with q | q
          · refine Or.inr ⟨-1, by rw [if_neg (by rw [i_le, wa, wb]; omega)]; rfl, ?_⟩
            have : mV r a < mV r b := zv_cmp (by decide) hn la lb (fun i h1 h2 => heq i (by omega) h2) q
            unfold zsg
            rw [if_pos this]
          · refine Or.inr ⟨1, by rw [if_pos (by rw [i_le, wa, wb]; omega)]; rfl, ?_⟩
            have : mV r b < mV r a := zv_cmp (by decide) hn lb la (fun i h1 h2 => (heq i (by omega) h2).symm) q
            unfold zsg
            rw [if_neg (by omega), if_neg (by omega)]) ⟨104, Nat.le_refl _, rfl, fun j h1 h2 => absurd h2 (by omega)⟩
  rw [h1, h2]
