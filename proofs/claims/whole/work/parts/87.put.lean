/-! the text: class and reference; put -/
/-- the same units in both -/
def tR (rc ms : Int32) (ru mt : Nat → Int32) : Prop := rc = ms ∧ ru = mt ∧ ∃ n : Nat, ms.toInt = n ∧ n ≤ 600
def zpu (x : Int64) (k : Nat) : Nat := x.toBitVec.toNat / 2 ^ (16 * k) % 65536
theorem i_mask16 (y : Int64) : (y.toInt32 &&& 65535).toInt = y.toInt % 65536 := by
  rw [i_and 16 (by decide) rfl, Int64.toInt_toInt32]
  show Int.bmod y.toInt 4294967296 % 65536 = _
  rw [Int.bmod_def]
  split <;> omega
theorem D_unit (x : Int64) {s : Int32} {k : Nat} (hs : s.toInt = k) (hk : k < 4) : ((jlushr x (16 * s)).toInt32 &&& 65535).toInt = (zpu x k : Int) := by
  have e16 : (16 : Int32).toInt = 16 := rfl
  have hm : (16 * s).toInt = ((16 * k : Nat) : Int) := by rw [i_mul, e16, hs] <;> (try rw [e16, hs]) <;> omega
  have hN := l_ushrN x hm (by omega)
  have hb := l_bv (jlushr x (16 * s))
  rw [i_mask16]
  unfold zpu
  rw [← hN]
  omega
theorem M_unit (x : Int64) {s : Int32} {k : Nat} (hs : s.toInt = k) (hk : k < 4) : (((jlshr x (16 * s)) &&& 65535).toInt32).toInt = (zpu x k : Int) := by
  have e16 : (16 : Int32).toInt = 16 := rfl
  have hm : (16 * s).toInt = ((16 * k : Nat) : Int) := by rw [i_mul, e16, hs] <;> (try rw [e16, hs]) <;> omega
  have hN := l_shr (x := x) hm (by omega)
  have h1 : ((jlshr x (16 * s)) &&& 65535).toInt = (zpu x k : Int) := by
    rw [l_and 16 (by decide) rfl, hN]
    have hb := l_bv x
    unfold zpu
    rcases (show k = 0 ∨ k = 1 ∨ k = 2 ∨ k = 3 by omega) with e | e | e | e <;> subst e
    · show x.toInt / 1 % 65536 = ((x.toBitVec.toNat / 1 % 65536 : Nat) : Int); omega
    · show x.toInt / 65536 % 65536 = ((x.toBitVec.toNat / 65536 % 65536 : Nat) : Int); omega
    · show x.toInt / 4294967296 % 65536 = ((x.toBitVec.toNat / 4294967296 % 65536 : Nat) : Int); omega
    · show x.toInt / 281474976710656 % 65536 = ((x.toBitVec.toNat / 281474976710656 % 65536 : Nat) : Int); omega
  have h2 : zpu x k < 65536 := Nat.mod_lt _ (by decide)
  rw [l2i, h1] <;> rw [h1] <;> omega
theorem D_put46 (a1 a2 a3 a4 : Int32) {cn : Int32} {un : Nat → Int32} (x : Int64) {x4 : Int32} {m n : Nat} (hc : cn.toInt = m) (h4 : x4.toInt = (n : Int) - 1) (hn : n ≤ 4) (hm : m + n ≤ 600) :
    ∃ c' u', f_D_put_46 cn a1 a2 a3 a4 un x x4 = some (c', c', u') ∧ c'.toInt = ((m + n : Nat) : Int) ∧ (∀ i, (i < m ∨ m + n ≤ i) → u' i = un i) ∧ ∀ j, j < n → (u' (m + j)).toInt = (zpu x (n - 1 - j) : Int) := by
  have e0 : (0 : Int32).toInt = 0 := rfl
  have e600 : (600 : Int32).toInt = 600 := rfl
  unfold f_D_put_46
  obtain ⟨z, hz1, hz2⟩ := zrun_inv (step := f_D_put_46_step a1 a2 a3 a4 x) (x := (cn, un, x4)) (fun z => ∃ k : Nat, k ≤ n ∧ z.2.2.toInt = ((n - k : Nat) : Int) - 1 ∧ z.1.toInt = ((m + k : Nat) : Int) ∧ (∀ i, (i < m ∨ m + n ≤ i) → z.2.1 i = un i) ∧ ∀ j, j < k → (z.2.1 (m + j)).toInt = (zpu x (n - 1 - j) : Int)) (fun z => (z.2.2.toInt + 1).toNat)
    (fun y => ∃ c' u', y = (c', c', u') ∧ c'.toInt = ((m + n : Nat) : Int) ∧ (∀ i, (i < m ∨ m + n ≤ i) → u' i = un i) ∧ ∀ j, j < n → (u' (m + j)).toInt = (zpu x (n - 1 - j) : Int)) (by
      rintro ⟨c, u, y4⟩ ⟨k, hk, hy, hc2, hu1, hu2⟩
      dsimp only at hy hc2 hu1 hu2
      unfold f_D_put_46_step f_D_put_46_body f_D_put_75 f_R_length f_R_append
      dsimp only
      by_cases ck : k = n
      · subst ck
        rw [if_pos (show y4 < 0 by rw [i_lt, hy, e0]; omega)]
        exact Or.inr ⟨_, rfl, c, u, rfl, hc2, hu1, hu2⟩
      · have hy' : y4.toInt = ((n - 1 - k : Nat) : Int) := by rw [hy]; omega
        rw [if_neg (show ¬ y4 < 0 by rw [i_lt, hy, e0]; omega), if_neg (show ¬ (600 : Int32) ≤ c by rw [i_le, hc2, e600]; omega), if_pos (show zin c 600 from ⟨by omega, by omega⟩), Option.bind_some]
        dsimp only
        have hnk : ((n - 1 - k : Nat) : Int) - 1 = ((n - (k + 1) : Nat) : Int) - 1 := by omega
        have hkn : k + 1 ≤ n := by omega
        have hmu : (((n - (k + 1) : Nat) : Int) - 1 + 1).toNat < (((n - k : Nat) : Int) - 1 + 1).toNat := by omega
        have hm1 : (y4 + (-1)).toInt = ((n - (k + 1) : Nat) : Int) - 1 := (i_prd hy').trans hnk
        have hs : (c + 1).toInt = ((m + (k + 1) : Nat) : Int) := i_suc (k := m + k) hc2 (by omega)
        rw [i_cl, hc2, Int.toNat_natCast]
        refine Or.inl ⟨_, rfl, ⟨k + 1, hkn, hm1, hs, fun i hi => ?_, fun j hj => ?_⟩, by dsimp only; rw [hm1]; (try rw [hy]); exact hmu⟩ <;> clear hm1
        · dsimp only
          rw [pk_un (by omega)]
          exact hu1 i hi
        · dsimp only
          by_cases cj : j = k
          · subst cj
            rw [pk_us, D_unit x hy' (by omega)]
          · rw [pk_un (by omega)]
            exact hu2 j (by omega)) ⟨0, by omega, by rw [Nat.sub_zero]; exact h4, by rw [Nat.add_zero]; exact hc, fun i _ => rfl, fun j hj => absurd hj (Nat.not_lt_zero _)⟩
  obtain ⟨c', u', w1, w2, w3, w4⟩ := hz2
  exact ⟨c', u', by rw [hz1, w1], w2, w3, w4⟩
theorem M_put55 (th o c p : Int32) {sz : Int32} {tx : Nat → Int32} (x : Int64) {x5 : Int32} {m n : Nat} (hc : sz.toInt = m) (h4 : x5.toInt = (n : Int) - 1) (hn : n ≤ 4) (hm : m + n ≤ 600) :
    ∃ c' u', f_M_put_55 th sz o c p tx x x5 = some (c', th, c', u') ∧ c'.toInt = ((m + n : Nat) : Int) ∧ (∀ i, (i < m ∨ m + n ≤ i) → u' i = tx i) ∧ ∀ j, j < n → (u' (m + j)).toInt = (zpu x (n - 1 - j) : Int) := by
  have e0 : (0 : Int32).toInt = 0 := rfl
  unfold f_M_put_55
  obtain ⟨z, hz1, hz2⟩ := zrun_inv (step := f_M_put_55_step o c p x) (x := (th, sz, tx, x5)) (fun z => z.1 = th ∧ ∃ k : Nat, k ≤ n ∧ z.2.2.2.toInt = ((n - k : Nat) : Int) - 1 ∧ z.2.1.toInt = ((m + k : Nat) : Int) ∧ (∀ i, (i < m ∨ m + n ≤ i) → z.2.2.1 i = tx i) ∧ ∀ j, j < k → (z.2.2.1 (m + j)).toInt = (zpu x (n - 1 - j) : Int)) (fun z => (z.2.2.2.toInt + 1).toNat)
    (fun y => ∃ c' u', y = (c', th, c', u') ∧ c'.toInt = ((m + n : Nat) : Int) ∧ (∀ i, (i < m ∨ m + n ≤ i) → u' i = tx i) ∧ ∀ j, j < n → (u' (m + j)).toInt = (zpu x (n - 1 - j) : Int)) (by
      rintro ⟨h, s, u, y4⟩ ⟨hh, k, hk, hy, hc2, hu1, hu2⟩
      dsimp only at hh hy hc2 hu1 hu2
      subst hh
      unfold f_M_put_55_step f_M_put_55_body
      dsimp only
      by_cases ck : k = n
      · subst ck
        rw [if_pos (show y4 < 0 by rw [i_lt, hy, e0]; omega)]
        exact Or.inr ⟨_, rfl, s, u, rfl, hc2, hu1, hu2⟩
      · have hy' : y4.toInt = ((n - 1 - k : Nat) : Int) := by rw [hy]; omega
        rw [if_neg (show ¬ y4 < 0 by rw [i_lt, hy, e0]; omega), if_pos (show zin s 600 from ⟨by omega, by omega⟩)]
        have hnk : ((n - 1 - k : Nat) : Int) - 1 = ((n - (k + 1) : Nat) : Int) - 1 := by omega
        have hkn : k + 1 ≤ n := by omega
        have hmu : (((n - (k + 1) : Nat) : Int) - 1 + 1).toNat < (((n - k : Nat) : Int) - 1 + 1).toNat := by omega
        have hm1 : (y4 + (-1)).toInt = ((n - (k + 1) : Nat) : Int) - 1 := (i_prd hy').trans hnk
        have hs : (s + 1).toInt = ((m + (k + 1) : Nat) : Int) := i_suc (k := m + k) hc2 (by omega)
        rw [i_cl, hc2, Int.toNat_natCast]
        refine Or.inl ⟨_, rfl, ⟨rfl, k + 1, hkn, hm1, hs, fun i hi => ?_, fun j hj => ?_⟩, by dsimp only; rw [hm1]; (try rw [hy]); exact hmu⟩ <;> clear hm1
        · dsimp only
          rw [pk_un (by omega)]
          exact hu1 i hi
        · dsimp only
          by_cases cj : j = k
          · subst cj
            rw [pk_us, M_unit x hy' (by omega)]
          · rw [pk_un (by omega)]
            exact hu2 j (by omega)) ⟨rfl, 0, by omega, by rw [Nat.sub_zero]; exact h4, by rw [Nat.add_zero]; exact hc, fun i _ => rfl, fun j hj => absurd hj (Nat.not_lt_zero _)⟩
  obtain ⟨c', u', w1, w2, w3, w4⟩ := hz2
  exact ⟨c', u', by rw [hz1, w1], w2, w3, w4⟩
/-- put where both do it -/
theorem same_put (a1 a2 a3 a4 th o c p : Int32) {rc ms : Int32} {ru mt : Nat → Int32} (h : tR rc ms ru mt) (x : Int64) {x3 : Int32} (h1 : ¬ x3 < 1) (h4 : x3 ≤ 4) (hr : ms.toInt + x3.toInt ≤ 600) :
    ∃ d u', f_D_put rc a1 a2 a3 a4 ru x x3 = some (d, d, u') ∧ f_M_put th ms o c p mt x x3 = some (d, 0, d, u') ∧ tR d d u' u' := by
  obtain ⟨e, e2, m, hm, hm6⟩ := h
  subst e e2
  rw [i_lt] at h1
  rw [i_le] at h4
  have e1 : (1 : Int32).toInt = 1 := rfl
  have e4 : (4 : Int32).toInt = 4 := rfl
  have e600 : (600 : Int32).toInt = 600 := rfl
  obtain ⟨n, hn⟩ : ∃ n : Nat, x3.toInt = n := ⟨x3.toInt.toNat, by omega⟩
  have hx1 : (x3 - 1).toInt = (n : Int) - 1 := by rw [i_sub, hn, e1] <;> (try rw [hn, e1]) <;> omega
  obtain ⟨c1, u1, p1, p2, p3, p4⟩ := D_put46 a1 a2 a3 a4 (un := ru) x hm hx1 (by omega) (by omega)
  obtain ⟨c2, u2, q1, q2, q3, q4⟩ := M_put55 0 o c p (tx := ru) x hm hx1 (by omega) (by omega)
  have hcc : c2 = c1 := i_ext (by rw [p2, q2])
  subst hcc
  have huu : u2 = u1 := by
    funext i
    by_cases ci : i < m ∨ m + n ≤ i
    · rw [p3 i ci, q3 i ci]
    · obtain ⟨j, rfl⟩ : ∃ j, i = m + j := ⟨i - m, by omega⟩
      exact i_ext (by rw [p4 j (by omega), q4 j (by omega)])
  subst huu
  have hsum : (rc + x3).toInt = ((m + n : Nat) : Int) := by rw [i_add, hm, hn] <;> (try rw [hm, hn]) <;> omega
  have hroom : (600 - rc).toInt = ((600 - m : Nat) : Int) := by rw [i_sub, e600, hm] <;> (try rw [e600, hm]) <;> omega
  refine ⟨c2, u2, ?_, ?_, rfl, rfl, m + n, p2, by omega⟩
  · unfold f_D_put f_R_hasRoomFor
    rw [if_neg (show ¬ x3 < 1 by rw [i_lt]; exact h1), if_pos (show x3 ≤ 4 by rw [i_le]; exact h4), if_neg (show ¬ 600 - rc < x3 by rw [i_lt, hroom, hn]; omega), Option.bind_some, if_neg i10, p1]
  · unfold f_M_put f_M_put_15 f_M_put_41 f_M_put_42
    rw [if_neg (show ¬ x3 < 1 by rw [i_lt]; exact h1), if_pos (show x3 ≤ 4 by rw [i_le]; exact h4), if_pos rfl, if_pos (show rc + x3 ≤ 600 by rw [i_le, hsum, e600]; omega), M_thr0, Option.bind_some]
    dsimp only
    rw [if_pos rfl, q1]
