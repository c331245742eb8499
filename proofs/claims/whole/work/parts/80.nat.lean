/-! the class's Natural: limbs of 30 bits -/
def nd (v i : Nat) : Nat := v / 1073741824 ^ i % 1073741824
def nP (l : Nat → Int32) (u v : Nat) : Prop := v < 1073741824 ^ u ∧ ∀ i, i < u → (l i).toInt = (nd v i : Int)
def nR (us : Int32) (l : Nat → Int32) (v : Nat) : Prop := ∃ u : Nat, us.toInt = u ∧ u ≤ 48 ∧ nP l u v ∧ (u = 0 ∨ 1073741824 ^ (u - 1) ≤ v)
theorem mu_dn (n : Nat) : ((n : Int) - 1 + 1).toNat < ((n : Int) + 1).toNat := by omega
theorem mu_up {u k : Nat} (h : k < u) : ((u : Int) - ((k + 1 : Nat) : Int)).toNat < ((u : Int) - (k : Int)).toNat := by omega
theorem nd_lt (v i : Nat) : nd v i < 1073741824 := Nat.mod_lt _ (by decide)
theorem nBp (k : Nat) : 0 < 1073741824 ^ k := Nat.pow_pos (by decide)
theorem nBle {a b : Nat} (h : a ≤ b) : 1073741824 ^ a ≤ 1073741824 ^ b := Nat.pow_le_pow_right (by decide) h
theorem nB2 (k : Nat) : 1073741824 ^ k = 2 ^ (30 * k) := by rw [Nat.pow_mul]
theorem nd_hi {v u i : Nat} (h : v < 1073741824 ^ u) (hi : u ≤ i) : nd v i = 0 := by
  unfold nd
  rw [Nat.div_eq_of_lt (Nat.lt_of_lt_of_le h (nBle hi)), Nat.zero_mod]
theorem nd_mod (v k : Nat) : v % 1073741824 ^ (k + 1) = v % 1073741824 ^ k + 1073741824 ^ k * nd v k := Nat.mod_pow_succ
theorem nd_div (v k : Nat) : v / 1073741824 ^ k = 1073741824 * (v / 1073741824 ^ (k + 1)) + nd v k := by
  unfold nd
  rw [Nat.pow_succ, ← Nat.div_div_eq_div_mul]
  exact (Nat.div_add_mod _ _).symm
theorem nd_low {v u i : Nat} (hi : i < u) : nd (v % 1073741824 ^ u) i = nd v i := by
  unfold nd
  obtain ⟨j, rfl⟩ : ∃ j, u = i + 1 + j := ⟨u - (i + 1), by omega⟩
  have e : 1073741824 ^ (i + 1 + j) = 1073741824 ^ i * (1073741824 * 1073741824 ^ j) := by rw [Nat.pow_add, Nat.pow_succ, Nat.mul_assoc]
  rw [e, Nat.mod_mul_right_div_self, Nat.mod_mul_right_mod]
theorem nP_0 {l : Nat → Int32} : nP l 0 0 := ⟨by decide, fun i hi => absurd hi (Nat.not_lt_zero _)⟩
theorem nR_lt {us : Int32} {l : Nat → Int32} {v : Nat} (h : nR us l v) : v < 1073741824 ^ 48 := by
  obtain ⟨u, _, h2, h3, _⟩ := h
  exact Nat.lt_of_lt_of_le h3.1 (nBle h2)
theorem i_mask (y : Int64) : (y.toInt32 &&& 1073741823).toInt = y.toInt % 1073741824 := by
  rw [i_and 30 (by decide) rfl, Int64.toInt_toInt32]
  show Int.bmod y.toInt 4294967296 % 1073741824 = _
  rw [Int.bmod_def]
  split <;> omega
theorem N_limbAt {us : Int32} {l : Nat → Int32} {v : Nat} (h : nR us l v) {x : Int32} {i : Nat} (hx : x.toInt = i) : ∃ d, f_N_limbAt us l x = some d ∧ d.toInt = (nd v i : Int) := by
  obtain ⟨u, h1, h2, h3, h4⟩ := h
  have e0 : (0 : Int32).toInt = 0 := rfl
  unfold f_N_limbAt
  rw [if_neg (show ¬ x < 0 by rw [i_lt, hx, e0]; omega)]
  by_cases c : u ≤ i
  · rw [if_pos (show us ≤ x by rw [i_le, h1, hx]; omega)]
    refine ⟨_, rfl, ?_⟩
    rw [nd_hi h3.1 c]
    rfl
  · rw [if_neg (show ¬ us ≤ x by rw [i_le, h1, hx]; omega), if_pos (show zin x 48 from ⟨by omega, by omega⟩)]
    refine ⟨_, rfl, ?_⟩
    rw [i_cl, hx, Int.toNat_natCast]
    exact h3.2 i (by omega)
theorem N_limbNeg {us : Int32} {l : Nat → Int32} {x : Int32} (hx : x.toInt < 0) : f_N_limbAt us l x = some 0 := by
  unfold f_N_limbAt
  have e0 : (0 : Int32).toInt = 0 := rfl
  rw [if_pos (show x < 0 by rw [i_lt, e0]; exact hx)]
theorem N_drop {l : Nat → Int32} {u v : Nat} {us : Int32} (hu : us.toInt = u) (h48 : u ≤ 48) (hp : nP l u v) : ∃ us', f_N_dropLeadingZeros us l = some us' ∧ nR us' l v := by
  have e0 : (0 : Int32).toInt = 0 := rfl
  have e1 : (1 : Int32).toInt = 1 := rfl
  unfold f_N_dropLeadingZeros f_N_dropLeadingZeros_0
  refine zrun_inv (step := f_N_dropLeadingZeros_0_step l) (x := us) (fun z => ∃ w : Nat, z.toInt = w ∧ w ≤ 48 ∧ nP l w v) (fun z => z.toInt.toNat) (fun d => nR d l v) ?_ ⟨u, hu, h48, hp⟩
  rintro z ⟨w, hw, hw48, hP⟩
  unfold f_N_dropLeadingZeros_0_step f_N_dropLeadingZeros_0_body
  cases w with
  | zero =>
    rw [if_pos (show z ≤ 0 by rw [i_le, hw, e0]; omega)]
    exact Or.inr ⟨z, rfl, 0, hw, by omega, hP, Or.inl rfl⟩
  | succ n =>
    have hz1 : (z - 1).toInt = (n : Int) := by rw [i_sub, hw, e1] <;> (try rw [hw, e1]) <;> omega
    rw [if_neg (show ¬ z ≤ 0 by rw [i_le, hw, e0]; omega), if_pos (show zin (z - 1) 48 from ⟨by omega, by omega⟩), i_cl, hz1, Int.toNat_natCast]
    have hd := hP.2 n (by omega)
    by_cases c : nd v n = 0
    · rw [if_pos (show l n = 0 by rw [i_eq, hd, c]; rfl)]
      refine Or.inl ⟨_, rfl, ⟨n, hz1, by omega, ?_, fun i hi => hP.2 i (by omega)⟩, by rw [hz1, hw]; omega⟩
      have h1 : v / 1073741824 ^ n < 1073741824 := by
        apply Nat.div_lt_of_lt_mul
        rw [← Nat.pow_succ]
        exact hP.1
      unfold nd at c
      rw [Nat.mod_eq_of_lt h1] at c
      rcases Nat.div_eq_zero_iff.mp c with q | q
      · have := nBp n; omega
      · exact q
    · rw [if_neg (show ¬ l n = 0 by rw [i_eq, hd, e0]; omega)]
      refine Or.inr ⟨z, rfl, n + 1, hw, hw48, hP, Or.inr ?_⟩
      rw [Nat.add_sub_cancel]
      rcases Nat.lt_or_ge v (1073741824 ^ n) with q | q
      · exact absurd (nd_hi q (Nat.le_refl _)) c
      · exact q
theorem N_set {us : Int32} {l : Nat → Int32} (x : Int64) : ∃ us' l', f_N_set us l x = some (us', l') ∧ nR us' l' x.toBitVec.toNat := by
  have e3 : (3 : Int32).toInt = 3 := rfl
  have e30 : (30 : Int32).toInt = 30 := rfl
  unfold f_N_set f_N_set_2
  obtain ⟨⟨us', l'⟩, h1, h2⟩ := zrun_inv (step := f_N_set_2_step x) (x := (us, l, 0)) (fun z => ∃ k : Nat, k ≤ 3 ∧ z.2.2.toInt = k ∧ ∀ i, i < k → (z.2.1 i).toInt = (nd x.toBitVec.toNat i : Int)) (fun z => (3 - z.2.2.toInt).toNat) (fun d => nR d.1 d.2 x.toBitVec.toNat) (by
    rintro ⟨a, b, x3⟩ ⟨k, hk, h3, hd⟩
    dsimp only at h3 hd
    unfold f_N_set_2_step f_N_set_2_body f_N_set_29
    dsimp only
    by_cases c : k = 3
    · subst c
      rw [if_pos (show (3 : Int32) ≤ x3 by rw [i_le, h3, e3]; omega)]
      obtain ⟨us', u1, u2⟩ := N_drop (us := 3) (u := 3) (l := b) rfl (by omega) ⟨Nat.lt_of_lt_of_le x.toBitVec.isLt (by decide), hd⟩
      rw [u1, Option.bind_some]
      exact Or.inr ⟨_, rfl, u2⟩
    · rw [if_neg (show ¬ (3 : Int32) ≤ x3 by rw [i_le, h3, e3]; omega), if_pos (show zin x3 48 from ⟨by omega, by omega⟩), i_cl, h3, Int.toNat_natCast]
      have hs : (x3 + 1).toInt = ((k + 1 : Nat) : Int) := i_suc h3 (by omega)
      refine Or.inl ⟨_, rfl, ⟨k + 1, by omega, hs, fun i hi => ?_⟩, by dsimp only; rw [hs]; (try rw [h3]); clear hs h3; omega⟩
      dsimp only
      by_cases ci : i = k
      · subst ci
        have hm : (30 * x3).toInt = ((30 * i : Nat) : Int) := by rw [i_mul, e30, h3] <;> (try rw [e30, h3]) <;> omega
        have hN := l_ushrN x hm (by omega)
        have hb := l_bv (jlushr x (30 * x3))
        rw [pk_us, i_mask]
        unfold nd
        rw [nB2, ← hN]
        omega
      · rw [pk_un ci]
        exact hd i (by omega)) ⟨0, by omega, rfl, fun i hi => absurd hi (Nat.not_lt_zero _)⟩
  exact ⟨us', l', h1, h2⟩
theorem N_copy {us os : Int32} {l m : Nat → Int32} {w : Nat} (h : nR os m w) : ∃ l', f_N_copy us l os m = some (os, l') ∧ nR os l' w := by
  obtain ⟨u, h1, h2, h3, h4⟩ := h
  unfold f_N_copy f_N_copy_10
  obtain ⟨⟨us', l'⟩, a1, a2, a3⟩ := zrun_inv (step := f_N_copy_10_step os m) (x := (os, l, 0)) (fun z => z.1 = os ∧ ∃ k : Nat, k ≤ u ∧ z.2.2.toInt = k ∧ ∀ i, i < k → z.2.1 i = m i) (fun z => (u - z.2.2.toInt).toNat) (fun d => d.1 = os ∧ ∀ i, i < u → d.2 i = m i) (by
    rintro ⟨a, b, x2⟩ ⟨ha, k, hk, hx, hd⟩
    dsimp only at ha hx hd
    subst ha
    unfold f_N_copy_10_step f_N_copy_10_body
    dsimp only
    by_cases c : k = u
    · subst c
      rw [if_pos (show a ≤ x2 by rw [i_le, h1, hx]; omega)]
      exact Or.inr ⟨_, rfl, rfl, hd⟩
    · have hz : zin x2 48 := ⟨by omega, by omega⟩
      rw [if_neg (show ¬ a ≤ x2 by rw [i_le, h1, hx]; omega), if_pos hz, if_pos hz, i_cl, hx, Int.toNat_natCast]
      have hs : (x2 + 1).toInt = ((k + 1 : Nat) : Int) := i_suc hx (by omega)
      refine Or.inl ⟨_, rfl, ⟨rfl, k + 1, by omega, hs, fun i hi => ?_⟩, by dsimp only; rw [hs]; (try rw [hx]); clear hs hx; omega⟩
      dsimp only
      by_cases ci : i = k
      · subst ci
        rw [pk_us]
      · rw [pk_un ci]
        exact hd i (by omega)) ⟨rfl, 0, by omega, rfl, fun i hi => absurd hi (Nat.not_lt_zero _)⟩
  dsimp only at a2 a3
  subst a2
  exact ⟨l', a1, u, h1, h2, ⟨h3.1, fun i hi => by rw [a3 i hi]; exact h3.2 i hi⟩, h4⟩
theorem nR_0 {us : Int32} {l : Nat → Int32} {v : Nat} (h : nR us l v) : us = 0 ↔ v = 0 := by
  obtain ⟨u, h1, h2, h3, h4⟩ := h
  have e0 : (0 : Int32).toInt = 0 := rfl
  rw [i_eq, h1, e0]
  constructor
  · intro q
    have : u = 0 := by omega
    subst this
    have := h3.1
    rw [Nat.pow_zero] at this
    omega
  · intro q
    rcases h4 with z | z
    · omega
    · have := nBp (u - 1)
      omega
theorem N_isZero {us : Int32} {l : Nat → Int32} {v : Nat} (h : nR us l v) : f_N_isZero us = some (if v = 0 then 1 else 0) := by
  unfold f_N_isZero
  by_cases c : v = 0
  · rw [if_pos ((nR_0 h).mpr c), if_pos c]
  · rw [if_neg (fun q => c ((nR_0 h).mp q)), if_neg c]
theorem nR_top {us : Int32} {l : Nat → Int32} {v : Nat} (h : nR us l v) (hv : v ≠ 0) : ∃ n : Nat, us.toInt = ((n + 1 : Nat) : Int) ∧ n < 48 ∧ (l n).toInt = ((v / 2 ^ (30 * n) : Nat) : Int) ∧ 30 * n < zlen v ∧ zlen v ≤ 30 * n + 30 := by
  obtain ⟨u, h1, h2, h3, h4⟩ := h
  rcases h4 with z | z
  · subst z
    have := h3.1
    rw [Nat.pow_zero] at this
    omega
  · cases u with
    | zero =>
      have := h3.1
      rw [Nat.pow_zero] at this
      omega
    | succ n =>
      refine ⟨n, h1, by omega, ?_, ?_, ?_⟩
      · rw [h3.2 n (by omega)]
        unfold nd
        rw [Nat.mod_eq_of_lt, nB2]
        apply Nat.div_lt_of_lt_mul
        rw [← Nat.pow_succ]
        exact h3.1
      · rw [Nat.add_sub_cancel, nB2] at z
        exact zlen_gt z
      · have := h3.1
        rw [nB2] at this
        exact zlen_mono (k := 30 * n + 30) this
theorem N_bitLength {us : Int32} {l : Nat → Int32} {v : Nat} (h : nR us l v) : ∃ d, f_N_bitLength us l = some d ∧ d.toInt = (zlen v : Int) := by
  unfold f_N_bitLength
  by_cases c : v = 0
  · rw [if_pos ((nR_0 h).mpr c), c]
    exact ⟨_, rfl, rfl⟩
  · rw [if_neg (fun q => c ((nR_0 h).mp q))]
    obtain ⟨n, h1, h2, h3, h4, h5⟩ := nR_top h c
    have e1 : (1 : Int32).toInt = 1 := rfl
    have e30 : (30 : Int32).toInt = 30 := rfl
    have hn : (us - 1).toInt = (n : Int) := by rw [i_sub, h1, e1] <;> (try rw [h1, e1]) <;> omega
    rw [if_pos (show zin (us - 1) 48 from ⟨by omega, by omega⟩), i_cl, hn, Int.toNat_natCast]
    obtain ⟨d, d1, d2⟩ := B_bitLength (x := (l n).toInt64) (n := v / 2 ^ (30 * n)) (by rw [i2l, h3])
    rw [zlen_div] at d2
    have hm : ((us - 1) * 30).toInt = ((n * 30 : Nat) : Int) := by rw [i_mul, hn, e30] <;> (try rw [hn, e30]) <;> omega
    rw [d1, Option.bind_some]
    refine ⟨_, rfl, ?_⟩
    rw [i_add, hm, d2] <;> (try rw [hm, d2]) <;> omega
/-- how far the number stands below a full limb -/
theorem N_slack {us : Int32} {l : Nat → Int32} {v : Nat} (h : nR us l v) (hv : v ≠ 0) : ∃ (d : Int32) (k n : Nat), f_N_slack us l = some d ∧ d.toInt = (k : Int) ∧ us.toInt = ((n + 1 : Nat) : Int) ∧ n < 48 ∧ zlen v + k = 30 * (n + 1) ∧ k < 30 := by
  unfold f_N_slack
  rw [if_neg (fun q => hv ((nR_0 h).mp q))]
  obtain ⟨n, h1, h2, h3, h4, h5⟩ := nR_top h hv
  have e1 : (1 : Int32).toInt = 1 := rfl
  have e30 : (30 : Int32).toInt = 30 := rfl
  have hn : (us - 1).toInt = (n : Int) := by rw [i_sub, h1, e1] <;> (try rw [h1, e1]) <;> omega
  rw [if_pos (show zin (us - 1) 48 from ⟨by omega, by omega⟩), i_cl, hn, Int.toNat_natCast]
  obtain ⟨d, d1, d2⟩ := B_bitLength (x := (l n).toInt64) (n := v / 2 ^ (30 * n)) (by rw [i2l, h3])
  rw [zlen_div] at d2
  rw [d1, Option.bind_some]
  refine ⟨_, 30 * (n + 1) - zlen v, n, rfl, ?_, h1, h2, by omega, by omega⟩
  rw [i_sub, e30, d2] <;> (try rw [e30, d2]) <;> omega
theorem N_order {us os : Int32} {l m : Nat → Int32} {v w : Nat} (h : nR us l v) (g : nR os m w) : f_N_order us l os m = some (zsg v w) := by
  have hh := h
  have gg := g
  obtain ⟨u, h1, h2, h3, h4⟩ := hh
  obtain ⟨o, g1, g2, g3, g4⟩ := gg
  have e0 : (0 : Int32).toInt = 0 := rfl
  have e1 : (1 : Int32).toInt = 1 := rfl
  have em1 : (-1 : Int32).toInt = -1 := rfl
  unfold f_N_order
  by_cases c : u = o
  · subst c
    rw [if_pos (show us = os by rw [i_eq, h1, g1])]
    unfold f_N_order_35
    have hst : (us - 1).toInt = (u : Int) - 1 := by rw [i_sub, h1, e1] <;> (try rw [h1, e1]) <;> omega
    obtain ⟨d, a1, a2⟩ := zrun_inv (step := f_N_order_35_step us l os m) (x := us - 1) (fun z => ∃ k : Nat, k ≤ u ∧ z.toInt = (k : Int) - 1 ∧ v / 1073741824 ^ k = w / 1073741824 ^ k) (fun z => (z.toInt + 1).toNat) (fun d => d = zsg v w) (by
      rintro z ⟨k, hk, hz, he⟩
      unfold f_N_order_35_step f_N_order_35_body f_N_order_54
      cases k with
      | zero =>
        rw [Nat.pow_zero, Nat.div_one, Nat.div_one] at he
        rw [if_pos (show z < 0 by rw [i_lt, hz, e0]; omega)]
        refine Or.inr ⟨_, rfl, ?_⟩
        exact (zsg_0.mpr he).symm
      | succ n =>
        have hzn : z.toInt = (n : Int) := by omega
        have hin : zin z 48 := ⟨by omega, by omega⟩
        rw [if_neg (show ¬ z < 0 by rw [i_lt, hz, e0]; omega), if_pos hin, if_pos hin, if_pos hin, if_pos hin, i_cl, hzn, Int.toNat_natCast]
        have hd := h3.2 n (by omega)
        have gd := g3.2 n (by omega)
        have dv := nd_div v n
        have dw := nd_div w n
        by_cases ce : nd v n = nd w n
        · rw [if_pos (show l n = m n by rw [i_eq, hd, gd, ce])]
          have hnu : n ≤ u := Nat.le_of_succ_le hk
          have hm : (z + (-1)).toInt = (n : Int) - 1 := i_prd hzn
          exact Or.inl ⟨_, rfl, ⟨n, hnu, hm, by rw [dv, dw, he, ce]⟩, by rw [hm]; exact mu_dn _⟩
        · rw [if_neg (show ¬ l n = m n by rw [i_eq, hd, gd]; omega)]
          by_cases cl : nd w n ≤ nd v n
          · rw [if_pos (show m n ≤ l n by rw [i_le, hd, gd]; omega)]
            refine Or.inr ⟨_, rfl, ?_⟩
            have hlt : w < v := by
              rcases Nat.lt_or_ge w v with q | q
              · exact q
              · have := Nat.div_le_div_right (c := 1073741824 ^ n) q
                omega
            unfold zsg
            rw [if_neg (by omega), if_neg (by omega)]
          · rw [if_neg (show ¬ m n ≤ l n by rw [i_le, hd, gd]; omega)]
            refine Or.inr ⟨_, rfl, ?_⟩
            have hlt : v < w := by
              rcases Nat.lt_or_ge v w with q | q
              · exact q
              · have := Nat.div_le_div_right (c := 1073741824 ^ n) q
                omega
            unfold zsg
            rw [if_pos hlt]) ⟨u, Nat.le_refl _, hst, by rw [Nat.div_eq_of_lt h3.1, Nat.div_eq_of_lt g3.1]⟩
    rw [a1, a2]
  · rw [if_neg (show ¬ us = os by rw [i_eq, h1, g1]; omega)]
    have far : ∀ {a b x y : Nat}, a < b → x < 1073741824 ^ a → (b = 0 ∨ 1073741824 ^ (b - 1) ≤ y) → x < y := by
      intro a b x y c1 c2 c3
      rcases c3 with z | z
      · omega
      · exact Nat.lt_of_lt_of_le (Nat.lt_of_lt_of_le c2 (nBle (by omega))) z
    by_cases c2 : o ≤ u
    · rw [if_pos (show os ≤ us by rw [i_le, h1, g1]; omega)]
      have := far (show o < u by omega) g3.1 h4
      unfold zsg
      rw [if_neg (by omega), if_neg (by omega)]
    · rw [if_neg (show ¬ os ≤ us by rw [i_le, h1, g1]; omega)]
      have := far (show u < o by omega) h3.1 g4
      unfold zsg
      rw [if_pos this]
