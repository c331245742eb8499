/-! the reference's scaled: a whole number below 2^53, and a power -/
theorem zrd_1 {V : Nat} {E : Int} (hV : 0 < V) (L : Nat) (hL : (L : Int) = max ((zlen V : Int) + E - 53) 0) : zrd V 0 E = if E < L then zpk L (zup V 0 (L - E).toNat) else zpk L (V * 2 ^ (E - L).toNat) := by
  unfold zrd
  rw [Nat.add_zero]
  exact zRB_1 hV L hL
theorem zrd_up {v E k : Nat} (hv : 0 < v) (hk : k ≤ E) (h53 : v * 2 ^ k < 9007199254740992) (hend : v * 2 ^ k < 4503599627370496 → k = E) : zrd v 0 E = zpk (E - k) (v * 2 ^ k) := by
  have hzm := zlen_mul hv k
  have h1 : zlen (v * 2 ^ k) ≤ 53 := zlen_mono h53
  have hL : ((E - k : Nat) : Int) = max ((zlen v : Int) + (E : Int) - 53) 0 := by
    by_cases c : v * 2 ^ k < 4503599627370496
    · have h2 : zlen (v * 2 ^ k) ≤ 52 := zlen_mono c
      have := hend c
      omega
    · have h3 : ¬ zlen (v * 2 ^ k) ≤ 52 := fun q => by
        have h4 := zlen_lt (v * 2 ^ k)
        have h5 : 2 ^ zlen (v * 2 ^ k) ≤ 2 ^ 52 := p2le q
        generalize v * 2 ^ k = y at *
        generalize 2 ^ zlen y = w at *
        omega
      omega
  rw [zrd_1 hv (E - k) hL, if_neg (by omega), show ((E : Int) - ((E - k : Nat) : Int)).toNat = k by omega]
theorem M_scaled {x0 x2 : Int64} {x4 : Int32} {v E : Nat} (hv : x2.toInt = v) (h0 : 0 < v) (h53 : v < 9007199254740992) (h4 : x4.toInt = (E : Int) - 1074) (hE : E < 100000) :
    f_M_scaled x0 x2 x4 = some (x0 ||| lN (zrd v 0 E)) := by
  have e52 : (4503599627370496 : Int64).toInt = 4503599627370496 := rfl
  have em : (-1074 : Int32).toInt = -1074 := rfl
  have e2 : (2 : Int64).toInt = 2 := rfl
  unfold f_M_scaled f_M_scaled_7
  obtain ⟨y, hy1, hy2⟩ := zrun_inv (step := f_M_scaled_7_step x0) (x := (x2, x4)) (fun z => ∃ k : Nat, k ≤ E ∧ z.1.toInt = ((v * 2 ^ k : Nat) : Int) ∧ z.2.toInt = ((E - k : Nat) : Int) - 1074 ∧ v * 2 ^ k < 9007199254740992) (fun z => (z.2.toInt + 1074).toNat) (fun y => y = x0 ||| lN (zrd v 0 E)) (by
    rintro ⟨x5, x7⟩ ⟨k, hk, h5, h7, hlt⟩
    dsimp only at h5 h7
    unfold f_M_scaled_7_step f_M_scaled_7_body f_M_scaled_38
    dsimp only
    have fin : (v * 2 ^ k < 4503599627370496 → k = E) → ((f_M_packed x0 x5 x7).bind fun r_43 => some r_43) = some (x0 ||| lN (zrd v 0 E)) := by
      intro hend
      rw [zrd_up h0 hk hlt hend, M_packed h5 h7 (by omega) (Nat.le_of_lt hlt) (fun q => by have := hend q; omega), Option.bind_some]
    by_cases c : v * 2 ^ k < 4503599627370496
    · rw [if_pos (by rw [l_lt, h5, e52]; omega)]
      by_cases ce : k = E
      · rw [if_pos (by rw [i_le, h7, em]; omega), fin (fun _ => ce)]
        exact Or.inr ⟨_, rfl, rfl⟩
      · rw [if_neg (by rw [i_le, h7, em]; omega)]
        have hd : (2 * x5).toInt = ((v * 2 ^ (k + 1) : Nat) : Int) := by
          have e9 : v * 2 ^ (k + 1) = 2 * (v * 2 ^ k) := by rw [Nat.pow_succ, ← Nat.mul_assoc, Nat.mul_comm]
          rw [e9]
          generalize v * 2 ^ k = y at *
          rw [l_mul, e2, h5] <;> (try rw [e2, h5]) <;> omega
        have hm : (x7 + (-1)).toInt = ((E - (k + 1) : Nat) : Int) - 1074 := by
          have em1 : (-1 : Int32).toInt = -1 := rfl
          rw [i_add, h7, em1] <;> (try rw [h7, em1]) <;> omega
        refine Or.inl ⟨_, rfl, ⟨k + 1, by omega, hd, hm, ?_⟩, by dsimp only; rw [hm, h7]; omega⟩
        rw [Nat.pow_succ, ← Nat.mul_assoc]
        omega
    · rw [if_neg (by rw [l_lt, h5, e52]; omega), fin (fun q => absurd q c)]
      exact Or.inr ⟨_, rfl, rfl⟩) ⟨0, by omega, by rw [Nat.pow_zero, Nat.mul_one]; exact hv, by rw [Nat.sub_zero]; exact h4, by rw [Nat.pow_zero, Nat.mul_one]; exact h53⟩
  rw [hy1, hy2]
