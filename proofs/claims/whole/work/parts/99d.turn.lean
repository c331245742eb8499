theorem zch_rng {d : Nat} (h : d < 36) : 0 ≤ (zch d).toInt ∧ (zch d).toInt < 65536 := by
  rw [zch_i h]
  constructor
  · omega
  · split <;> omega
theorem P_turn {cn : Int32} {un : Nat → Int32} {L : List Int32} {d : Nat → Nat} {n : Nat} (hd : ∀ i, d i < 36) (h : pP 1100 cn un (L ++ zds d 0 n)) {x : Int32} (hx : x.toInt = (L.length : Int)) (hn : 0 < n) : ∃ un', f_P_turnRoundFrom cn un x = some un' ∧ pP 1100 cn un' (L ++ zds (fun i => d (n - 1 - i)) 0 n) := by
  have e0 : (0 : Int32).toInt = 0 := rfl
  have e1 : (1 : Int32).toInt = 1 := rfl
  have hcn := h.1
  have hcap := h.2.1
  rw [List.length_append, zds_len] at hcn hcap
  have hc1 : (cn - 1).toInt = ((L.length + n - 1 : Nat) : Int) := by
    rw [i_sub (by rw [e1]; omega) (by rw [e1]; omega), e1, hcn]
    omega
  have hat : ∀ i, i < n → un (L.length + i) = zch (d i) := fun i hi => pP_at h hi
  have hlow : ∀ i, i < L.length → L[i]? = some (un i) := fun i hi => by
    have := h.2.2 i (by rw [List.length_append]; omega)
    rw [List.getElem?_append_left hi] at this
    exact this
  unfold f_P_turnRoundFrom f_P_turnRoundFrom_9
  generalize hA : L.length = a at *
  obtain ⟨u', t1, t2⟩ := zrun_inv (step := f_P_turnRoundFrom_9_step cn) (x := (un, x, cn - 1)) (fun z => ∃ k : Nat, 2 * k ≤ n ∧ z.2.1.toInt = ((a + k : Nat) : Int) ∧ z.2.2.toInt = (a : Int) + n - 1 - k ∧ (∀ i, i < a → z.1 i = un i) ∧ ∀ i, i < n → z.1 (a + i) = if i < k ∨ n - k ≤ i then zch (d (n - 1 - i)) else zch (d i)) (fun z => (z.2.2.toInt - z.2.1.toInt).toNat) (fun u => (∀ i, i < a → u i = un i) ∧ ∀ i, i < n → u (a + i) = zch (d (n - 1 - i))) (by
    rintro ⟨u, x2, x3⟩ ⟨k, hk, h2, h3, hlo, hhi⟩
    dsimp only at h2 h3 hlo hhi
    unfold f_P_turnRoundFrom_9_step f_P_turnRoundFrom_9_body
    dsimp only
    rw [if_neg (show ¬ x2 < 0 by rw [i_lt, h2, e0]; omega)]
    by_cases c : n ≤ 2 * k + 1
    · rw [if_pos (show x3 ≤ x2 by rw [i_le, h2, h3]; omega)]
      refine Or.inr ⟨_, rfl, hlo, fun i hi => ?_⟩
      rw [hhi i hi]
      by_cases q : i < k ∨ n - k ≤ i
      · rw [if_pos q]
      · rw [if_neg q, show n - 1 - i = i by omega]
    · rw [if_neg (show ¬ x3 ≤ x2 by rw [i_le, h2, h3]; omega)]
      have z2 : zin x2 1100 := ⟨by omega, by omega⟩
      have z3 : zin x3 1100 := ⟨by omega, by omega⟩
      have l2 : x2.toNatClampNeg = a + k := by rw [i_cl, h2, Int.toNat_natCast]
      have l3 : x3.toNatClampNeg = a + (n - 1 - k) := by rw [i_cl, h3]; omega
      rw [if_pos z2, if_pos z3, if_pos z2, if_pos z3, l2, l3]
      have v2 : u (a + k) = zch (d k) := by rw [hhi k (by omega), if_neg (by omega)]
      have v3 : u (a + (n - 1 - k)) = zch (d (n - 1 - k)) := by rw [hhi (n - 1 - k) (by omega), if_neg (by omega)]
      have w2 := zch_rng (hd k)
      have w3 := zch_rng (hd (n - 1 - k))
      rw [v2, v3, nar_id w2.1 w2.2, nar_id w3.1 w3.2]
      have hs2 : (x2 + 1).toInt = ((a + (k + 1) : Nat) : Int) := i_suc (k := a + k) h2 (by omega)
      have hmu : ((a : Int) + n - 1 - (k + 1 : Nat) - ((a + (k + 1) : Nat) : Int)).toNat < ((a : Int) + n - 1 - k - ((a + k : Nat) : Int)).toNat := by
        clear hs2
        omega
      have p1 : ∀ i, i < a → upd (upd u (a + k) (zch (d (n - 1 - k)))) (a + (n - 1 - k)) (zch (d k)) i = un i := by
        clear hs2 hmu
        intro i hi
        rw [pk_un (by omega), pk_un (by omega)]
        exact hlo i hi
      have p2 : ∀ i, i < n → upd (upd u (a + k) (zch (d (n - 1 - k)))) (a + (n - 1 - k)) (zch (d k)) (a + i) = if i < k + 1 ∨ n - (k + 1) ≤ i then zch (d (n - 1 - i)) else zch (d i) := by
        clear hs2 hmu p1
        intro i hi
        by_cases q3 : i = n - 1 - k
        · rw [q3, pk_us, if_pos (by omega), show n - 1 - (n - 1 - k) = k by omega]
        · rw [pk_un (by omega)]
          by_cases q2 : i = k
          · rw [q2, pk_us, if_pos (by omega)]
          · rw [pk_un (by omega), hhi i hi]
            by_cases q : i < k ∨ n - k ≤ i
            · rw [if_pos q, if_pos (by omega)]
            · rw [if_neg q, if_neg (by omega)]
      have hk1 : 2 * (k + 1) ≤ n := by omega
      obtain ⟨y3, hy3⟩ : ∃ y3 : Nat, x3.toInt = y3 ∧ (y3 : Int) - 1 = (a : Int) + n - 1 - (k + 1 : Nat) := ⟨a + n - 1 - k, by omega, by omega⟩
      have hs3 : (x3 + -1).toInt = (a : Int) + n - 1 - (k + 1 : Nat) := (i_prd hy3.1).trans hy3.2
      refine Or.inl ⟨_, rfl, ⟨k + 1, hk1, hs2, hs3, p1, p2⟩, ?_⟩
      dsimp only
      rw [hs2, hs3, h2, h3]
      exact hmu) ⟨0, by omega, hx, by dsimp only; rw [hc1]; omega, fun _ _ => rfl, fun i hi => by
          dsimp only
          rw [if_neg (by omega)]
          exact hat i hi⟩
  refine ⟨u', t1, ?_, ?_, fun i hi => ?_⟩
  · rw [List.length_append, zds_len, hA]
    exact hcn
  · rw [List.length_append, zds_len, hA]
    exact hcap
  · rw [List.length_append, zds_len, hA] at hi
    rcases Nat.lt_or_ge i a with q | q
    · rw [List.getElem?_append_left (by omega), t2.1 i q]
      exact hlow i q
    · rw [List.getElem?_append_right (by omega), hA, zds_get _ 0 (show i - a < n by omega), Nat.zero_add, ← t2.2 (i - a) (by omega), show a + (i - a) = i by omega]
