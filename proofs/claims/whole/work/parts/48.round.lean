/-! rounding: the nearest, of two as near the even one -/
def rhe (N D : Nat) : Nat := if D < 2 * (N % D) ∨ (2 * (N % D) = D ∧ N / D % 2 = 1) then N / D + 1 else N / D
/-- the bits of the number nearest to N / D * 2^-1074 -/
def zRB (N D : Nat) : Nat := zpk (zlen (N / D) - 53) (rhe N (D * 2 ^ (zlen (N / D) - 53)))
theorem rhe_mul {c : Nat} (hc : 0 < c) (N D : Nat) : rhe (N * c) (D * c) = rhe N D := by
  unfold rhe
  rw [Nat.mul_div_mul_right _ _ hc, Nat.mul_mod_mul_right]
  have e : 2 * (N % D * c) = 2 * (N % D) * c := (Nat.mul_assoc _ _ _).symm
  rw [e]
  by_cases h1 : D < 2 * (N % D)
  · rw [if_pos (Or.inl ((Nat.mul_lt_mul_right hc).mpr h1)), if_pos (Or.inl h1)]
  · by_cases h2 : 2 * (N % D) = D ∧ N / D % 2 = 1
    · rw [if_pos (Or.inr ⟨by rw [h2.1], h2.2⟩), if_pos (Or.inr h2)]
    · rw [if_neg, if_neg]
      · rintro (q | q)
        · exact h1 q
        · exact h2 q
      · rintro (q | q)
        · exact h1 ((Nat.mul_lt_mul_right hc).mp q)
        · exact h2 ⟨Nat.eq_of_mul_eq_mul_right hc q.1, q.2⟩
theorem zRB_mul {c : Nat} (hc : 0 < c) (N D : Nat) : zRB (N * c) (D * c) = zRB N D := by
  unfold zRB
  rw [Nat.mul_div_mul_right _ _ hc, Nat.mul_right_comm, rhe_mul hc]
theorem zlen_mul {n : Nat} (h : 0 < n) (k : Nat) : zlen (n * 2 ^ k) = zlen n + k := by
  have h1 := zlen_lt n
  have h2 := zlen_le (Nat.ne_of_gt h)
  have h3 : 0 < zlen n := by
    rcases Nat.eq_zero_or_pos (zlen n) with q | q
    · rw [q] at h1; omega
    · exact q
  refine zlen_of ?_ (Or.inr ?_)
  · rw [Nat.pow_add]; exact (Nat.mul_lt_mul_right (p2pos k)).mpr h1
  · rw [show zlen n + k - 1 = zlen n - 1 + k by omega, Nat.pow_add]; exact Nat.mul_le_mul_right _ h2
theorem zlen_div (n k : Nat) : zlen (n / 2 ^ k) = zlen n - k := by
  have h1 := zlen_lt n
  rcases Nat.lt_or_ge (zlen n) (k + 1) with q | q
  · have : n < 2 ^ k := Nat.lt_of_lt_of_le h1 (p2le (by omega))
    rw [Nat.div_eq_of_lt this, show zlen n - k = 0 by omega]
    rfl
  · have hn : n ≠ 0 := fun e => by rw [e] at q; simp [zlen] at q
    have h2 := zlen_le hn
    refine zlen_of ?_ (Or.inr ?_)
    · apply Nat.div_lt_of_lt_mul
      rw [← Nat.pow_add, show k + (zlen n - k) = zlen n by omega]
      exact h1
    · rw [Nat.le_div_iff_mul_le (p2pos k), ← Nat.pow_add, show zlen n - k - 1 + k = zlen n - 1 by omega]
      exact h2
theorem zlen_pos {n : Nat} (h : 0 < n) : 0 < zlen n := by
  unfold zlen
  rw [if_neg (by omega)]
  omega
theorem zlen_dbl {V mo : Nat} (hV : 0 < V) (hmo : mo < 2) : zlen (2 * V + mo) = zlen V + 1 := by
  have h1 := zlen_lt V
  have h2 := zlen_le (Nat.ne_of_gt hV)
  have h3 := zlen_pos hV
  refine zlen_of ?_ (Or.inr ?_)
  · rw [Nat.pow_succ]; omega
  · rw [Nat.add_sub_cancel]
    have : 2 ^ zlen V = 2 ^ (zlen V - 1) * 2 := by rw [← Nat.pow_succ]; congr 1; omega
    omega
/-- what is rounded up when o bits are cut off, and 'mo' says that there was more -/
def zup (V mo o : Nat) : Nat := if V / 2 ^ (o - 1) % 2 = 1 ∧ (mo = 1 ∨ V % 2 ^ (o - 1) ≠ 0 ∨ V / 2 ^ o % 2 = 1) then V / 2 ^ o + 1 else V / 2 ^ o
theorem rhe_cut {V mo o : Nat} (hmo : mo < 2) (ho : 0 < o) : rhe (2 * V + mo) (2 * 2 ^ o) = zup V mo o := by
  obtain ⟨n, rfl⟩ : ∃ n, o = n + 1 := ⟨o - 1, by omega⟩
  have hp := p2pos n
  have hm : V % 2 ^ (n + 1) = V % 2 ^ n + 2 ^ n * (V / 2 ^ n % 2) := Nat.mod_pow_succ
  have hlow : V % 2 ^ n < 2 ^ n := Nat.mod_lt _ hp
  have hh : V / 2 ^ n % 2 < 2 := Nat.mod_lt _ (by decide)
  have hlt : V % 2 ^ (n + 1) < 2 ^ (n + 1) := Nat.mod_lt _ (p2pos _)
  have hdm := Nat.div_add_mod V (2 ^ (n + 1))
  have e1 : 2 * V + mo = (2 * (V % 2 ^ (n + 1)) + mo) + 2 * 2 ^ (n + 1) * (V / 2 ^ (n + 1)) := by
    rw [Nat.mul_assoc]; omega
  have hlt2 : 2 * (V % 2 ^ (n + 1)) + mo < 2 * 2 ^ (n + 1) := by omega
  have e2 : (2 * V + mo) / (2 * 2 ^ (n + 1)) = V / 2 ^ (n + 1) := by
    rw [e1, Nat.add_mul_div_left _ _ (by omega), Nat.div_eq_of_lt hlt2, Nat.zero_add]
  have e3 : (2 * V + mo) % (2 * 2 ^ (n + 1)) = 2 * (V % 2 ^ (n + 1)) + mo := by
    rw [e1, Nat.add_mul_mod_self_left, Nat.mod_eq_of_lt hlt2]
  unfold rhe zup
  rw [e2, e3, hm, Nat.add_sub_cancel]
  have e4 : 2 ^ (n + 1) = 2 * 2 ^ n := by rw [Nat.pow_succ, Nat.mul_comm]
  rw [e4]
  generalize V / (2 * 2 ^ n) = v
  generalize V % 2 ^ n = low at *
  generalize V / 2 ^ n % 2 = h at *
  generalize 2 ^ n = P at *
  rcases Nat.lt_or_ge 0 h with q | q
  · have : h = 1 := by omega
    subst this
    by_cases c : mo = 1 ∨ low ≠ 0
    · rw [if_pos (Or.inl (by omega)), if_pos ⟨rfl, by omega⟩]
    · have a1 : mo = 0 := by omega
      have a2 : low = 0 := by omega
      subst a1 a2
      by_cases c2 : v % 2 = 1
      · rw [if_pos (Or.inr ⟨by omega, c2⟩), if_pos ⟨rfl, Or.inr (Or.inr c2)⟩]
      · rw [if_neg (by omega), if_neg (by omega)]
  · have : h = 0 := by omega
    subst this
    rw [if_neg (by omega), if_neg (by omega)]
theorem rhe_whole {k D : Nat} (hD : 0 < D) : rhe (k * D) D = k := by
  unfold rhe
  rw [Nat.mul_mod_left, Nat.mul_div_cancel _ hD, if_neg (by omega)]
/-- the reference's way: V, perhaps more, times 2^E (E from -1074 on) -/
theorem zRB_row {V mo : Nat} {E : Int} (hV : 0 < V) (hmo : mo < 2) (L : Nat) (hL : (L : Int) = max ((zlen V : Int) + E - 53) 0) :
    zRB ((2 * V + mo) * 2 ^ E.toNat) (2 * 2 ^ (-E).toNat) = if E < L then zpk L (zup V mo (L - E).toNat) else zpk L (rhe ((2 * V + mo) * 2 ^ E.toNat) (2 * 2 ^ L)) := by
  have hl : zlen ((2 * V + mo) * 2 ^ E.toNat / (2 * 2 ^ (-E).toNat)) - 53 = L := by
    rcases Int.lt_or_le E 0 with q | q
    · obtain ⟨e, he⟩ : ∃ e : Nat, E = -(e : Int) := ⟨(-E).toNat, by omega⟩
      rw [show E.toNat = 0 by omega, show (-E).toNat = e by omega, Nat.pow_zero, Nat.mul_one, ← Nat.div_div_eq_div_mul, show (2 * V + mo) / 2 = V by omega, zlen_div]
      omega
    · obtain ⟨e, he⟩ : ∃ e : Nat, E = (e : Int) := ⟨E.toNat, by omega⟩
      rw [show E.toNat = e by omega, show (-E).toNat = 0 by omega, Nat.pow_zero, Nat.mul_one]
      cases e with
      | zero => rw [Nat.pow_zero, Nat.mul_one, show (2 * V + mo) / 2 = V by omega]; omega
      | succ e =>
        rw [Nat.pow_succ, ← Nat.mul_assoc, Nat.mul_div_cancel _ (by decide), zlen_mul (by omega), zlen_dbl hV hmo]
        omega
  unfold zRB
  rw [hl]
  by_cases hE : E < L
  · rw [if_pos hE]
    congr 1
    obtain ⟨o, ho⟩ : ∃ o : Nat, (L : Int) - E = o := ⟨((L : Int) - E).toNat, by omega⟩
    have ho0 : 0 < o := by omega
    rw [show ((L : Int) - E).toNat = o by omega, ← rhe_cut hmo ho0]
    rcases Int.lt_or_le E 0 with q | q
    · obtain ⟨e, he⟩ : ∃ e : Nat, E = -(e : Int) := ⟨(-E).toNat, by omega⟩
      rw [show E.toNat = 0 by omega, show (-E).toNat = e by omega, Nat.pow_zero, Nat.mul_one, Nat.mul_assoc, ← Nat.pow_add, show e + L = o by omega]
    · obtain ⟨e, he⟩ : ∃ e : Nat, E = (e : Int) := ⟨E.toNat, by omega⟩
      rw [show E.toNat = e by omega, show (-E).toNat = 0 by omega, Nat.pow_zero, Nat.mul_one, show L = o + e by omega, Nat.pow_add, ← Nat.mul_assoc, rhe_mul (p2pos e)]
  · rw [if_neg hE, show (-E).toNat = 0 by omega, Nat.pow_zero, Nat.mul_one]
