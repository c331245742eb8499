/-! how many places before the point -/
theorem v_step (m : Nat) (E t : Int) : vN m E t * vD E (t + 1) = 10 * vN m E (t + 1) * vD E t := by
  unfold vN vD
  rcases Int.lt_or_le t 0 with q | q
  · obtain ⟨n, hn⟩ : ∃ n : Nat, -t = n + 1 := ⟨(-t - 1).toNat, by omega⟩
    rw [show (-t).toNat = n + 1 by omega, show (t + 1).toNat = 0 by omega, show (-(t + 1)).toNat = n by omega, show t.toNat = 0 by omega, Nat.pow_zero, Nat.one_mul, Nat.pow_succ]
    rw [← Nat.mul_assoc m, Nat.mul_comm (m * 10 ^ n) 10, Nat.mul_assoc 10, Nat.mul_assoc 10]
  · obtain ⟨n, hn⟩ : ∃ n : Nat, t = n := ⟨t.toNat, by omega⟩
    rw [show (-t).toNat = 0 by omega, show (t + 1).toNat = n + 1 by omega, show (-(t + 1)).toNat = 0 by omega, show t.toNat = n by omega, Nat.pow_zero, Nat.mul_one, Nat.pow_succ]
    generalize m * 2 ^ E.toNat = x
    generalize 2 ^ (-E).toNat = y
    generalize 10 ^ n = z
    rw [Nat.mul_comm z 10, Nat.mul_assoc 10 z y, Nat.mul_left_comm x 10, Nat.mul_assoc 10 x]
theorem vD_pos (E t : Int) : 0 < vD E t := Nat.mul_pos (p10p _) (p2pos _)
theorem v_mono1 {m : Nat} {E t : Int} (h : vN m E t < vD E t) : vN m E (t + 1) < vD E (t + 1) := by
  have hs := v_step m E t
  have h1 : vN m E t * vD E (t + 1) < vD E t * vD E (t + 1) := (Nat.mul_lt_mul_right (vD_pos _ _)).mpr h
  rw [hs, Nat.mul_comm (vD E t)] at h1
  have h2 : 10 * vN m E (t + 1) < vD E (t + 1) := Nat.lt_of_mul_lt_mul_right h1
  omega
theorem v_mono {m : Nat} {E t : Int} (h : vN m E t < vD E t) : ∀ k : Nat, vN m E (t + k) < vD E (t + k)
  | 0 => by
    rw [show t + ((0 : Nat) : Int) = t by omega]
    exact h
  | k + 1 => by
    have := v_mono1 (v_mono h k)
    rw [show t + ((k + 1 : Nat) : Int) = t + (k : Int) + 1 by omega]
    exact this
def isP (m : Nat) (E P : Int) : Prop := vN m E P < vD E P ∧ vD E (P - 1) ≤ vN m E (P - 1)
theorem isP_le {m : Nat} {E P t : Int} (h : isP m E P) (ht : vN m E t < vD E t) : P ≤ t := by
  rcases Int.lt_or_le t P with q | q
  · exfalso
    obtain ⟨k, hk⟩ : ∃ k : Nat, P - 1 = t + k := ⟨(P - 1 - t).toNat, by omega⟩
    have h1 := v_mono ht k
    have h2 := h.2
    rw [hk] at h2
    omega
  · exact q
theorem isP_uniq {m : Nat} {E P Q : Int} (h : isP m E P) (g : isP m E Q) : P = Q := by
  have h1 := isP_le h g.1
  have h2 := isP_le g h.1
  omega
/-- 10^t ≤ 2^p; 2^p ≤ 10^t -/
def cA (p t : Int) : Prop := 10 ^ t.toNat * 2 ^ (-p).toNat ≤ 2 ^ p.toNat * 10 ^ (-t).toNat
def cB (p t : Int) : Prop := 2 ^ p.toNat * 10 ^ (-t).toNat ≤ 10 ^ t.toNat * 2 ^ (-p).toNat
def cK (p : Int) : Int := p * 78913 / 262144
def cI (p : Int) : Int := (if 0 ≤ p * 30103 then p * 30103 / 100000 else -((-(p * 30103)) / 100000)) - 1
def chk1 (q : Nat) : Bool := decide (10 ^ (cK ((q : Int) - 1074)).toNat * 2 ^ (-((q : Int) - 1074)).toNat ≤ 2 ^ ((q : Int) - 1074).toNat * 10 ^ (-(cK ((q : Int) - 1074))).toNat) && (decide (2 ^ ((q : Int) - 1074 + 1).toNat * 10 ^ (-(cK ((q : Int) - 1074) + 2)).toNat ≤ 10 ^ (cK ((q : Int) - 1074) + 2).toNat * 2 ^ (-((q : Int) - 1074 + 1)).toNat) && decide (10 ^ (cI ((q : Int) - 1074)).toNat * 2 ^ (-((q : Int) - 1074)).toNat ≤ 2 ^ ((q : Int) - 1074).toNat * 10 ^ (-(cI ((q : Int) - 1074))).toNat))
def chk : Nat → Bool
  | 0 => true
  | q + 1 => chk1 q && chk q
theorem chk_ok : chk 2100 = true := by decide +kernel
theorem chk_all {n : Nat} : ∀ {k : Nat}, chk k = true → n < k → chk1 n = true
  | 0, _, h => absurd h (Nat.not_lt_zero _)
  | k + 1, h, hn => by
    have h' : (chk1 k && chk k) = true := h
    rw [Bool.and_eq_true] at h'
    rcases Nat.lt_or_ge n k with q | q
    · exact chk_all h'.2 q
    · have : n = k := by omega
      rw [this]
      exact h'.1
theorem chk_p {p : Int} (h1 : -1074 ≤ p) (h2 : p < 1026) : cA p (cK p) ∧ cB (p + 1) (cK p + 2) ∧ cA p (cI p) := by
  obtain ⟨q, hq⟩ : ∃ q : Nat, p = (q : Int) - 1074 := ⟨(p + 1074).toNat, by omega⟩
  have h := chk_all chk_ok (show q < 2100 by omega)
  unfold chk1 at h
  rw [Bool.and_eq_true, Bool.and_eq_true, decide_eq_true_iff, decide_eq_true_iff, decide_eq_true_iff, ← hq] at h
  exact h
theorem v_ge {m : Nat} {E t : Int} (hm : m ≠ 0) (h : cA ((zlen m : Int) + E - 1) t) : vD E t ≤ vN m E t := by
  unfold cA at h
  have hl := zlen_le hm
  have hz := zlen_pos (Nat.pos_of_ne_zero hm)
  generalize hp : (zlen m : Int) + E - 1 = p at h
  have e : (2 : Nat) ^ p.toNat * 2 ^ (-E).toNat = 2 ^ (-p).toNat * (2 ^ (zlen m - 1) * 2 ^ E.toNat) := by
    rw [← Nat.pow_add, ← Nat.pow_add, ← Nat.pow_add, show p.toNat + (-E).toNat = (-p).toNat + (zlen m - 1 + E.toNat) by omega]
  have h1 := Nat.mul_le_mul_right (2 ^ (-E).toNat) h
  have h2 : 2 ^ (-p).toNat * (10 ^ t.toNat * 2 ^ (-E).toNat) ≤ 2 ^ (-p).toNat * (2 ^ (zlen m - 1) * 2 ^ E.toNat * 10 ^ (-t).toNat) := by
    rw [← Nat.mul_assoc (2 ^ (-p).toNat) (2 ^ (zlen m - 1) * 2 ^ E.toNat), ← e]
    rw [Nat.mul_right_comm (2 ^ p.toNat), Nat.mul_comm (10 ^ t.toNat) (2 ^ (-p).toNat), Nat.mul_assoc (2 ^ (-p).toNat)] at h1
    exact h1
  have h3 := Nat.le_of_mul_le_mul_left h2 (p2pos _)
  unfold vD vN
  refine Nat.le_trans h3 ?_
  rw [Nat.mul_right_comm, Nat.mul_right_comm m]
  have h4 : 2 ^ (zlen m - 1) * 10 ^ (-t).toNat * 2 ^ E.toNat ≤ m * 10 ^ (-t).toNat * 2 ^ E.toNat := Nat.mul_le_mul_right _ (Nat.mul_le_mul_right _ hl)
  rw [Nat.mul_right_comm m]
  exact h4
theorem v_lt {m : Nat} {E t : Int} (h : cB ((zlen m : Int) + E - 1 + 1) t) : vN m E t < vD E t := by
  unfold cB at h
  have hl := zlen_lt m
  generalize hp : (zlen m : Int) + E - 1 + 1 = p at h
  have e : (2 : Nat) ^ p.toNat * 2 ^ (-E).toNat = 2 ^ (-p).toNat * (2 ^ zlen m * 2 ^ E.toNat) := by
    rw [← Nat.pow_add, ← Nat.pow_add, ← Nat.pow_add, show p.toNat + (-E).toNat = (-p).toNat + (zlen m + E.toNat) by omega]
  have h1 := Nat.mul_le_mul_right (2 ^ (-E).toNat) h
  have h2 : 2 ^ (-p).toNat * (2 ^ zlen m * 2 ^ E.toNat * 10 ^ (-t).toNat) ≤ 2 ^ (-p).toNat * (10 ^ t.toNat * 2 ^ (-E).toNat) := by
    rw [← Nat.mul_assoc (2 ^ (-p).toNat) (2 ^ zlen m * 2 ^ E.toNat), ← e]
    rw [Nat.mul_right_comm (2 ^ p.toNat), Nat.mul_comm (10 ^ t.toNat) (2 ^ (-p).toNat), Nat.mul_assoc (2 ^ (-p).toNat) (10 ^ t.toNat)] at h1
    exact h1
  have h3 := Nat.le_of_mul_le_mul_left h2 (p2pos _)
  unfold vD vN
  refine Nat.lt_of_lt_of_le ?_ h3
  rw [Nat.mul_right_comm m, Nat.mul_assoc m, Nat.mul_assoc (2 ^ zlen m)]
  exact (Nat.mul_lt_mul_right (Nat.mul_pos (p2pos _) (p10p _))).mpr hl
