theorem zv_one {B : Nat} {f g : Nat → Nat} {k : Nat} (h : ∀ i, i ≠ k → g i = f i) : ∀ {n : Nat}, k < n → zv B g n + f k * B ^ k = zv B f n + g k * B ^ k
  | 0, hk => absurd hk (Nat.not_lt_zero _)
  | n + 1, hk => by
    show zv B g n + g n * B ^ n + f k * B ^ k = zv B f n + f n * B ^ n + g k * B ^ k
    rcases Nat.lt_or_ge k n with q | q
    · have ih := zv_one (B := B) h (n := n) q
      rw [h n (by omega)]
      omega
    · have e : k = n := by omega
      subst e
      rw [zv_congr (f := g) (g := f) (n := k) (fun i hi => h i (by omega))]
      omega
theorem clr_nat {w j : Nat} (hw : w < 2 ^ 24) (hj : j < 24) : w &&& (2 ^ j ^^^ (2 ^ 32 - 1)) = 2 ^ (j + 1) * (w / 2 ^ (j + 1)) + w % 2 ^ j := by
  apply Nat.eq_of_testBit_eq
  intro i
  have hr : w % 2 ^ j < 2 ^ (j + 1) := Nat.lt_of_lt_of_le (Nat.mod_lt _ (p2pos j)) (p2le (by omega))
  rw [Nat.testBit_and, Nat.testBit_xor, Nat.testBit_two_pow, Nat.testBit_two_pow_sub_one, Nat.testBit_two_pow_mul_add _ hr, Nat.testBit_mod_two_pow, Nat.testBit_div_two_pow]
  by_cases c1 : i < j
  · rw [if_pos (by omega)]
    have d1 : decide (j = i) = false := decide_eq_false (by omega)
    have d2 : decide (i < 32) = true := decide_eq_true (by omega)
    have d3 : decide (i < j) = true := decide_eq_true c1
    rw [d1, d2, d3]
    simp
  · by_cases c2 : i = j
    · subst c2
      rw [if_pos (by omega)]
      have d2 : decide (i < 32) = true := decide_eq_true (by omega)
      have d3 : decide (i < i) = false := decide_eq_false (by omega)
      have d1 : decide (i = i) = true := decide_eq_true rfl
      rw [d1, d2, d3]
      simp
    · rw [if_neg (by omega), show i - (j + 1) + (j + 1) = i by omega]
      have d1 : decide (j = i) = false := decide_eq_false (by omega)
      rw [d1]
      by_cases c3 : i < 32
      · have d2 : decide (i < 32) = true := decide_eq_true c3
        rw [d2]
        simp
      · have hwi : w.testBit i = false := Nat.testBit_lt_two_pow (Nat.lt_of_lt_of_le hw (p2le (by omega)))
        rw [hwi]
        simp
theorem clr_sum (w j : Nat) : 2 ^ (j + 1) * (w / 2 ^ (j + 1)) + w % 2 ^ j + w / 2 ^ j % 2 * 2 ^ j = w := by
  have h1 := Nat.div_add_mod w (2 ^ j)
  have h2 := Nat.div_add_mod (w / 2 ^ j) 2
  rw [Nat.div_div_eq_div_mul, ← Nat.pow_succ] at h2
  have e : 2 ^ (j + 1) * (w / 2 ^ (j + 1)) = 2 ^ j * (2 * (w / 2 ^ (j + 1))) := by rw [Nat.pow_succ, Nat.mul_assoc]
  have e2 : 2 ^ j * (w / 2 ^ j) = 2 ^ j * (2 * (w / 2 ^ (j + 1))) + w / 2 ^ j % 2 * 2 ^ j := by
    rw [Nat.mul_comm (w / 2 ^ j % 2), ← Nat.mul_add, h2]
  omega
theorem i_clr {x s : Int32} {w j : Nat} (hx : x.toInt = w) (hw : w < 16777216) (hs : s.toInt = j) (hj : j < 24) : (x &&& ((jshl 1 s) ^^^ (-1))).toInt = ((2 ^ (j + 1) * (w / 2 ^ (j + 1)) + w % 2 ^ j : Nat) : Int) := by
  have hn : x.toBitVec.toNat = w := by
    have := i_bv x
    rw [hx] at this
    omega
  have hm : (jshl 1 s).toBitVec.toNat = 2 ^ j := by
    rw [i_shlN 1 hs (by omega)]
    show 1 * 2 ^ j % 4294967296 = 2 ^ j
    rw [Nat.one_mul]
    exact Nat.mod_eq_of_lt (Nat.lt_of_lt_of_le (p2lt hj) (by decide))
  have h1 : (x &&& ((jshl 1 s) ^^^ (-1))).toBitVec.toNat = 2 ^ (j + 1) * (w / 2 ^ (j + 1)) + w % 2 ^ j := by
    rw [Int32.toBitVec_and, BitVec.toNat_and, Int32.toBitVec_xor, BitVec.toNat_xor, hn, hm]
    exact clr_nat hw hj
  refine i_ofN h1 ?_
  have := clr_sum w j
  omega
theorem M_clear (c1 c2 c3 c4 c5 : Int32) {r : Nat → Int32} (hr : mOK r) {a k : Nat} {x1 x2 : Int32} (ha : a < 6) (hx1 : x1.toInt = a) (hx2 : x2.toInt = k) (hk : k < 2400) :
    ∃ r' v, f_M_clear c1 c2 c3 c4 c5 r x1 x2 = some r' ∧ mR r r' a v ∧ v + mV r a / 2 ^ k % 2 * 2 ^ k = mV r a := by
  have e24 : (24 : Int32).toInt = 24 := rfl
  have e104 : (104 : Int32).toInt = 104 := rfl
  have hd : (x2 / 24).toInt = ((k / 24 : Nat) : Int) := by
    rw [i_div (by omega) (by decide), hx2, e24]; exact (Int.natCast_ediv _ _).symm
  have hm : (jrem x2 24).toInt = ((k % 24 : Nat) : Int) := by
    rw [i_rem (by omega) (by decide), hx2, e24]; exact (Int.natCast_emod _ _).symm
  unfold f_M_clear
  have h : k / 24 < 104 := by omega
  have wa := mw_i hr ha h
  have wl := mw_lt hr ha h
  rw [if_neg (show ¬ 104 ≤ x2 / 24 by rw [i_le, hd, e104]; omega), if_pos (mIn hx1 hd ha h), if_pos (mIn hx1 hd ha h), mCl hx1 hd ha h]
  have hc := i_clr wa wl hm (by omega)
  have hsum := clr_sum (mw r a (k / 24)) (k % 24)
  have hb : mV r a / 2 ^ k % 2 = mw r a (k / 24) / 2 ^ (k % 24) % 2 := by
    have e2 : 2 ^ k = 16777216 ^ (k / 24) * 2 ^ (k % 24) := by
      rw [show (16777216 : Nat) = 2 ^ 24 from rfl, ← Nat.pow_mul, ← Nat.pow_add]
      congr 1
      omega
    have e3 := zv_dig (B := 16777216) (by decide) (f := mw r a) h (fun i hi => mw_lt hr ha hi)
    unfold mV
    rw [e2, ← Nat.div_div_eq_div_mul, ← e3]
    generalize zv 16777216 (mw r a) 104 / 16777216 ^ (k / 24) = y
    have e4 : (16777216 : Nat) = 2 ^ (k % 24) * 2 ^ (24 - k % 24) := by
      rw [← Nat.pow_add, show k % 24 + (24 - k % 24) = 24 by omega]
    rw [e4, Nat.mod_mul_right_div_self]
    have e5 : 2 ∣ 2 ^ (24 - k % 24) := ⟨2 ^ (24 - k % 24 - 1), by rw [← Nat.pow_succ']; congr 1; omega⟩
    rw [Nat.mod_mod_of_dvd _ e5]
  generalize hN : 2 ^ (k % 24 + 1) * (mw r a (k / 24) / 2 ^ (k % 24 + 1)) + mw r a (k / 24) % 2 ^ (k % 24) = N at hc hsum
  generalize hX : (r (104 * a + k / 24) &&& (jshl 1 (jrem x2 24) ^^^ -1)) = X at hc ⊢
  have hok : mOK (upd r (104 * a + k / 24) X) := mOK_upd hr (by omega) (by omega)
  refine ⟨_, mV (upd r (104 * a + k / 24) X) a, rfl, mR_of ha hok rfl ?_, ?_⟩
  · intro i hi
    rw [pk_un (by omega)]
  · have h1 := zv_one (B := 16777216) (f := mw r a) (g := mw (upd r (104 * a + k / 24) X) a) (k := k / 24) (fun i hi => mw_un (by omega)) h
    rw [mw_us hc] at h1
    rw [hb]
    have e2 : 2 ^ k = 16777216 ^ (k / 24) * 2 ^ (k % 24) := by
      rw [show (16777216 : Nat) = 2 ^ 24 from rfl, ← Nat.pow_mul, ← Nat.pow_add]
      congr 1
      omega
    rw [e2]
    unfold mV
    have h2 : mw r a (k / 24) / 2 ^ (k % 24) % 2 * (16777216 ^ (k / 24) * 2 ^ (k % 24)) = (mw r a (k / 24) / 2 ^ (k % 24) % 2 * 2 ^ (k % 24)) * 16777216 ^ (k / 24) := by
      rw [Nat.mul_comm (16777216 ^ (k / 24)), ← Nat.mul_assoc]
    rw [h2]
    generalize mw r a (k / 24) / 2 ^ (k % 24) % 2 * 2 ^ (k % 24) = D at hsum ⊢
    have h3 : mw r a (k / 24) * 16777216 ^ (k / 24) = N * 16777216 ^ (k / 24) + D * 16777216 ^ (k / 24) := by
      rw [← Nat.add_mul, hsum]
    omega
