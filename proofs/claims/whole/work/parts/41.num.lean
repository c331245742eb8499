/-! numbers in places -/
def zv (B : Nat) (f : Nat → Nat) : Nat → Nat
  | 0 => 0
  | n + 1 => zv B f n + f n * B ^ n
theorem zv_congr {B : Nat} {f g : Nat → Nat} : ∀ {n : Nat}, (∀ i, i < n → f i = g i) → zv B f n = zv B g n
  | 0, _ => rfl
  | n + 1, h => by
    show zv B f n + f n * B ^ n = zv B g n + g n * B ^ n
    rw [zv_congr (n := n) (fun i hi => h i (by omega)), h n (by omega)]
theorem zv_lt {B : Nat} (hB : 0 < B) {f : Nat → Nat} : ∀ {n : Nat}, (∀ i, i < n → f i < B) → zv B f n < B ^ n
  | 0, _ => by simp [zv]
  | n + 1, h => by
    have h1 := zv_lt hB (n := n) (f := f) (fun i hi => h i (by omega))
    have h2 := h n (by omega)
    show zv B f n + f n * B ^ n < B ^ (n + 1)
    have h3 : (f n + 1) * B ^ n ≤ B * B ^ n := Nat.mul_le_mul_right _ h2
    rw [Nat.pow_succ, Nat.mul_comm (B ^ n) B]
    rw [Nat.add_mul, Nat.one_mul] at h3
    omega
theorem zv_split {B : Nat} {f : Nat → Nat} (n : Nat) : ∀ m : Nat, zv B f (n + m) = zv B f n + B ^ n * zv B (fun i => f (n + i)) m
  | 0 => by simp [zv]
  | m + 1 => by
    have h := zv_split (B := B) (f := f) n m
    show zv B f (n + m) + f (n + m) * B ^ (n + m) = zv B f n + B ^ n * (zv B (fun i => f (n + i)) m + f (n + m) * B ^ m)
    rw [h, Nat.mul_add, Nat.pow_add, Nat.mul_left_comm (f (n + m)) (B ^ n) (B ^ m), Nat.add_assoc]
theorem zv_zero {B : Nat} {f : Nat → Nat} : ∀ {n : Nat}, (∀ i, i < n → f i = 0) → zv B f n = 0
  | 0, _ => rfl
  | n + 1, h => by
    show zv B f n + f n * B ^ n = 0
    rw [zv_zero (n := n) (fun i hi => h i (by omega)), h n (by omega)]
    simp
theorem zv_of_zero {B : Nat} (hB : 0 < B) {f : Nat → Nat} : ∀ {n : Nat}, zv B f n = 0 → ∀ i, i < n → f i = 0
  | 0, _, i, hi => absurd hi (Nat.not_lt_zero _)
  | n + 1, h, i, hi => by
    have h' : zv B f n + f n * B ^ n = 0 := h
    have h1 : zv B f n = 0 := by omega
    have h2 : f n * B ^ n = 0 := by omega
    rcases Nat.lt_or_ge i n with q | q
    · exact zv_of_zero hB h1 i q
    · have : i = n := by omega
      subst this
      rcases Nat.mul_eq_zero.mp h2 with z | z
      · exact z
      · exact absurd z (Nat.ne_of_gt (Nat.pow_pos hB))
theorem zv_div {B : Nat} (hB : 0 < B) {f : Nat → Nat} {n k : Nat} (hk : k ≤ n) (h : ∀ i, i < n → f i < B) : zv B f n / B ^ k = zv B (fun i => f (k + i)) (n - k) := by
  have h1 := zv_split (B := B) (f := f) k (n - k)
  rw [show k + (n - k) = n by omega] at h1
  rw [h1, Nat.add_mul_div_left _ _ (Nat.pow_pos hB), Nat.div_eq_of_lt (zv_lt hB fun i hi => h i (by omega)), Nat.zero_add]
theorem zv_mod {B : Nat} (hB : 0 < B) {f : Nat → Nat} {n k : Nat} (hk : k ≤ n) (h : ∀ i, i < n → f i < B) : zv B f n % B ^ k = zv B f k := by
  have h1 := zv_split (B := B) (f := f) k (n - k)
  rw [show k + (n - k) = n by omega] at h1
  rw [h1, Nat.add_mul_mod_self_left, Nat.mod_eq_of_lt (zv_lt hB fun i hi => h i (by omega))]
theorem zv_dig {B : Nat} (hB : 0 < B) {f : Nat → Nat} {n k : Nat} (hk : k < n) (h : ∀ i, i < n → f i < B) : zv B f n / B ^ k % B = f k := by
  rw [zv_div hB (Nat.le_of_lt hk) h]
  have h1 := zv_mod hB (f := fun i => f (k + i)) (n := n - k) (k := 1) (by omega) (fun i hi => h (k + i) (by omega))
  rw [Nat.pow_one] at h1
  rw [h1]
  simp [zv]
/-- the first difference from above decides -/
theorem zv_cmp {B : Nat} (hB : 0 < B) {f g : Nat → Nat} {n k : Nat} (hk : k < n) (hf : ∀ i, i < n → f i < B) (hg : ∀ i, i < n → g i < B) (he : ∀ i, k < i → i < n → f i = g i) (h : f k < g k) : zv B f n < zv B g n := by
  have e1 := zv_split (B := B) (f := f) (k + 1) (n - (k + 1))
  have e2 := zv_split (B := B) (f := g) (k + 1) (n - (k + 1))
  rw [show k + 1 + (n - (k + 1)) = n by omega] at e1 e2
  have e3 : zv B (fun i => f (k + 1 + i)) (n - (k + 1)) = zv B (fun i => g (k + 1 + i)) (n - (k + 1)) := zv_congr fun i hi => he _ (by omega) (by omega)
  rw [e1, e2, e3]
  have l1 := zv_lt hB (f := f) (n := k) (fun i hi => hf i (by omega))
  have e4 : zv B f (k + 1) = zv B f k + f k * B ^ k := rfl
  have e5 : zv B g (k + 1) = zv B g k + g k * B ^ k := rfl
  have l2 : (f k + 1) * B ^ k ≤ g k * B ^ k := Nat.mul_le_mul_right _ h
  rw [Nat.add_mul, Nat.one_mul] at l2
  omega
/-! the reference's rows: six rows of 104 words of 24 bits -/
def mw (r : Nat → Int32) (a k : Nat) : Nat := (r (104 * a + k)).toInt.toNat
def mOK (r : Nat → Int32) : Prop := ∀ i, i < 624 → 0 ≤ (r i).toInt ∧ (r i).toInt < 16777216
def mV (r : Nat → Int32) (a : Nat) : Nat := zv 16777216 (mw r a) 104
def mTop : Nat := 16777216 ^ 104
theorem mw_i {r : Nat → Int32} (h : mOK r) {a k : Nat} (ha : a < 6) (hk : k < 104) : (r (104 * a + k)).toInt = (mw r a k : Int) := by
  have := h (104 * a + k) (by omega)
  unfold mw
  omega
theorem mw_lt {r : Nat → Int32} (h : mOK r) {a k : Nat} (ha : a < 6) (hk : k < 104) : mw r a k < 16777216 := by
  have h1 := h (104 * a + k) (by omega)
  have h2 := mw_i h ha hk
  omega
theorem mV_lt {r : Nat → Int32} (h : mOK r) {a : Nat} (ha : a < 6) : mV r a < mTop := zv_lt (by decide) fun i hi => mw_lt h ha hi
theorem mV_same {r r' : Nat → Int32} {a : Nat} (h : ∀ k, k < 104 → r' (104 * a + k) = r (104 * a + k)) : mV r' a = mV r a := zv_congr fun i hi => by unfold mw; rw [h i hi]
theorem mOK_upd {r : Nat → Int32} (h : mOK r) {i : Nat} {v : Int32} (h0 : 0 ≤ v.toInt) (h1 : v.toInt < 16777216) : mOK (upd r i v) := by
  intro j hj
  by_cases e : j = i
  · rw [e, pk_us]; exact ⟨h0, h1⟩
  · rw [pk_un e]; exact h j hj
/-- the place of a word -/
theorem mIx {x1 x6 : Int32} {a k : Nat} (h1 : x1.toInt = a) (h6 : x6.toInt = k) (ha : a < 6) (hk : k < 104) : ((104 * x1) + x6).toInt = ((104 * a + k : Nat) : Int) := by
  have e1 : ((104 : Int32) * x1).toInt = 104 * (a : Int) := by
    have e0 : (104 : Int32).toInt = 104 := rfl
    rw [i_mul, e0, h1] <;> rw [e0, h1] <;> omega
  rw [i_add, e1, h6] <;> (try rw [e1, h6]) <;> omega
theorem mIn {x1 x6 : Int32} {a k : Nat} (h1 : x1.toInt = a) (h6 : x6.toInt = k) (ha : a < 6) (hk : k < 104) : zin ((104 * x1) + x6) 624 := by
  have := mIx h1 h6 ha hk
  unfold zin
  omega
theorem mCl {x1 x6 : Int32} {a k : Nat} (h1 : x1.toInt = a) (h6 : x6.toInt = k) (ha : a < 6) (hk : k < 104) : ((104 * x1) + x6).toNatClampNeg = 104 * a + k := by
  rw [i_cl, mIx h1 h6 ha hk]
  exact Int.toNat_natCast _
/-- the loops' counting: x + 1 -/
theorem i_suc {x : Int32} {k : Nat} (h : x.toInt = k) (hk : k < 2147483647) : (x + 1).toInt = ((k + 1 : Nat) : Int) := by
  have e0 : (1 : Int32).toInt = 1 := rfl
  rw [i_add, e0, h] <;> (try rw [e0, h]) <;> omega
theorem M_times (c1 c2 c3 c4 c5 : Int32) {r : Nat → Int32} (hr : mOK r) {a m p : Nat} {x1 x2 x3 : Int32} (ha : a < 6) (hx1 : x1.toInt = a) (hx2 : x2.toInt = m) (hx3 : x3.toInt = p) :
    ∃ r', f_M_times c1 c2 c3 c4 c5 r x1 x2 x3 = some r' ∧ mOK r' ∧ mV r' a = (mV r a * m + p) % mTop ∧ ∀ i, (i < 104 * a ∨ 104 * a + 104 ≤ i) → r' i = r i := by
  have hm := i_rng x2
  have hp := i_rng x3
  have e104 : (104 : Int32).toInt = 104 := rfl
  unfold f_M_times f_M_times_7
  refine zrun_inv (fun z => ∃ k c : Nat, k ≤ 104 ∧ z.2.2.toInt = (k : Int) ∧ z.2.1.toInt = (c : Int) ∧ c < 4294967296 ∧ mOK z.1 ∧ (∀ i, (i < 104 * a ∨ 104 * a + k ≤ i) → z.1 i = r i) ∧ zv 16777216 (mw z.1 a) k + c * 16777216 ^ k = zv 16777216 (mw r a) k * m + p) (fun z => (104 - z.2.2.toInt).toNat)
    (fun r' => mOK r' ∧ mV r' a = (mV r a * m + p) % mTop ∧ ∀ i, (i < 104 * a ∨ 104 * a + 104 ≤ i) → r' i = r i) ?_ ⟨0, p, by omega, rfl, by rw [i2l, hx3], by omega, hr, fun i _ => rfl, by simp [zv]⟩
  rintro ⟨q, cy, x6⟩ ⟨k, c, hk, h6, hc, hc2, hq, hsame, hval⟩
  dsimp only at h6 hc hq hsame hval
  unfold f_M_times_7_step f_M_times_7_body
  dsimp only
  by_cases hk2 : k = 104
  · subst hk2
    refine Or.inr ⟨q, ?_, hq, ?_, hsame⟩
    · rw [if_pos (by rw [i_le, e104, h6]; omega)]; rfl
    · have hlt := mV_lt hq ha
      unfold mV at *
      rw [← hval]
      unfold mTop at *
      rw [Nat.add_mul_mod_self_right, Nat.mod_eq_of_lt hlt]
  · have hk3 : k < 104 := by omega
    have hin := mIn hx1 h6 ha hk3
    have hcl := mCl hx1 h6 ha hk3
    have hw := mw_i hq ha hk3
    have hwl := mw_lt hq ha hk3
    have hwm : mw q a k * m ≤ 16777215 * 2147483647 := Nat.mul_le_mul (by omega) (by omega)
    have hv0 : ((q (104 * a + k)).toInt64 * x2.toInt64).toInt = ((mw q a k * m : Nat) : Int) := by
      rw [l_mul, i2l, i2l, hw, hx2] <;> (try rw [i2l, i2l, hw, hx2]) <;> (try rw [← Int.natCast_mul]) <;> omega
    have hv : ((q (104 * a + k)).toInt64 * x2.toInt64 + cy).toInt = ((mw q a k * m + c : Nat) : Int) := by
      rw [l_add, hv0, hc] <;> (try rw [hv0, hc]) <;> omega
    have hlow : (((q (104 * a + k)).toInt64 * x2.toInt64 + cy) &&& 16777215).toInt = (((mw q a k * m + c) % 16777216 : Nat) : Int) := by
      rw [l_and 24 (by decide) rfl, hv]; exact (Int.natCast_emod _ _).symm
    have hlow2 : ((((q (104 * a + k)).toInt64 * x2.toInt64 + cy) &&& 16777215).toInt32).toInt = (((mw q a k * m + c) % 16777216 : Nat) : Int) := by
      rw [l2i, hlow] <;> rw [hlow] <;> omega
    have hhi : (jlshr ((q (104 * a + k)).toInt64 * x2.toInt64 + cy) 24).toInt = (((mw q a k * m + c) / 16777216 : Nat) : Int) := by
      rw [l_shr (n := 24) rfl (by decide), hv]; exact (Int.natCast_ediv _ _).symm
    have h7 := i_suc h6 (by omega)
    rw [if_neg (by rw [i_le, e104, h6]; omega), if_pos hin, if_pos hin, hcl]
    refine Or.inl ⟨_, rfl, ⟨k + 1, (mw q a k * m + c) / 16777216, by omega, h7, hhi, by omega, ?_, ?_, ?_⟩, ?_⟩
    · exact mOK_upd hq (by rw [hlow2]; omega) (by rw [hlow2]; omega)
    · intro i hi
      show upd q _ _ i = r i
      rw [pk_un (by omega)]
      exact hsame i (by omega)
    · have hw1 : mw (upd q (104 * a + k) ((((q (104 * a + k)).toInt64 * x2.toInt64 + cy) &&& 16777215).toInt32)) a k = (mw q a k * m + c) % 16777216 := by
        unfold mw
        rw [pk_us]
        have := hlow2
        unfold mw at this
        omega
      have hw2 : zv 16777216 (mw (upd q (104 * a + k) ((((q (104 * a + k)).toInt64 * x2.toInt64 + cy) &&& 16777215).toInt32)) a) k = zv 16777216 (mw q a) k := zv_congr fun i hi => by
        unfold mw
        rw [pk_un (by omega)]
      have hw3 : mw q a k = mw r a k := by unfold mw; rw [hsame _ (by omega)]
      show zv _ _ k + _ * 16777216 ^ k + _ * 16777216 ^ (k + 1) = (zv _ _ k + mw r a k * 16777216 ^ k) * m + p
      rw [hw1, hw2, ← hw3, Nat.add_mul, Nat.pow_succ]
      have hdm := Nat.div_add_mod (mw q a k * m + c) 16777216
      have e9 : (mw q a k * m + c) % 16777216 * 16777216 ^ k + (mw q a k * m + c) / 16777216 * (16777216 ^ k * 16777216) = (mw q a k * m + c) * 16777216 ^ k := by
        rw [Nat.mul_comm (16777216 ^ k) 16777216, ← Nat.mul_assoc, ← Nat.add_mul]
        congr 1
        omega
      rw [Nat.add_assoc, e9, Nat.add_mul]
      have e10 : mw q a k * 16777216 ^ k * m = mw q a k * m * 16777216 ^ k := by rw [Nat.mul_assoc, Nat.mul_comm (16777216 ^ k) m, Nat.mul_assoc]
      rw [e10]
      omega
    · dsimp only
      rw [h7, h6]
      omega
