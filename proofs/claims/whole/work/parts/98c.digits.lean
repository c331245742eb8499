/-! decimal digits: V in c places -/
def zdt (c V i : Nat) : Nat := if i < c then V / 10 ^ (c - 1 - i) % 10 else 0
/-- digits in a row of so much room -/
def eR (cap : Nat) (cn : Int32) (dg : Nat → Int32) (c V : Nat) : Prop := cn.toInt = (c : Int) ∧ c ≤ cap ∧ V < 10 ^ c ∧ ∀ i, i < c → (dg i).toInt = (zdt c V i : Int)
theorem zdt_9 (c V i : Nat) : zdt c V i < 10 := by
  unfold zdt
  split
  · exact Nat.mod_lt _ (by decide)
  · decide
theorem zdt_lt {c V i : Nat} (h : i < c) : zdt c V i = V / 10 ^ (c - 1 - i) % 10 := by
  unfold zdt
  rw [if_pos h]
theorem zdt_ge {c V i : Nat} (h : c ≤ i) : zdt c V i = 0 := by
  unfold zdt
  rw [if_neg (by omega)]
theorem eR_0 (cap : Nat) (dg : Nat → Int32) : eR cap 0 dg 0 0 := ⟨rfl, Nat.zero_le _, by decide, fun i hi => absurd hi (Nat.not_lt_zero _)⟩
theorem E_digitAt {cn pt : Int32} {dg : Nat → Int32} {c V : Nat} (h : eR 48 cn dg c V) {x : Int32} {i : Nat} (hx : x.toInt = i) : ∃ d, f_E_digitAt cn pt dg x = some d ∧ d.toInt = (zdt c V i : Int) := by
  obtain ⟨h1, h2, h3, h4⟩ := h
  have e0 : (0 : Int32).toInt = 0 := rfl
  unfold f_E_digitAt
  rw [if_neg (show ¬ x < 0 by rw [i_lt, hx, e0]; omega)]
  by_cases ci : i < c
  · rw [if_neg (show ¬ cn ≤ x by rw [i_le, h1, hx]; omega), if_pos (show zin x 48 from ⟨by omega, by omega⟩), i_cl, hx, Int.toNat_natCast]
    exact ⟨_, rfl, h4 i ci⟩
  · rw [if_pos (show cn ≤ x by rw [i_le, h1, hx]; omega)]
    exact ⟨_, rfl, by rw [zdt_ge (by omega)]; rfl⟩
theorem E_digitNeg {cn pt : Int32} {dg : Nat → Int32} {x : Int32} (hx : x.toInt < 0) : f_E_digitAt cn pt dg x = some 0 := by
  have e0 : (0 : Int32).toInt = 0 := rfl
  unfold f_E_digitAt
  rw [if_pos (show x < 0 by rw [i_lt, e0]; exact hx)]
theorem zdt_app {c V d i : Nat} (hd : d < 10) (hi : i < c) : zdt (c + 1) (10 * V + d) i = zdt c V i := by
  rw [zdt_lt (by omega), zdt_lt hi, show c + 1 - 1 - i = (c - 1 - i) + 1 by omega, Nat.pow_succ, Nat.mul_comm (10 ^ (c - 1 - i)) 10, ← Nat.div_div_eq_div_mul, show (10 * V + d) / 10 = V by omega]
theorem zdt_last {c V d : Nat} (hd : d < 10) : zdt (c + 1) (10 * V + d) c = d := by
  rw [zdt_lt (by omega), show c + 1 - 1 - c = 0 by omega, Nat.pow_zero, Nat.div_one]
  omega
theorem E_append {cn pt : Int32} {dg : Nat → Int32} {c V : Nat} (h : eR 48 cn dg c V) (hc : c < 48) {x : Int32} {d : Nat} (hx : x.toInt = d) (hd : d < 10) : ∃ cn' dg', f_E_append cn pt dg x = some (cn', dg') ∧ eR 48 cn' dg' (c + 1) (10 * V + d) := by
  obtain ⟨h1, h2, h3, h4⟩ := h
  have e48 : (48 : Int32).toInt = 48 := rfl
  unfold f_E_append
  rw [if_neg (show ¬ (48 : Int32) ≤ cn by rw [i_le, h1, e48]; omega), if_pos (show zin cn 48 from ⟨by omega, by omega⟩), i_cl, h1, Int.toNat_natCast]
  refine ⟨_, _, rfl, i_suc h1 (by omega), by omega, ?_, fun i hi => ?_⟩
  · rw [Nat.pow_succ]
    generalize 10 ^ c = P at h3 ⊢
    omega
  · by_cases ci : i = c
    · subst ci
      rw [pk_us, zdt_last hd, hx]
    · rw [pk_un ci, zdt_app hd (by omega)]
      exact h4 i (by omega)
/-- counted up at a place k from behind: nines to zeros, then one more -/
theorem zdt_up {c V k : Nat} (hk : k < c) (hV : V < 10 ^ c) (h9 : V % 10 ^ k = 10 ^ k - 1) (hn : zdt c V (c - 1 - k) ≠ 9) : V + 1 < 10 ^ c ∧ ∀ i, i < c → zdt c (V + 1) i = if i = c - 1 - k then zdt c V i + 1 else if c - 1 - k < i then 0 else zdt c V i := by
  have hp := p10p k
  have e0 : c - 1 - (c - 1 - k) = k := by omega
  rw [zdt_lt (by omega), e0] at hn
  have hdm := Nat.div_add_mod V (10 ^ k)
  rw [h9] at hdm
  -- V + 1 = 10^k * (V / 10^k + 1)
  have hV1 : V + 1 = 10 ^ k * (V / 10 ^ k + 1) := by
    rw [Nat.mul_add, Nat.mul_one]
    omega
  have hq : (V + 1) / 10 ^ k = V / 10 ^ k + 1 := by rw [hV1, Nat.mul_div_cancel_left _ hp]
  have hle : V + 1 ≤ 10 ^ c := hV
  constructor
  · rcases Nat.lt_or_eq_of_le hle with q | q
    · exact q
    · exfalso
      have e1 : V / 10 ^ k + 1 = 10 ^ (c - k) := by
        rw [← hq, q]
        have : 10 ^ c = 10 ^ (c - k) * 10 ^ k := by rw [← Nat.pow_add, show c - k + k = c by omega]
        rw [this, Nat.mul_div_cancel _ hp]
      have e2 : 10 ^ (c - k) = 10 * 10 ^ (c - k - 1) := by rw [← Nat.pow_succ', show (c - k - 1).succ = c - k by omega]
      rw [e2] at e1
      apply hn
      generalize V / 10 ^ k = y at e1
      generalize 10 ^ (c - k - 1) = z at e1
      have := hq
      omega
  · intro i hi
    rw [zdt_lt hi, zdt_lt hi]
    by_cases c1 : i = c - 1 - k
    · rw [if_pos c1, c1, e0, hq]
      generalize V / 10 ^ k = y at hn ⊢
      omega
    · rw [if_neg c1]
      by_cases c2 : c - 1 - k < i
      · rw [if_pos c2]
        obtain ⟨j, hj⟩ : ∃ j, k = (c - 1 - i) + 1 + j := ⟨k - (c - 1 - i) - 1, by omega⟩
        rw [hV1]
        generalize V / 10 ^ k + 1 = y
        rw [hj, Nat.pow_add, Nat.pow_succ, Nat.mul_assoc, Nat.mul_assoc, Nat.mul_div_cancel_left _ (p10p _), Nat.mul_mod_right]
      · rw [if_neg c2]
        obtain ⟨j, hj⟩ : ∃ j, c - 1 - i = k + 1 + j := ⟨c - 1 - i - k - 1, by omega⟩
        rw [hj, Nat.pow_add, Nat.pow_succ, ← Nat.div_div_eq_div_mul, ← Nat.div_div_eq_div_mul, ← Nat.div_div_eq_div_mul, ← Nat.div_div_eq_div_mul, hq]
        have : (V / 10 ^ k + 1) / 10 = V / 10 ^ k / 10 := by
          generalize V / 10 ^ k = y at hn
          omega
        rw [this]
theorem E_up35 {cn pt : Int32} {dg dg0 : Nat → Int32} {c V k : Nat} {P : Int} (hcn : cn.toInt = c) (hc : c < 48) (hV : V < 10 ^ c) (hpt : pt.toInt = P) (hP1 : -100000 < P) (hP2 : P < 100000) {x : Int32} (hx : x.toInt = (c : Int) - 1 - k) (hk : k ≤ c) (h9 : V % 10 ^ k = 10 ^ k - 1) (hn : k < c → zdt c V (c - 1 - k) ≠ 9) (hd0 : ∀ i, i < c → (dg0 i).toInt = (zdt c V i : Int)) (hd : ∀ i, i < c → dg i = if c - 1 < i + k then 0 else dg0 i) :
    ∃ cn' pt' dg', f_E_countUp_35 cn pt dg x = some (cn', pt', dg') ∧ eR 48 cn' dg' (if V + 1 = 10 ^ c then c + 1 else c) (V + 1) ∧ pt'.toInt = (if V + 1 = 10 ^ c then P + 1 else P) := by
  have e0 : (0 : Int32).toInt = 0 := rfl
  have e1 : (1 : Int32).toInt = 1 := rfl
  have e48 : (48 : Int32).toInt = 48 := rfl
  unfold f_E_countUp_35
  by_cases ck : k < c
  · rw [if_neg (show ¬ x < 0 by rw [i_lt, hx, e0]; omega)]
    obtain ⟨u1, u2⟩ := zdt_up ck hV h9 (hn ck)
    have hxi : x.toInt = ((c - 1 - k : Nat) : Int) := by rw [hx]; omega
    have hz : zin x 48 := ⟨by omega, by omega⟩
    rw [if_pos hz, if_pos hz, i_cl, hxi, Int.toNat_natCast, if_neg (show ¬ V + 1 = 10 ^ c by omega), if_neg (show ¬ V + 1 = 10 ^ c by omega)]
    refine ⟨_, _, _, rfl, ⟨hcn, by omega, u1, fun i hi => ?_⟩, hpt⟩
    rw [u2 i hi]
    have h9' := zdt_9 c V (c - 1 - k)
    have hdk := hd (c - 1 - k) (by omega)
    rw [if_neg (by omega)] at hdk
    have hdv := hd0 (c - 1 - k) (by omega)
    by_cases ci : i = c - 1 - k
    · subst ci
      rw [pk_us, if_pos rfl, hdk, i_add (by rw [hdv, e1]; omega) (by rw [hdv, e1]; omega), hdv, e1]
      omega
    · rw [pk_un ci, if_neg ci, hd i hi]
      by_cases c2 : c - 1 - k < i
      · rw [if_pos c2, if_pos (by omega)]
        rfl
      · rw [if_neg c2, if_neg (by omega)]
        exact hd0 i hi
  · have hkc : k = c := by omega
    subst hkc
    have hall : V + 1 = 10 ^ k := by
      rw [Nat.mod_eq_of_lt hV] at h9
      have := p10p k
      omega
    rw [if_pos (show x < 0 by rw [i_lt, hx, e0]; omega), if_pos hall, if_pos hall]
    unfold f_E_append
    rw [if_neg (show ¬ (48 : Int32) ≤ cn by rw [i_le, hcn, e48]; omega), if_pos (show zin cn 48 from ⟨by omega, by omega⟩), i_cl, hcn, Int.toNat_natCast, Option.bind_some]
    dsimp only
    rw [if_pos (show zin 0 48 from ⟨by decide, by decide⟩)]
    refine ⟨_, _, _, rfl, ⟨i_suc hcn (by omega), by omega, ?_, fun i hi => ?_⟩, ?_⟩
    · rw [hall, Nat.pow_succ]
      have := p10p k
      omega
    · rw [hall, zdt_lt hi, show k + 1 - 1 - i = k - i by omega]
      have e00 : (0 : Int32).toNatClampNeg = 0 := rfl
      rw [e00]
      by_cases ci : i = 0
      · subst ci
        rw [pk_us, Nat.sub_zero, Nat.div_self (p10p k)]
        rfl
      · rw [pk_un ci]
        have hdg : 10 ^ k / 10 ^ (k - i) % 10 = 0 := by
          obtain ⟨j, rfl⟩ : ∃ j, i = j + 1 := ⟨i - 1, by omega⟩
          have e : 10 ^ k = 10 ^ (k - (j + 1)) * (10 ^ j * 10) := by rw [← Nat.pow_succ, ← Nat.pow_add, show k - (j + 1) + j.succ = k by omega]
          rw [e, Nat.mul_div_cancel_left _ (p10p _), Nat.mul_mod_left]
        rw [hdg]
        by_cases ck2 : i = k
        · subst ck2
          rw [pk_us]
          rfl
        · rw [pk_un ck2, hd i (by omega), if_pos (by omega)]
          rfl
    · rw [i_add (by rw [hpt, e1]; omega) (by rw [hpt, e1]; omega), hpt, e1]
theorem nine_step {P : Nat} (h : 0 < P) : P - 1 + P * 9 = P * 10 - 1 := by omega
theorem E_countUp {cn pt : Int32} {dg : Nat → Int32} {c V : Nat} {P : Int} (h : eR 48 cn dg c V) (hc : c < 48) (hpt : pt.toInt = P) (hP1 : -100000 < P) (hP2 : P < 100000) : ∃ cn' pt' dg', f_E_countUp cn pt dg = some (cn', pt', dg') ∧ eR 48 cn' dg' (if V + 1 = 10 ^ c then c + 1 else c) (V + 1) ∧ pt'.toInt = (if V + 1 = 10 ^ c then P + 1 else P) := by
  obtain ⟨h1, h2, h3, h4⟩ := h
  have e0 : (0 : Int32).toInt = 0 := rfl
  have e1 : (1 : Int32).toInt = 1 := rfl
  have e9 : (9 : Int32).toInt = 9 := rfl
  have hst : (cn - 1).toInt = (c : Int) - 1 - (0 : Nat) := by
    rw [i_sub (by rw [h1, e1]; omega) (by rw [h1, e1]; omega), h1, e1]
    omega
  unfold f_E_countUp f_E_countUp_7
  obtain ⟨⟨c1, p1, d1⟩, t1, t2, t3⟩ := zrun_inv (step := f_E_countUp_7_step) (x := (cn, pt, dg, cn - 1)) (fun z => z.1 = cn ∧ z.2.1 = pt ∧ ∃ k : Nat, k ≤ c ∧ z.2.2.2.toInt = (c : Int) - 1 - k ∧ V % 10 ^ k = 10 ^ k - 1 ∧ ∀ i, i < c → z.2.2.1 i = if c - 1 < i + k then 0 else dg i) (fun z => (z.2.2.2.toInt + 1).toNat) (fun y => eR 48 y.1 y.2.2 (if V + 1 = 10 ^ c then c + 1 else c) (V + 1) ∧ y.2.1.toInt = (if V + 1 = 10 ^ c then P + 1 else P)) (by
    rintro ⟨cn', pt', d, x⟩ ⟨q1, q2, k, hk, hx, h9, hd⟩
    dsimp only at q1 q2 hx hd
    subst q1 q2
    unfold f_E_countUp_7_step f_E_countUp_7_body
    dsimp only
    have fin : (k < c → zdt c V (c - 1 - k) ≠ 9) → ∃ y, f_E_countUp_35 cn' pt' d x = some y ∧ eR 48 y.1 y.2.2 (if V + 1 = 10 ^ c then c + 1 else c) (V + 1) ∧ y.2.1.toInt = (if V + 1 = 10 ^ c then P + 1 else P) := by
      intro hn
      obtain ⟨c2, p2, d2, u1, u2, u3⟩ := E_up35 h1 hc h3 hpt hP1 hP2 hx hk h9 hn h4 hd
      exact ⟨_, u1, u2, u3⟩
    by_cases ck : k = c
    · rw [if_pos (show x < 0 by rw [i_lt, hx, e0]; omega)]
      obtain ⟨y, y1, y2⟩ := fin (fun h => by omega)
      rw [y1]
      exact Or.inr ⟨y, rfl, y2⟩
    · have hkc : k < c := by omega
      have hxi : x.toInt = ((c - 1 - k : Nat) : Int) := by rw [hx]; omega
      have hz : zin x 48 := ⟨by omega, by omega⟩
      have hcl : x.toNatClampNeg = c - 1 - k := by rw [i_cl, hxi, Int.toNat_natCast]
      have hdk := hd (c - 1 - k) (by omega)
      rw [if_neg (by omega)] at hdk
      have hdv := h4 (c - 1 - k) (by omega)
      have hzn := zdt_lt (V := V) (show c - 1 - k < c by omega)
      rw [show c - 1 - (c - 1 - k) = k by omega] at hzn
      rw [if_neg (show ¬ x < 0 by rw [i_lt, hx, e0]; omega), if_pos hz, hcl]
      by_cases c9 : zdt c V (c - 1 - k) = 9
      · rw [if_pos (show d (c - 1 - k) = 9 by rw [hdk, i_eq, hdv, c9]; rfl), if_pos hz]
        have hmu : ((c : Int) - 1 - ((k + 1 : Nat) : Int) + 1).toNat < ((c : Int) - 1 - (k : Int) + 1).toNat := by omega
        have hpe : ((c - 1 - k : Nat) : Int) - 1 = (c : Int) - 1 - ((k + 1 : Nat) : Int) := by omega
        have h9' : V % 10 ^ (k + 1) = 10 ^ (k + 1) - 1 := by
          rw [Nat.mod_pow_succ, h9, ← hzn, c9, Nat.pow_succ]
          exact nine_step (p10p k)
        have hd' : ∀ i, i < c → upd d (c - 1 - k) 0 i = if c - 1 < i + (k + 1) then 0 else dg i := by
          intro i hi
          by_cases ci : i = c - 1 - k
          · subst ci
            rw [pk_us, if_pos (by omega)]
          · rw [pk_un ci, hd i hi]
            by_cases c2 : c - 1 < i + k
            · rw [if_pos c2, if_pos (by omega)]
            · rw [if_neg c2, if_neg (by omega)]
        have hm : (x + (-1)).toInt = (c : Int) - 1 - ((k + 1 : Nat) : Int) := (i_prd hxi).trans hpe
        exact Or.inl ⟨_, rfl, ⟨rfl, rfl, k + 1, hkc, hm, h9', hd'⟩, by dsimp only; rw [hm, hx]; exact hmu⟩
      · rw [if_neg (show ¬ d (c - 1 - k) = 9 by rw [hdk, i_eq, hdv, e9]; omega)]
        obtain ⟨y, y1, y2⟩ := fin (fun _ => c9)
        rw [y1]
        exact Or.inr ⟨y, rfl, y2⟩) ⟨rfl, rfl, 0, Nat.zero_le _, hst, by
          rw [Nat.pow_zero, Nat.mod_one], fun i hi => by rw [if_neg (by omega)]⟩
  exact ⟨c1, p1, d1, t1, t2, t3⟩
