/-! pure words, without the machine -/
/-- the literals' bytes: 0, 2, 3 Infinity; 1, 4 NaN -/
def zsb (w : Nat) : List Int32 := if w = 1 ∨ w = 4 then [78, 97, 78] else [73, 110, 102, 105, 110, 105, 116, 121]
def zpow (j : Nat) : Int32 := [1, 10, 100, 1000, 10000, 100000, 1000000, 10000000, 100000000, 1000000000].getD j 0
/-- pure words for the decompiled methods -/
abbrev jushr (x y : Int32) : Int32 := (x.toUInt32 >>> (y.toUInt32 &&& Int32.toUInt32 31)).toInt32
abbrev jlushr (x : Int64) (y : Int32) : Int64 := (x.toUInt64 >>> (y.toInt64.toUInt64 &&& Int64.toUInt64 63)).toInt64
abbrev jlshl (x : Int64) (y : Int32) : Int64 := x <<< (y.toInt64 &&& 63)
abbrev jlshr (x : Int64) (y : Int32) : Int64 := x >>> (y.toInt64 &&& 63)
abbrev jshl (x y : Int32) : Int32 := x <<< (y &&& 31)
abbrev jshr (x y : Int32) : Int32 := x >>> (y &&& 31)
abbrev jrem (x y : Int32) : Int32 := x - x / y * y
abbrev jlrem (x y : Int64) : Int64 := x - x / y * y
abbrev ji2c (x : Int32) : Int32 := (x.toUInt32 % 65536).toInt32
def zif {α : Type} (c : Prop) [Decidable c] (a b : α) : α := if c then a else b
/-- a loop without a bound: the answer of the step that ends it -/
def zloop {σ ρ : Type} (step : σ → Option (σ ⊕ ρ)) : Nat → σ → Option ρ
  | 0, _ => none
  | n + 1, x => match step x with
    | none => none
    | some (.inl y) => zloop step n y
    | some (.inr r) => some r
theorem zloop_more {σ ρ : Type} {step : σ → Option (σ ⊕ ρ)} : ∀ (n : Nat) (x : σ) (r : ρ), zloop step n x = some r → ∀ k, n ≤ k → zloop step k x = some r := by
  intro n
  induction n with
  | zero => intro x r h; simp [zloop] at h
  | succ n ih =>
    intro x r h k hk
    obtain ⟨k, rfl⟩ : ∃ j, k = j + 1 := ⟨k - 1, by omega⟩
    simp only [zloop] at h ⊢
    cases hs : step x with
    | none => rw [hs] at h; cases h
    | some q =>
      rw [hs] at h
      cases q with
      | inl y => exact ih y r h k (by omega)
      | inr z => exact h
noncomputable def zrun {σ ρ : Type} (step : σ → Option (σ ⊕ ρ)) (x : σ) : Option ρ := @dite _ (∃ r, ∃ n, zloop step n x = some r) (Classical.propDecidable _) (fun h => some h.choose) (fun _ => none)
theorem zrun_of {σ ρ : Type} {step : σ → Option (σ ⊕ ρ)} {x : σ} {r : ρ} {n : Nat} (h : zloop step n x = some r) : zrun step x = some r := by
  have h1 : ∃ r, ∃ n, zloop step n x = some r := ⟨r, n, h⟩
  unfold zrun
  rw [dif_pos h1]
  obtain ⟨k, hk⟩ := h1.choose_spec
  have a1 := zloop_more n x r h (n + k) (Nat.le_add_right _ _)
  have a2 := zloop_more k x _ hk (n + k) (Nat.le_add_left _ _)
  rw [a1] at a2
  exact congrArg some (Option.some.inj a2).symm
theorem zrun_some {σ ρ : Type} {step : σ → Option (σ ⊕ ρ)} {x : σ} {r : ρ} (h : zrun step x = some r) : ∃ n, zloop step n x = some r := by
  unfold zrun at h
  by_cases h1 : ∃ r, ∃ n, zloop step n x = some r
  · rw [dif_pos h1] at h
    obtain ⟨k, hk⟩ := h1.choose_spec
    rw [Option.some.inj h] at hk
    exact ⟨k, hk⟩
  · rw [dif_neg h1] at h
    cases h
/-- what a run that ends says of its steps: by induction on them -/
theorem zrun_ind {σ ρ : Type} {step : σ → Option (σ ⊕ ρ)} {r : ρ} {P : σ → Prop} (hs : ∀ x, (∀ y, step x = some (.inl y) → P y) → (step x ≠ none) → (∀ z, step x = some (.inr z) → z = r) → P x) {x : σ} (h : zrun step x = some r) : P x := by
  obtain ⟨n, hn⟩ := zrun_some h
  clear h
  induction n generalizing x with
  | zero => simp [zloop] at hn
  | succ n ih =>
    simp only [zloop] at hn
    refine hs x (fun y hy => ih ?_) (fun h0 => ?_) (fun z hz => ?_)
    · rw [hy] at hn; exact hn
    · rw [h0] at hn; cases hn
    · rw [hz] at hn; exact Option.some.inj hn
/-- the rule for loops: an invariant, a measure that falls -/
theorem zrun_inv {σ ρ : Type} {step : σ → Option (σ ⊕ ρ)} (I : σ → Prop) (μ : σ → Nat) (Q : ρ → Prop) (hs : ∀ x, I x → (∃ y, step x = some (.inl y) ∧ I y ∧ μ y < μ x) ∨ ∃ r, step x = some (.inr r) ∧ Q r) {x : σ} (h : I x) : ∃ r, zrun step x = some r ∧ Q r := by
  have key : ∀ (n : Nat) (x : σ), I x → μ x < n → ∃ r, zloop step n x = some r ∧ Q r := by
    intro n
    induction n with
    | zero => intro x _ h; exact absurd h (Nat.not_lt_zero _)
    | succ n ih =>
      intro x hx hn
      simp only [zloop]
      rcases hs x hx with ⟨y, e, hy, hm⟩ | ⟨r, e, hr⟩
      · rw [e]; exact ih y hy (by omega)
      · rw [e]; exact ⟨r, rfl, hr⟩
  obtain ⟨r, h1, h2⟩ := key (μ x + 1) x h (Nat.lt_succ_self _)
  exact ⟨r, zrun_of h1, h2⟩
theorem zbr {α : Type} {c : Prop} [Decidable c] {a b : Option α} {r : α} (h : (if c then a else b) = some r) : (c → a = some r) ∧ (¬ c → b = some r) := ⟨fun hc => by rw [if_pos hc] at h; exact h, fun hc => by rw [if_neg hc] at h; exact h⟩
theorem zgd {α : Type} {c : Prop} [Decidable c] {a : Option α} {r : α} (h : (if c then a else none) = some r) : c ∧ a = some r := by
  by_cases hc : c
  · rw [if_pos hc] at h; exact ⟨hc, h⟩
  · rw [if_neg hc] at h; cases h
theorem zbd {α β : Type} {a : Option α} {k : α → Option β} {r : β} (h : a.bind k = some r) : ∃ x, a = some x ∧ k x = some r := Option.bind_eq_some_iff.mp h
abbrev zin (i : Int32) (n : Nat) : Prop := 0 ≤ i.toInt ∧ i.toInt < n
theorem zex {α β : Type} {a : Option β} {q : α ⊕ β} {r : β} (h : a.map Sum.inr = some q) (hz : ∀ z, q = .inr z → z = r) : a = some r := by
  obtain ⟨z, h1, h2⟩ := Option.map_eq_some_iff.mp h
  rw [h1, hz z h2.symm]
theorem zne {α : Type} {o : Option α} (h : o ≠ none) : ∃ q, o = some q := by
  cases o with
  | none => exact absurd rfl h
  | some q => exact ⟨q, rfl⟩
def zslen (w : Nat) : Int32 := nI (zsb w).length
def zsch (w : Nat) (k : Int32) : Int32 := ji2c ((zsb w).getD k.toNatClampNeg 0 &&& 255)
theorem zsb_len (w : Nat) : (zsb w).length < 2 ^ 31 := by unfold zsb; split <;> decide
