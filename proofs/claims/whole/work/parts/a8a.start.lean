/-! what is read only (statics, literals, messages), as it stands at the law's entry -/
theorem zSt.moved {a v : Nat} {bs : List Int32} {A : Nat → Prop} {u U : State} {H : Heap} (hvm : u.vm.Alike U.vm) (h : zSt a v bs A u H) : zSt a v bs A U H := ⟨va_O.moved hvm h.1, va_OF.moved hvm h.2.1, va_OF.moved hvm h.2.2.1, va_T.moved hvm h.2.2.2⟩
theorem zSt.kept {a v : Nat} {bs : List Int32} {A : Nat → Prop} {U : State} {H H1 : Heap} (h : zSt a v bs A U H) (hq : ∀ a : Nat, a < H.size → ¬ A a → H1[a]? = H[a]?) : zSt a v bs A U H1 := ⟨h.1.kept hq, h.2.1.kept hq, h.2.2.1.kept hq, h.2.2.2.kept hq⟩
theorem zSt.narrow {a v : Nat} {bs : List Int32} {A B : Nat → Prop} {U : State} {H : Heap} (h : zSt a v bs A U H) (hAB : ∀ q, B q → A q) : zSt a v bs B U H := ⟨h.1.narrow hAB, h.2.1.narrow hAB, h.2.2.1.narrow hAB, h.2.2.2.narrow hAB⟩
theorem zNC.moved {u U : State} (hvm : u.vm.Alike U.vm) (h : zNC u) : zNC U := by
  obtain ⟨a, b, h1, h2, h3⟩ := h
  exact ⟨a, b, by rw [hvm.findClass]; exact h1, by rw [hvm.findClass]; exact h2, by rw [hvm.assignable]; exact h3⟩
abbrev zXa (ad av : Nat → Nat) (vf vu vs : Value) (A : Nat → Prop) (U : State) (H : Heap) : Prop := va_Z "DoubleBits$Natural" "POWERS_OF_TEN" "[I" (.ref (ad 5)) A U H ∧ va_T .int (ad 5) 10 (fun j => .int (zpow j)) A U H ∧ va_Z "java/lang/String" "COMPACT_STRINGS" "Z" (.int 1) A U H ∧ va_Z "jdk/internal/util/Preconditions" "SIOOBE_FORMATTER" "Ljava/util/function/BiFunction;" vf A U H ∧ (∀ w : Nat, w < 5 → zSt (ad w) (av w) (zsb w) A U H) ∧ zSC "java/lang/Throwable" "UNASSIGNED_STACK" "[Ljava/lang/StackTraceElement;" vu A U H ∧ zSC "java/lang/Throwable" "SUPPRESSED_SENTINEL" "Ljava/util/List;" vs A U H
abbrev zXb (ad : Nat → Nat) (U : State) : Prop := vk_R R_R 86 "Infinity" (ad 0) U ∧ vk_R R_T 47 "NaN" (ad 1) U ∧ vk_R R_T 63 "Infinity" (ad 2) U ∧ vk_R R_M 160 "Infinity" (ad 3) U ∧ vk_R R_M 191 "NaN" (ad 4) U ∧ ∀ q ∈ zmsg, ∃ a : Nat, vk_R R_D q.1 q.2 a U
def zXX (ad av : Nat → Nat) (vf vu vs : Value) : zXT := fun A U H => zXa ad av vf vu vs A U H ∧ zXb ad U ∧ zNC U
theorem zXa.moved {ad av : Nat → Nat} {vf vu vs : Value} {A : Nat → Prop} {u U : State} {H : Heap} (hvm : u.vm.Alike U.vm) (h : zXa ad av vf vu vs A u H) : zXa ad av vf vu vs A U H := by
  obtain ⟨h1, h2, h3, h4, h5, h6, h7⟩ := h
  exact ⟨va_Z.moved hvm h1, va_T.moved hvm h2, va_Z.moved hvm h3, va_Z.moved hvm h4, fun w hw => (h5 w hw).moved hvm, zSC.moved hvm h6, zSC.moved hvm h7⟩
theorem zXX_0 (ad av : Nat → Nat) (vf vu vs : Value) : zX0 (zXX ad av vf vu vs) := by
  refine ⟨?_, ?_, ?_, ?_⟩
  · intro A u U H hW h
    obtain ⟨h1, ⟨k1, k2, k3, k4, k5, k6⟩, h3⟩ := h
    refine ⟨zXa.moved hW.alike h1, ⟨k1.warm hW, k2.warm hW, k3.warm hW, k4.warm hW, k5.warm hW, fun q hq => ?_⟩, h3.moved hW.alike⟩
    obtain ⟨a, ha⟩ := k6 q hq
    exact ⟨a, ha.warm hW⟩
  · intro A u U H hv h
    obtain ⟨h1, ⟨k1, k2, k3, k4, k5, k6⟩, h3⟩ := h
    have hal : u.vm.Alike U.vm := by rw [hv]; exact Vm.Alike.refl _
    refine ⟨zXa.moved hal h1, ⟨k1.same hv, k2.same hv, k3.same hv, k4.same hv, k5.same hv, fun q hq => ?_⟩, h3.moved hal⟩
    obtain ⟨a, ha⟩ := k6 q hq
    exact ⟨a, ha.same hv⟩
  · intro A U H H1 hq h
    obtain ⟨⟨h1, h2, h3, h4, h5, h6, h7⟩, k, h8⟩ := h
    exact ⟨⟨h1.kept hq, h2.kept hq, h3.kept hq, h4.kept hq, fun w hw => (h5 w hw).kept hq, h6.kept hq, h7.kept hq⟩, k, h8⟩
  · intro A B U H hq h
    obtain ⟨⟨h1, h2, h3, h4, h5, h6, h7⟩, k, h8⟩ := h
    exact ⟨⟨h1.narrow hq, h2.narrow hq, h3.narrow hq, h4.narrow hq, fun w hw => (h5 w hw).narrow hq, h6.narrow hq, h7.narrow hq⟩, k, h8⟩
def zrv (v : Value) : Prop := v = .null ∨ ∃ a : Nat, v = .ref a
theorem zXX_1 {κ : zC} {av : Nat → Nat} {vf vu vs : Value} (hf : zrv vf) : zX κ (zXX κ.2.2.2.2 av vf vu vs) := by
  refine ⟨zXX_0 _ _ _ _ _, av, ?_⟩
  intro A U H h
  obtain ⟨⟨h1, h2, h3, h4, h5, h6, h7⟩, ⟨k1, k2, k3, k4, k5, k6⟩, h8⟩ := h
  exact ⟨h1, h2, h3, ⟨vf, hf, h4⟩, h5, k1, k2, k3, k4, k5⟩
theorem zXX_E {ad av : Nat → Nat} {vf vu vs : Value} (hu : zrv vu) (hs : zrv vs) : zXE (zXX ad av vf vu vs) := by
  intro A U H h
  obtain ⟨⟨h1, h2, h3, h4, h5, h6, h7⟩, ⟨k1, k2, k3, k4, k5, k6⟩, h8⟩ := h
  exact ⟨⟨vu, hu, h6⟩, ⟨vs, hs, h7⟩, k6, h8⟩
theorem zrefv {args : Array Value} {s : State} {t : Term} (h : (Cond.isRef t).before args s = true) : ∃ v : Value, t.eval args s none [] s = some v ∧ zrv v := by
  cases hv : t.eval args s none [] s with
  | none => simp [Cond.before, Cond.holds, Cond.value, hv] at h
  | some w =>
    simp only [Cond.before, Cond.holds, Cond.value, hv] at h
    cases w with
    | null => exact ⟨_, rfl, Or.inl rfl⟩
    | ref t => exact ⟨_, rfl, Or.inr ⟨t, rfl⟩⟩
    | _ => simp at h
theorem zStof {args : Array Value} {s : State} {tm : Term} {bs : List Int32} {A : Nat → Prop} (hN : bs.length < 2 ^ 31) (hex : (Cond.exactly tm "java/lang/String").before args s = true) (hco : (Cond.eq (.field tm "java/lang/String" "coder" "B") (.int 0)).before args s = true)
    (har : (Cond.arrayOf (.field tm "java/lang/String" "value" "[B") .byte).before args s = true) (hle : (Cond.eq (.length (.field tm "java/lang/String" "value" "[B")) (.int (Int32.ofNat bs.length))).before args s = true)
    (hel : ∀ j : Nat, j < bs.length → (Cond.eq (.elem (.field tm "java/lang/String" "value" "[B") (.int (Int32.ofNat j))) (.int (bs.getD j 0))).before args s = true) (hA : ∀ a : Nat, a < s.heap.size → ¬ A a) :
    ∃ a v : Nat, tm.eval args s none [] s = some (.ref a) ∧ zSt a v bs A s s.heap := by
  obtain ⟨a, c, cA, kA, q1, q2, q3, q4, q5, q6, -⟩ := Cond.exactly_spec (args := args) (first := s) (o := none) (s := s) (idx := []) (t := tm) (cls := "java/lang/String") hex
  obtain ⟨t, ht, hT⟩ := va_Tof (f := fun j => .int (bs.getD j 0)) (A := A) hN har (va_eqt hle) (fun j hj => va_eqt (hel j hj)) hA
  exact ⟨a, t, q1, va_Oof hex q1 hA, vk_OFof q1 (va_eqt hco) hA, vk_OFof q1 ht hA, hT⟩
theorem zsre {args : Array Value} {s : State} {own tx : String} {k : Nat} (h : (Cond.stringRef own k tx).before args s = true) : ∃ a : Nat, (Term.string own k).eval args s none [] s = some (.ref a) ∧ vk_R own k tx a s := by
  cases hc : s.vm.findClass own with
  | none => simp [Cond.before, Cond.holds, Cond.value, hc] at h
  | some cur =>
    obtain ⟨kk, cf, i, a, -, -, -, -, -, he⟩ := Cond.stringRef_spec hc h
    exact ⟨a, he, vk_R.of h he⟩
abbrev zfl : List Cond := flatC (Jvm.Cond.and given_1 narrow_1)
def zvb (own : String) (k : Nat) : Term := .field (.string own k) "java/lang/String" "value" "[B"
theorem zsw {own : String} {k : Nat} {tx : String} {bs : List Int32} {args : Array Value} {s : State} {A : Nat → Prop} (hts : ∀ w ∈ lw_tbl, w.before args s = true) (hs : ∀ w ∈ zfl, w.before args s = true) (hA : ∀ a : Nat, a < s.heap.size → ¬ A a) (hN : bs.length < 2 ^ 31) (h0 : Cond.stringRef own k tx ∈ lw_tbl) (h1 : Cond.exactly (.string own k) "java/lang/String" ∈ zfl) (h2 : Cond.eq (.field (.string own k) "java/lang/String" "coder" "B") (.int 0) ∈ zfl) (h3 : Cond.arrayOf (zvb own k) .byte ∈ zfl) (h4 : Cond.eq (.length (zvb own k)) (.int (Int32.ofNat bs.length)) ∈ zfl) (h5 : ∀ j : Nat, j < bs.length → Cond.eq (.elem (zvb own k) (.int (Int32.ofNat j))) (.int (bs.getD j 0)) ∈ zfl) :
    ∃ a v : Nat, vk_R own k tx a s ∧ zSt a v bs A s s.heap := by
  obtain ⟨a, v, he, hz⟩ := zStof (bs := bs) (A := A) hN (hs _ h1) (hs _ h2) (hs _ h3) (hs _ h4) (fun j hj => hs _ (h5 j hj)) hA
  obtain ⟨a2, he2, hk⟩ := zsre (hts _ h0)
  cases he.symm.trans he2
  exact ⟨a, v, hk, hz⟩
abbrev zin8 : List Int32 := [73, 110, 102, 105, 110, 105, 116, 121]
abbrev znan : List Int32 := [78, 97, 78]
theorem zs_0 {args : Array Value} {s : State} {A : Nat → Prop} (hts : ∀ w ∈ lw_tbl, w.before args s = true) (hs : ∀ w ∈ zfl, w.before args s = true) (hA : ∀ a : Nat, a < s.heap.size → ¬ A a) : ∃ a v : Nat, vk_R R_R 86 "Infinity" a s ∧ zSt a v zin8 A s s.heap := zsw hts hs hA (by decide) (by decide +kernel) (by decide +kernel) (by decide +kernel) (by decide +kernel) (by decide +kernel) (by decide +kernel)
theorem zs_1 {args : Array Value} {s : State} {A : Nat → Prop} (hts : ∀ w ∈ lw_tbl, w.before args s = true) (hs : ∀ w ∈ zfl, w.before args s = true) (hA : ∀ a : Nat, a < s.heap.size → ¬ A a) : ∃ a v : Nat, vk_R R_T 47 "NaN" a s ∧ zSt a v znan A s s.heap := zsw hts hs hA (by decide) (by decide +kernel) (by decide +kernel) (by decide +kernel) (by decide +kernel) (by decide +kernel) (by decide +kernel)
theorem zs_2 {args : Array Value} {s : State} {A : Nat → Prop} (hts : ∀ w ∈ lw_tbl, w.before args s = true) (hs : ∀ w ∈ zfl, w.before args s = true) (hA : ∀ a : Nat, a < s.heap.size → ¬ A a) : ∃ a v : Nat, vk_R R_T 63 "Infinity" a s ∧ zSt a v zin8 A s s.heap := zsw hts hs hA (by decide) (by decide +kernel) (by decide +kernel) (by decide +kernel) (by decide +kernel) (by decide +kernel) (by decide +kernel)
theorem zs_3 {args : Array Value} {s : State} {A : Nat → Prop} (hts : ∀ w ∈ lw_tbl, w.before args s = true) (hs : ∀ w ∈ zfl, w.before args s = true) (hA : ∀ a : Nat, a < s.heap.size → ¬ A a) : ∃ a v : Nat, vk_R R_M 160 "Infinity" a s ∧ zSt a v zin8 A s s.heap := zsw hts hs hA (by decide) (by decide +kernel) (by decide +kernel) (by decide +kernel) (by decide +kernel) (by decide +kernel) (by decide +kernel)
theorem zs_4 {args : Array Value} {s : State} {A : Nat → Prop} (hts : ∀ w ∈ lw_tbl, w.before args s = true) (hs : ∀ w ∈ zfl, w.before args s = true) (hA : ∀ a : Nat, a < s.heap.size → ¬ A a) : ∃ a v : Nat, vk_R R_M 191 "NaN" a s ∧ zSt a v znan A s s.heap := zsw hts hs hA (by decide) (by decide +kernel) (by decide +kernel) (by decide +kernel) (by decide +kernel) (by decide +kernel) (by decide +kernel)
theorem zms : ∀ q ∈ zmsg, Cond.stringRef R_D q.1 q.2 ∈ lw_tbl := by decide +kernel
abbrev zpw : Term := .static "DoubleBits$Natural" "POWERS_OF_TEN" "[I"
theorem zpw_1 : Cond.arrayOf zpw .int ∈ zfl := by decide +kernel
theorem zpw_2 : Cond.eq (.length zpw) (.int (Int32.ofNat 10)) ∈ zfl := by decide +kernel
theorem zpw_3 : ∀ j : Nat, j < 10 → Cond.eq (.elem zpw (.int (Int32.ofNat j))) (.int (zpow j)) ∈ zfl := by decide +kernel
theorem zlt_1 : Cond.laysStatic "DoubleBits$Natural" "POWERS_OF_TEN" "[I" ∈ lw_tbl := by decide +kernel
theorem zlt_2 : Cond.initialized "DoubleBits$Natural" ∈ lw_tbl := by decide +kernel
theorem zlt_3 : Cond.laysStatic "java/lang/String" "COMPACT_STRINGS" "Z" ∈ lw_tbl := by decide +kernel
theorem zlt_4 : Cond.initialized "java/lang/String" ∈ lw_tbl := by decide +kernel
theorem zlt_5 : Cond.laysStatic "jdk/internal/util/Preconditions" "SIOOBE_FORMATTER" "Ljava/util/function/BiFunction;" ∈ lw_tbl := by decide +kernel
theorem zlt_6 : Cond.initialized "jdk/internal/util/Preconditions" ∈ lw_tbl := by decide +kernel
theorem zlt_7 : Cond.laysStatic "java/lang/Throwable" "UNASSIGNED_STACK" "[Ljava/lang/StackTraceElement;" ∈ lw_tbl := by decide +kernel
theorem zlt_8 : Cond.laysStatic "java/lang/Throwable" "SUPPRESSED_SENTINEL" "Ljava/util/List;" ∈ lw_tbl := by decide +kernel
theorem zlt_9 : Cond.eq (.static "java/lang/String" "COMPACT_STRINGS" "Z") (.int 1) ∈ zfl := by decide +kernel
theorem zlt_a : Cond.isRef (.static "jdk/internal/util/Preconditions" "SIOOBE_FORMATTER" "Ljava/util/function/BiFunction;") ∈ zfl := by decide +kernel
theorem zlt_b : Cond.isRef (.static "java/lang/Throwable" "UNASSIGNED_STACK" "[Ljava/lang/StackTraceElement;") ∈ zfl := by decide +kernel
theorem zlt_c : Cond.isRef (.static "java/lang/Throwable" "SUPPRESSED_SENTINEL" "Ljava/util/List;") ∈ zfl := by decide +kernel
theorem zlt_d : Cond.not (.castable "java/lang/IllegalStateException" "java/lang/IllegalArgumentException") ∈ zfl := by decide +kernel
theorem zNCof {args : Array Value} {s : State} (h : (Cond.not (.castable "java/lang/IllegalStateException" "java/lang/IllegalArgumentException")).before args s = true) : zNC s := by
  have hv := Cond.holds_not_iff.mp h
  simp only [Cond.value] at hv
  cases h1 : s.vm.findClass "java/lang/IllegalStateException" with
  | none => simp [h1] at hv
  | some a =>
    cases h2 : s.vm.findClass "java/lang/IllegalArgumentException" with
    | none => simp [h1, h2] at hv
    | some b =>
      rw [h1, h2] at hv
      exact ⟨a, b, h1, h2, Option.some.inj hv⟩
theorem zXstart {args : Array Value} {s : State} {A : Nat → Prop} (hts : ∀ w ∈ lw_tbl, w.before args s = true) (hs : ∀ w ∈ zfl, w.before args s = true) (hA : ∀ a : Nat, a < s.heap.size → ¬ A a) : ∃ (ad av : Nat → Nat) (vf vu vs : Value), zrv vf ∧ zrv vu ∧ zrv vs ∧ zXX ad av vf vu vs A s s.heap := by
  obtain ⟨a0, v0, k0, z0⟩ := zs_0 (A := A) hts hs hA
  obtain ⟨a1, v1, k1, z1⟩ := zs_1 (A := A) hts hs hA
  obtain ⟨a2, v2, k2, z2⟩ := zs_2 (A := A) hts hs hA
  obtain ⟨a3, v3, k3, z3⟩ := zs_3 (A := A) hts hs hA
  obtain ⟨a4, v4, k4, z4⟩ := zs_4 (A := A) hts hs hA
  obtain ⟨tp, et, hT⟩ := va_Tof (tm := zpw) (ty := .int) (N := 10) (f := fun j => .int (zpow j)) (A := A) (by decide) (hs _ zpw_1) (va_eqt (hs _ zpw_2)) (fun j hj => va_eqt (hs _ (zpw_3 j hj))) hA
  obtain ⟨vf, ef, rf⟩ := zrefv (hs _ zlt_a)
  obtain ⟨vu, eu, ru⟩ := zrefv (hs _ zlt_b)
  obtain ⟨vs, es, rs⟩ := zrefv (hs _ zlt_c)
  refine ⟨fun i => [a0, a1, a2, a3, a4, tp].getD i 0, fun i => [v0, v1, v2, v3, v4].getD i 0, vf, vu, vs, rf, ru, rs, ⟨va_Zof (hts _ zlt_1) (hts _ zlt_2) et hA, hT, va_Zof (hts _ zlt_3) (hts _ zlt_4) (va_eqi (hs _ zlt_9)) hA, va_Zof (hts _ zlt_5) (hts _ zlt_6) ef hA, ?_, zSC.of (hts _ zlt_7) eu hA, zSC.of (hts _ zlt_8) es hA⟩, ⟨k0, k1, k2, k3, k4, fun q hq => ?_⟩, zNCof (hs _ zlt_d)⟩
  · intro w hw
    rcases (show w = 0 ∨ w = 1 ∨ w = 2 ∨ w = 3 ∨ w = 4 by omega) with rfl | rfl | rfl | rfl | rfl
    · exact z0
    · exact z1
    · exact z2
    · exact z3
    · exact z4
  · obtain ⟨a, -, ha⟩ := zsre (hts _ (zms q hq))
    exact ⟨a, ha⟩
theorem zarr {args : Array Value} {s : State} {ty : FieldType} (hts : ∀ w ∈ T0, w.before args s = true) (h : Cond.arrayClass ty ∈ T0) : ∃ cA : ClassId, ArrOfT s cA ty ∧ s.vm.findClass ("[" ++ ty.toString) = some cA := by
  obtain ⟨cA, kA, comp, h1, h2, h3⟩ := Cond.arrayClass_spec (hts _ h)
  exact ⟨cA, fun n z => ⟨fun k h => (by cases h), kA, h2, comp, h3⟩, h1⟩
theorem zKstart {args : Array Value} {s : State} (hts : ∀ w ∈ T0, w.before args s = true) (ad : Nat → Nat) : ∃ κ : zC, κ.2.2.2.2 = ad ∧ zK κ s := by
  obtain ⟨c0, i0, h0⟩ := u_known (C := R_D) (T := F_D) (N := 2) (n := 2) hts i_D (hts _ zis_D)
  obtain ⟨c1, i1, h1⟩ := u_known (C := R_E) (T := F_E) (N := 8) (n := 8) hts i_E (hts _ zis_E)
  obtain ⟨c2, i2, h2⟩ := u_known (C := R_N) (T := F_N) (N := 2) (n := 2) hts i_N (hts _ zis_N)
  obtain ⟨c3, i3, h3⟩ := u_known (C := R_P) (T := F_P) (N := 2) (n := 2) hts i_P (hts _ zis_P)
  obtain ⟨c4, i4, h4⟩ := u_known (C := R_R) (T := F_R) (N := 8) (n := 8) hts i_R (hts _ zis_R)
  obtain ⟨c5, i5, h5⟩ := u_known (C := R_T) (T := F_T) (N := 3) (n := 3) hts i_T (hts _ zis_T)
  obtain ⟨c6, i6, h6⟩ := u_known (C := R_M) (T := F_M) (N := 9) (n := 9) hts i_M (hts _ zis_M)
  obtain ⟨cI, gI, fI⟩ := zarr hts zac_int
  obtain ⟨cC, gC, fC⟩ := zarr hts zac_char
  obtain ⟨cL, gL, fL⟩ := zarr hts zac_long
  refine ⟨((fun k => [c0, c1, c2, c3, c4, c5, c6].getD k 0, fun k => [i0, i1, i2, i3, i4, i5, i6].getD k i0), cI, cC, cL, ad), rfl, ?_, ?_⟩
  · intro k q hq
    match k, hq with
    | 0, hq => cases hq; exact h0
    | 1, hq => cases hq; exact h1
    | 2, hq => cases hq; exact h2
    | 3, hq => cases hq; exact h3
    | 4, hq => cases hq; exact h4
    | 5, hq => cases hq; exact h5
    | 6, hq => cases hq; exact h6
    | k + 7, hq => simp at hq
  · intro k q hq
    match k, hq with
    | 0, hq => cases hq; exact ⟨gI, fI⟩
    | 1, hq => cases hq; exact ⟨gC, fC⟩
    | 2, hq => cases hq; exact ⟨gL, fL⟩
    | k + 3, hq => simp at hq
