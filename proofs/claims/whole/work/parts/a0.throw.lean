/-! methods that throw: one fresh cell of six slots, nothing else moved -/
def zTo (E : String) (s : State) (o : Outcome) (t : State) : Prop := ∃ x : Addr, o = .threw x ∧ s.heap.size ≤ x ∧ (∃ ce : Cell, t.heap[x]? = some ce ∧ s.vm.findClass E = some ce.cls ∧ ce.vm = .none) ∧ s.WarmedH t.vm ∧ s.sameButNew ({ t with vm := s.vm } : State) [] 1 6
def zTQ (E : String) (below : List Frame) (s : State) : State → Prop := fun t => ∃ o, t.status = .running ∧ Ended t below o ∧ zTo E s o t
abbrev zRT (fr lo : Nat) : Room := { frames := fr, cells := 1, slots := 6, locals := lo }
def zMetT (κ : zC) (X : zXT) (l : Launch) (y : MethodName) (cc : ByteArray) (n : Nat) (r : Option FieldType) (fr lo : Nat) (av : List Value) (sz : Nat) (ws : va_W) (E : String) : Prop :=
  MetFree l y (headSpec (wz y cc n r) (zRT fr lo)) (va_Pc av (zPre κ X ws sz)) (fun _ _ _ _ _ => True) (fun _ st o t => zTo E st o t)
theorem zMetT.of {κ : zC} {X : zXT} {l : Launch} {y : MethodName} {cc : ByteArray} {n : Nat} {r : Option FieldType} {fr lo : Nat} {av : List Value} {sz : Nat} {ws : va_W} {E : String} (hfl : l.flags = flags0)
    (hy : plainName y.cls = true) (hn : (lg_sl av).length ≤ n)
    (body : ∀ (p : Program) (e : Env) (s : State) (m : MethodId) (args : Array Value) (below : List Frame) (meth : Method) (c : Code) (ls : Array Slot) (A : Nat → Prop), zFix p m c cc n s args y.cls → e.platform.stackTraces = false → c.exceptionTable.toList = [] → meth.locks = false → zK κ s → zP κ ws s.heap → va_D A ws → (∀ q : Nat, s.heap.size ≤ q → A q) → X A s s.heap → lv_has ls n (lv_args 0 av) →
      W p l e (zRT fr lo) s m args below meth c s.heap [] 0 0 (zTQ E below s) (F0 m 0 ls [])) : zMetT κ X l y cc n r fr lo av sz ws E := by
  refine MetFree.of_bodyS (code := cc) (maxLocals := n) (ret := r) hy ?_ ?_
  · intro args s m h hm
    obtain ⟨meth, c, h1, h2, h3, h4, h5, h6, -, -⟩ := Cond.code_spec hm (atoms_spec (ws := wz y cc n r) h _ List.mem_cons_self)
    exact ⟨meth, c, h1, h2, h3, h4, h5, h6⟩
  · intro p e s m args below meth c s₁ B hml hP _
    obtain ⟨rfl, hsz, hP, hK, hD0, hXs⟩ := hP
    subst hsz
    have hts : ∀ w ∈ T0, w.before av.toArray s = true := fun w hw => atoms_spec (ws := wz y cc n r) B.pre w (List.mem_cons_of_mem _ hw)
    have hco : (Cond.code y cc n r).before av.toArray s = true := atoms_spec (ws := wz y cc n r) B.pre _ List.mem_cons_self
    have hne : c.exceptionTable.toList = [] := by
      have := B.noHandlers hco
      rw [Array.isEmpty_iff] at this
      rw [this]
    have hb := body p e s m av.toArray below meth c _ (va_A ws s.heap.size) ⟨B.exec, B.bytes, hml, findClass_of_methodNamed B.named, hts⟩ (Jvm.D.Launch.traces_off hfl B.admits) hne B.notSynchronized hK hP (hD0.self (sz := s.heap.size)) (fun q h => Or.inr h) hXs (lv_entry av hn)
    have hh0 : s₁.heap = s.heap := by rw [B.state]; rfl
    rw [lg_entry_eq]
    obtain ⟨t, a1, o, b1, b2, b3⟩ := hb s₁ hh0 (Stand.of_body B)
    exact ⟨t, o, a1, b1, b2, b3⟩
/-- a static that is read only, with what the tables say of it -/
def zSC (C n d : String) (v : Value) (A : Nat → Prop) (U : State) (H : Heap) : Prop := ∃ (cf : ClassId) (kf : Class) (fi : Nat) (f : Field) (a : Nat) (cell : Cell), U.vm.findClass C = some cf ∧ U.fieldFound? C n d = some (cf, kf, fi, f) ∧ f.isStatic = true ∧ kf.statics = some a ∧ H[a]? = some cell ∧ cell.vm.isStatics = true ∧ cell.cls = cf ∧ f.slot < cell.slots.size ∧ kf.staticTypes[f.slot]? = some f.type ∧ cell.slots[f.slot]? = some v ∧ ¬ A a
theorem zSC.moved {C n d : String} {v : Value} {A : Nat → Prop} {u U : State} {H : Heap} (hvm : u.vm.Alike U.vm) (h : zSC C n d v A u H) : zSC C n d v A U H := by
  obtain ⟨cf, kf, fi, f, a, cell, h0, h1, h2, h3, h4, h5, h6, h7, h8, h9⟩ := h
  obtain ⟨k', hi', he⟩ := State.fieldFound?_setVm hvm h1
  exact ⟨cf, k', fi, f, a, cell, by rw [hvm.findClass]; exact h0, hi', h2, by rw [he]; exact h3, h4, h5, h6, h7, by rw [he]; exact h8, h9⟩
theorem zSC.kept {C n d : String} {v : Value} {A : Nat → Prop} {U : State} {H H1 : Heap} (h : zSC C n d v A U H) (hq : ∀ a : Nat, a < H.size → ¬ A a → H1[a]? = H[a]?) : zSC C n d v A U H1 := by
  obtain ⟨cf, kf, fi, f, a, cell, h0, h1, h2, h3, h4, h5, h6, h7, h8, h9, h10⟩ := h
  exact ⟨cf, kf, fi, f, a, cell, h0, h1, h2, h3, by rw [hq a (Array.getElem?_eq_some_iff.mp h4).1 h10]; exact h4, h5, h6, h7, h8, h9, h10⟩
theorem zSC.narrow {C n d : String} {v : Value} {A B : Nat → Prop} {U : State} {H : Heap} (h : zSC C n d v A U H) (hAB : ∀ q, B q → A q) : zSC C n d v B U H := by
  obtain ⟨cf, kf, fi, f, a, cell, h0, h1, h2, h3, h4, h5, h6, h7, h8, h9, h10⟩ := h
  exact ⟨cf, kf, fi, f, a, cell, h0, h1, h2, h3, h4, h5, h6, h7, h8, h9, fun z => h10 (hAB a z)⟩
theorem zSC.of {args : Array Value} {s : State} {C n d : String} {v : Value} {A : Nat → Prop} (hl : (Cond.laysStatic C n d).before args s = true) (hv : (Term.static C n d).eval args s none [] s = some v) (hA : ∀ a : Nat, a < s.heap.size → ¬ A a) : zSC C n d v A s s.heap := by
  obtain ⟨c, k, i, f, a, cell, hc, hi, hst, ha, hcell, hs, hcls, hlt, hty⟩ := Cond.laysStatic_spec hl
  obtain ⟨hst', a', cell', ha', hcell', -, hslot⟩ := Term.static_spec hi hv
  cases ha.symm.trans ha'
  cases hcell.symm.trans hcell'
  exact ⟨c, k, i, f, a, cell, hc, hi, hst, ha, hcell, hs, hcls, hlt, hty, hslot, hA a (Array.getElem?_eq_some_iff.mp hcell).1⟩
theorem zSC.lays {args : Array Value} {s : State} {C n d : String} {v : Value} {A : Nat → Prop} (h : zSC C n d v A s s.heap) : (Cond.laysStatic C n d).before args s = true := by
  obtain ⟨cf, kf, fi, f, a, cell, h0, h1, h2, h3, h4, h5, h6, h7, h8, h9, h10⟩ := h
  simp [Cond.before, Cond.holds, Cond.value, h0, h1, h2, h3, h4, h5, h6, h7, h8]
theorem zSC.ref {args : Array Value} {s : State} {C n d : String} {v : Value} {A : Nat → Prop} (h : zSC C n d v A s s.heap) (hv : v = .null ∨ ∃ a : Nat, v = .ref a) : (Cond.isRef (.static C n d)).before args s = true := by
  obtain ⟨cf, kf, fi, f, a, cell, h0, h1, h2, h3, h4, h5, h6, h7, h8, h9, h10⟩ := h
  have he : (Term.static C n d).eval args s none [] s = some v := by simp [Term.eval, State.fieldNamed?, h1, h2, h3, h4, h5, h9]
  rcases hv with rfl | ⟨q, rfl⟩ <;> simp [Cond.before, Cond.holds, Cond.value, he]
/-- D's messages -/
def zmsg : List (Nat × String) := [(25, "n is not 1 .. 4"), (36, "the text would have more than 600 units"), (73, "what is not 0 .. 4"), (75, "what is not 0 .. 6"), (103, "what is not 0 .. 2"), (121, "the radix is not 2 .. 36, or it is 10"), (127, "digits is not 0 .. 20"), (132, "digits is not -1 .. 20"), (137, "digits is not 1 .. 21"), (142, "the form is not 0 .. 2"), (146, "there is no such unit")]
def zNC (U : State) : Prop := ∃ a b : ClassId, U.vm.findClass "java/lang/IllegalStateException" = some a ∧ U.vm.findClass "java/lang/IllegalArgumentException" = some b ∧ U.vm.assignable a b = false
def zXE (X : zXT) : Prop := ∀ (A : Nat → Prop) (U : State) (H : Heap), X A U H → (∃ v : Value, (v = .null ∨ ∃ a : Nat, v = .ref a) ∧ zSC "java/lang/Throwable" "UNASSIGNED_STACK" "[Ljava/lang/StackTraceElement;" v A U H) ∧ (∃ v : Value, (v = .null ∨ ∃ a : Nat, v = .ref a) ∧ zSC "java/lang/Throwable" "SUPPRESSED_SENTINEL" "Ljava/util/List;" v A U H) ∧ (∀ q ∈ zmsg, ∃ a : Nat, vk_R R_D q.1 q.2 a U) ∧ zNC U
/-- the words of the heap that a throwable's constructor needs -/
def zheL : List Cond := [.laysStatic "java/lang/Throwable" "UNASSIGNED_STACK" "[Ljava/lang/StackTraceElement;", .laysStatic "java/lang/Throwable" "SUPPRESSED_SENTINEL" "Ljava/util/List;", .isRef (.static "java/lang/Throwable" "UNASSIGNED_STACK" "[Ljava/lang/StackTraceElement;"), .isRef (.static "java/lang/Throwable" "SUPPRESSED_SENTINEL" "Ljava/util/List;")]
theorem zheW {X : zXT} (hXE : zXE X) {A : Nat → Prop} {s : State} (hXs : X A s s.heap) {args : Array Value} : ∀ w ∈ zheL, w.before args s = true := by
  obtain ⟨⟨v, hv, h1⟩, ⟨v2, hv2, h2⟩, -⟩ := hXE _ _ _ hXs
  intro w hw
  simp only [zheL, List.mem_cons, List.not_mem_nil, or_false] at hw
  rcases hw with rfl | rfl | rfl | rfl
  · exact h1.lays
  · exact h2.lays
  · exact h1.ref hv
  · exact h2.ref hv2
/-- words that follow from the tables' -/
def zowL (E : String) : List Cond := [.castable E E, .declares (Jvm.Bundle.initS "java/lang/RuntimeException"), .declares (Jvm.Bundle.initS "java/lang/Exception"), .declares (Jvm.Bundle.initS "java/lang/Throwable")]
theorem zdcl {y : MethodName} {cc : ByteArray} {n : Nat} {r : Option FieldType} {args : Array Value} {s : State} (hts : ∀ w ∈ T0, w.before args s = true) (h1 : Cond.instanceMethod y ∈ T0) (h2 : Cond.code y cc n r ∈ T0) : (Cond.declares y).before args s = true := by
  obtain ⟨mm, meth, hn, hm, hst, -⟩ := Cond.instanceMethod_spec (hts _ h1)
  obtain ⟨meth', cd, hm', -, -, -, -, -, -, hp⟩ := Cond.code_spec hn (hts _ h2)
  cases hm.symm.trans hm'
  simp [Cond.before, Cond.holds, Cond.value, hn, hm, hst, hp]
theorem zoi_1 : Cond.instanceMethod (Jvm.Bundle.initS "java/lang/RuntimeException") ∈ T0 := by decide +kernel
theorem zoi_2 : Cond.instanceMethod (Jvm.Bundle.initS "java/lang/Exception") ∈ T0 := by decide +kernel
theorem zoi_3 : Cond.instanceMethod (Jvm.Bundle.initS "java/lang/Throwable") ∈ T0 := by decide +kernel
theorem zoc_1 : Cond.code (Jvm.Bundle.initS "java/lang/RuntimeException") Jvm.Bundle.six 2 none ∈ T0 := by decide +kernel
theorem zoc_2 : Cond.code (Jvm.Bundle.initS "java/lang/Exception") Jvm.Bundle.six 2 none ∈ T0 := by decide +kernel
theorem zoc_3 : Cond.code (Jvm.Bundle.initS "java/lang/Throwable") Jvm.LibCode.Throwable.InitS.code 2 none ∈ T0 := by decide +kernel
theorem zfcl {E : String} {n : Nat} {args : Array Value} {s : State} (hts : ∀ w ∈ T0, w.before args s = true) (h : Cond.instantiable E n ∈ T0) : ∃ cE, s.vm.findClass E = some cE := by
  obtain ⟨cE, k, h1, -⟩ := Cond.instantiable_spec (hts _ h)
  exact ⟨cE, h1⟩
theorem zowW {E : String} {n : Nat} {args : Array Value} {s : State} (hts : ∀ w ∈ T0, w.before args s = true) (h : Cond.instantiable E n ∈ T0) : ∀ w ∈ zowL E, w.before args s = true := by
  obtain ⟨cE, hE⟩ := zfcl hts h
  intro w hw
  simp only [zowL, List.mem_cons, List.not_mem_nil, or_false] at hw
  rcases hw with rfl | rfl | rfl | rfl
  · simp [Cond.before, Cond.holds, Cond.value, hE, va_asg]
  · exact zdcl hts zoi_1 zoc_1
  · exact zdcl hts zoi_2 zoc_2
  · exact zdcl hts zoi_3 zoc_3
section ZT
variable {p : Program} {l : Launch} {e : Env} {R : Room} {s : State} {m : MethodId} {args : Array Value} {below : List Frame} {meth : Method} {c : Code} {cc : ByteArray} {pc nL : Nat} {ls : Array Slot} {κ : zC} {A : Nat → Prop} {X : zXT}
theorem zthrow {E tx : String} {names : List String} {ik isx ic : Nat} (hXE : zXE X) (hXs : X A s s.heap) (S0 : zFix p m c cc nL s args R_D) (htr : e.platform.stackTraces = false) (hne : c.exceptionTable.toList = []) (hlk : meth.locks = false)
    (hcl : Cond.classLink R_D ik E ∈ T0) (hins : Cond.instantiable E 6 ∈ T0) (hini : Cond.initialized E ∈ T0) (hm : (isx, tx) ∈ zmsg) (how : ∀ a ∈ Jvm.Bundle.ownAtoms R_D ic E names, a ∈ T0 ∨ a ∈ zheL ∨ a ∈ zowL E) (hE : Jvm.Bundle.fit E = true) (hnm : ∀ n ∈ names, Jvm.Bundle.fit n = true) (hsz : ls.size = nL)
    (hR : 0 + 1 ≤ R.cells ∧ 0 + 6 ≤ R.slots ∧ names.length + 3 < R.frames ∧ 13 * (names.length + 1) + 43 ≤ R.locals)
    (d0 : decode cc pc = .ok (.new ik, 3)) (d1 : decode cc (pc + 3) = .ok (.dup, 1)) (d2 : decode cc (pc + 4) = .ok (.ldc isx, 2)) (d3 : decode cc (pc + 6) = .ok (.invokespecial ic, 3)) (d4 : decode cc (pc + 9) = .ok (.athrow, 1)) :
    W p l e R s m args below meth c s.heap [] 0 0 (zTQ E below s) (F0 m pc ls []) := by
  obtain ⟨hx, hb, hml, hown, hts⟩ := S0
  obtain ⟨q, hq⟩ := (hXE _ _ _ hXs).2.2.1 _ hm
  refine W.newc hx hb hown (hts _ hcl) (hts _ hins) (hts _ hini) rfl d0 hR.1 hR.2.1 fun cX kX hcX hkX hord hn6 => ?_
  refine lv_dup hx hb d1 rfl ?_
  refine va_ldcS hx hb hown hq d2 ?_
  intro T hT XT
  obtain ⟨U, h1, h2, h3, h4, h5, ce, h6, h7⟩ := XT.ctorThrowS hx htr (own := R_D) (cls := E) (names := names) (ic := ic) hown hE hnm (fun a ha => by
      rcases how a ha with h | h | h
      · exact hts _ h
      · exact zheW hXE hXs _ h
      · exact zowW hts hins _ h) (fun x hx' => absurd hx' List.not_mem_nil) (a := s.heap.size) hcX hkX (by rw [hT]; simp [freshCell]) (Nat.le_refl _) (msg := .ref q) rfl
    (g := F0 m (pc + 3 + 1 + 2) ls [.ref q, .ref s.heap.size, .ref s.heap.size]) rfl (hsz.trans hml.symm) rfl rfl (rest := []) rfl (by rw [hb]; exact d3) (by rw [hb]; exact d4) (fun x hx' => by rw [hne] at hx'; cases hx') hR.2.2.1 (by have := hR.2.2.2; simp [Value.category]; omega) hlk
  exact ⟨U, h1, .threw s.heap.size, h2, h3, s.heap.size, rfl, Nat.le_refl _, ⟨ce, h6, h7.cls, h7.vm⟩, h4, h5⟩
/-- a reader: an int, the heap as it was -/
def zMet0 (κ : zC) (X : zXT) (l : Launch) (y : MethodName) (cc : ByteArray) (n : Nat) (r : Option FieldType) (fr lo : Nat) (av : List Value) (sz : Nat) (ws : va_W) (v : Int32) : Prop :=
  Met l y (wz y cc n r) (zR fr lo) (va_Pc av (zPre κ X ws sz)) (fun _ st o t => o = .returned (some (.int v)) ∧ t.heap = st.heap) 0 0 (fun _ => False)
theorem zMet0.of {y : MethodName} {n fr lo : Nat} {ty : FieldType} {av : List Value} {sz : Nat} {ws : va_W} {out : Int32} (hy : plainName y.cls = true) (hn : (lg_sl av).length ≤ n)
    (body : ∀ (p : Program) (e : Env) (s : State) (m : MethodId) (args : Array Value) (below : List Frame) (meth : Method) (c : Code) (ls : Array Slot) (A : Nat → Prop) (Q : State → Prop), zFix p m c cc n s args y.cls → zK κ s → zP κ ws s.heap → va_D A ws → (∀ q : Nat, s.heap.size ≤ q → A q) → X A s s.heap → va_S A s.heap s.heap [] → lv_has ls n (lv_args 0 av) →
      (∀ (v : Int32) (ls : Array Slot) (pc : Nat), decode cc pc = .ok (.ireturn, 1) → narrow ty (.int v) = .int v → v = out → W p l e (zR fr lo) s m args below meth c s.heap [] 0 0 Q (F0 m pc ls [.int v])) →
      W p l e (zR fr lo) s m args below meth c s.heap [] 0 0 Q (F0 m 0 ls [])) : zMet0 κ X l y cc n (some ty) fr lo av sz ws out := by
  refine Met.ofW (cc := cc) (maxL := n) (ret := some ty) hy rfl ?_
  intro p e s m args below meth c s₁ B hml hv
  obtain ⟨rfl, hsz, hP, hK, hD0, hXs⟩ := hv
  subst hsz
  rw [lg_entry_eq]
  refine body p e s m _ below meth c _ (va_A ws s.heap.size) _ ⟨B.exec, B.bytes, hml, findClass_of_methodNamed B.named, fun w hw => atoms_spec (ws := wz y cc n (some ty)) B.pre w (List.mem_cons_of_mem _ hw)⟩ hK hP (hD0.self (sz := s.heap.size)) (fun q h => Or.inr h) hXs va_S.rf (lv_entry av hn) ?_
  intro v ls pc hd hz hv
  subst hv
  exact W.zret B.exec B.bytes B.returns hz (fun t ht hW => ⟨rfl, ht⟩) (fun q h => absurd h List.not_mem_nil) hd B.notSynchronized
theorem zV0 {y : MethodName} {cy : ByteArray} {ny : Nat} {ry : Option FieldType} {n fr lo idx : Nat} {b : Nat} {As rest st0 : List Value} {ws wc : va_W} {v : Int32} {isC : List Nat} {own : String} {Q : State → Prop} (S0 : zFix p m c cc nL s args own) (hN : zNV own idx y cy ny ry n) (hM : zMet0 κ X l y cy ny ry fr lo (.ref b :: As) s.heap.size wc v) (hX : zX κ X) (hXs : X A s s.heap) (hK : zK κ s) (hA : ∀ q : Nat, s.heap.size ≤ q → A q) (hP : zP κ ws s.heap) (hD : va_D A ws) (hS : va_S A s.heap s.heap [])
    (hR : fr + 1 ≤ R.frames ∧ 8 + (ny + 11) + lo ≤ R.locals) (hI : va_nd isC = true ∧ isC.map (fun i => ws[i]?) = wc.map some ∧ isC.filterMap (fun i => ws[i]?) = wc) {ci : Nat} {qc : vw_C} {fs : List Value} (hci : cl0[ci]? = some qc) (hqc : qc.1 = y.cls) (he : wc[0]? = some (b, .inr (ci, fs))) (hn : As.length = n) (hsize : ls.size = nL) (hst : st0 = As.reverse ++ .ref b :: rest) (hrm : (rest.map fun v => v.category).sum ≤ 8) (hcs : 0 + 0 ≤ R.cells ∧ 0 + 0 ≤ R.slots) (hdg : decode cc pc = .ok (.invokevirtual idx, 3))
    (kk : W p l e R s m args below meth c s.heap [] 0 0 Q (F0 m (pc + 3) ls (.int v :: rest))) : W p l e R s m args below meth c s.heap [] 0 0 Q (F0 m pc ls st0) := by
  obtain ⟨h1, h2, h3⟩ := hI
  obtain ⟨hF, hpre⟩ := zprep hX hXs hK hP hD hS hA isC h1 h2 h3 (.ref b :: As)
  obtain ⟨hco, hin, hml, him, hse, hd⟩ := hN
  have cw := callB_of (R := R) (s := s) (args := args) (rm := zR fr lo) (mc := 0) (ms := 0) n S0.2.2.2.2 (zG hco) rfl rfl rfl (S0.2.2.2.2 _ hin) (S0.2.2.2.2 _ hml) hd hR
  have hrecv := va_recv hK (hP.sub isC h3) hci he
  rw [hqc] at hrecv
  have hrun := va_runV (locs := []) (cells := 0) (slots := 0) (p := p) (e := e) (below := below) (meth := meth) (rest := rest) (As := As) (g := F0 m pc ls st0) S0 hM ⟨cw, S0.2.2.2.2 _ him, S0.2.2.2.2 _ hse⟩ ⟨zBlind hX, hrecv, hpre⟩ rfl hn hsize hst (lv_room hrm) hdg ⟨hcs.1, hcs.2⟩
  intro T hT XT
  obtain ⟨w, st₀, t, T', L, h0, X', hL, e1, e2, ⟨hv, hh⟩, st⟩ := hrun T hT XT
  cases hv
  have hL0 : L = [] := List.eq_nil_iff_forall_not_mem.mpr fun q hq => hL q hq
  subst hL0
  obtain ⟨t2, a1, b1⟩ := kk T' (e1.trans (hh.trans h0)) X'
  exact ⟨t2, st t2 a1, b1⟩
end ZT
