/-! methods with an exception table: the call that throws is caught -/
abbrev wzW (y : MethodName) (cc : ByteArray) (n : Nat) (r : Option FieldType) (hh : List (Nat × Nat × Nat × Nat)) : List Cond := Cond.codeWith y cc n r hh :: T0
theorem zGW {y : MethodName} {cc : ByteArray} {n : Nat} {r : Option FieldType} {hh : List (Nat × Nat × Nat × Nat)} (h : Cond.codeWith y cc n r hh ∈ T0) : GoodIn T0 (wzW y cc n r hh) := by
  intro w hw
  rcases List.mem_cons.mp hw with rfl | hw
  · exact ⟨h, good_of_word (List.mem_filter.mp h).2⟩
  · exact ⟨hw, good_of_word (List.mem_filter.mp hw).2⟩
def zEnt (q : Nat × Nat × Nat × Nat) : ExceptionTableEntry := { startPc := q.1, endPc := q.2.1, handlerPc := q.2.2.1, catchType := q.2.2.2 }
theorem zEnt_of : ∀ (t : List ExceptionTableEntry) (hh : List (Nat × Nat × Nat × Nat)), t.map (fun h => (h.startPc, h.endPc, h.handlerPc, h.catchType)) = hh → t = hh.map zEnt := by
  intro t
  induction t with
  | nil => intro hh h; subst h; rfl
  | cons a t ih =>
    intro hh h
    subst h
    show a :: t = zEnt _ :: (t.map _).map zEnt
    rw [← ih _ rfl]
    rfl
def zMetW (κ : zC) (X : zXT) (l : Launch) (y : MethodName) (cc : ByteArray) (n : Nat) (r : Option FieldType) (hh : List (Nat × Nat × Nat × Nat)) (fr lo : Nat) (av : List Value) (sz : Nat) (ws : va_W) (Qc : (Nat → Prop) → Array Value → State → Outcome → State → Prop) : Prop :=
  Met l y (wzW y cc n r hh) (zRT fr lo) (va_Pc av (zPre κ X ws sz)) (Qc (va_A ws sz)) 1 6 (va_A ws sz)
theorem zMetW.of {κ : zC} {X : zXT} {l : Launch} {y : MethodName} {cc : ByteArray} {n : Nat} {hh : List (Nat × Nat × Nat × Nat)} {fr lo : Nat} {av : List Value} {sz : Nat} {ws : va_W} {S : Type} {post : Int32 → S → Prop} {f : S → va_W} (hy : plainName y.cls = true) (hn : (lg_sl av).length ≤ n)
    (body : ∀ (p : Program) (e : Env) (s : State) (m : MethodId) (args : Array Value) (below : List Frame) (meth : Method) (c : Code) (ls : Array Slot) (A : Nat → Prop) (Q : State → Prop), zFix p m c cc n s args y.cls → c.exceptionTable.toList = hh.map zEnt → zK κ s → zP κ ws s.heap → va_D A ws → (∀ q : Nat, s.heap.size ≤ q → A q) → X A s s.heap → va_S A s.heap s.heap [] → lv_has ls n (lv_args 0 av) →
      (∀ (v : Int32) (u : S) (H : Heap) (locs : List Loc) (ls : Array Slot) (pc cs sl : Nat), cs ≤ 1 → sl ≤ 6 → decode cc pc = .ok (.ireturn, 1) → zP κ (f u) H → va_D A (f u) → va_S A s.heap H locs → post v u → W p l e (zRT fr lo) s m args below meth c H locs cs sl Q (F0 m pc ls [.int v])) →
      W p l e (zRT fr lo) s m args below meth c s.heap [] 0 0 Q (F0 m 0 ls [])) : zMetW κ X l y cc n (some .int) hh fr lo av sz ws (zQi κ post f) := by
  refine va_MetW (cc := cc) (maxL := n) (ret := some .int) (hh := hh) hy rfl ?_
  intro p e s m args below meth c s₁ B hml hv
  obtain ⟨rfl, hsz, hP, hK, hD0, hXs⟩ := hv
  subst hsz
  rw [lg_entry_eq]
  obtain ⟨m9, meth9, c9, hn9, h1, h2, -, -, htab, -, -, -⟩ := Cond.codeWith_spec (atoms_spec (ws := wzW y cc n (some .int) hh) B.pre _ List.mem_cons_self)
  cases B.named.symm.trans hn9
  cases B.method.symm.trans h1
  cases (Stand.of_body B).code.symm.trans h2
  refine body p e s m _ below meth c _ (va_A ws s.heap.size) _ ⟨B.exec, B.bytes, hml, findClass_of_methodNamed B.named, fun w hw => atoms_spec (ws := wzW y cc n (some .int) hh) B.pre w (List.mem_cons_of_mem _ hw)⟩ (zEnt_of _ _ htab) hK hP (hD0.self (sz := s.heap.size)) (fun q h => Or.inr h) hXs va_S.rf (lv_entry av hn) ?_
  intro v u H locs ls pc cs sl hc1 hs1 hd hP hD hS hp
  refine W.widen hc1 hs1 ?_
  exact W.iret B.exec B.bytes B.returns (fun t ht hW => ⟨⟨v, u, rfl, hp, by rw [ht]; exact hP, va_K.moved hW.alike hK, hD⟩, hS.F ht⟩) hS.2.2 hd B.notSynchronized
section ZWR
variable {p : Program} {l : Launch} {e : Env} {R : Room} {s : State} {m : MethodId} {args : Array Value} {below : List Frame} {meth : Method} {c : Code} {H : Heap} {locs : List Loc} {cells slots : Nat} {cc : ByteArray} {pc nL : Nat} {ls : Array Slot} {κ : zC} {A : Nat → Prop} {X : zXT} {own : String} {Q : State → Prop}
set_option maxHeartbeats 1000000 in
/-- a call that throws, caught by the row x -/
theorem zVt {E : String} {y : MethodName} {cy : ByteArray} {ny : Nat} {ry : Option FieldType} {n fr lo idx : Nat} {b : Nat} {As rest st0 : List Value} {ws wc : va_W} {isC : List Nat} (S0 : zFix p m c cc nL s args own) (hN : zNV own idx y cy ny ry n) (hM : zMetT κ X l y cy ny ry fr lo (.ref b :: As) H.size wc E) (hX : zX κ X) (hXs : X A s s.heap) (hK : zK κ s) (hA : ∀ q : Nat, s.heap.size ≤ q → A q) (hP : zP κ ws H) (hD : va_D A ws) (hS : va_S A s.heap H locs)
    (hR : fr + 1 ≤ R.frames ∧ 8 + (ny + 11) + lo ≤ R.locals) (hI : va_nd isC = true ∧ isC.map (fun i => ws[i]?) = wc.map some ∧ isC.filterMap (fun i => ws[i]?) = wc) {ci : Nat} {qc : vw_C} {fs : List Value} (hci : cl0[ci]? = some qc) (hqc : qc.1 = y.cls) (he : wc[0]? = some (b, .inr (ci, fs))) (hn : As.length = n) (hsize : ls.size = nL) (hst : st0 = As.reverse ++ .ref b :: rest) (hrm : (rest.map fun v => v.category).sum ≤ 8) (hcs : cells + 1 ≤ R.cells ∧ slots + 6 ≤ R.slots) (hdg : decode cc pc = .ok (.invokevirtual idx, 3))
    {hp : Nat} (hcat : l.admits e → ∀ cX, s.vm.findClass E = some cX → zCat e s m.cls pc cX hp c.exceptionTable.toList)
    (kk : ∀ (v : Nat) (H1 : Heap), H.size ≤ H1.size → (∀ q : Nat, q < H.size → H1[q]? = H[q]?) → W p l e R s m args below meth c H1 locs (cells + 1) (slots + 6) Q (F0 m hp ls [.ref v])) : W p l e R s m args below meth c H locs cells slots Q (F0 m pc ls st0) := by
  obtain ⟨h1, h2, h3⟩ := hI
  obtain ⟨hF, hpre⟩ := zprep hX hXs hK hP hD hS hA isC h1 h2 h3 (.ref b :: As)
  obtain ⟨hco, hin, hml, him, hse, hd⟩ := hN
  have cw := callB_of (R := R) (s := s) (args := args) (rm := zRT fr lo) (mc := 1) (ms := 6) n S0.2.2.2.2 (zG hco) rfl rfl rfl (S0.2.2.2.2 _ hin) (S0.2.2.2.2 _ hml) hd hR
  obtain ⟨cellB, hcB, hoB, hclB⟩ := va_recv hK (hP.sub isC h3) hci he
  rw [hqc] at hclB
  obtain ⟨hx, hb, hmL, hown, hts⟩ := S0
  obtain ⟨-, -, hfr, hlo, hws, hcw, hcode, hini, hy, hlen, hl⟩ := cw
  intro T hT XT
  have hinst := hts _ him
  have hsel := hts _ hse
  obtain ⟨mk, methM, hnamed, hmethM, hstM, habM⟩ := Cond.instanceMethod_spec hinst
  obtain ⟨methM', cM, hmethM', -, -, -, -, -, -, hsigM⟩ := Cond.code_spec hnamed hcode
  cases hmethM.symm.trans hmethM'
  obtain ⟨c2, r2, m2, q1, q2, q3, q4, kP, hkP, hkPi⟩ := Cond.selects_spec hsel
  cases hclB.symm.trans q1
  cases (State.methodFound?_of_named hnamed hy).symm.trans q2
  cases hnamed.symm.trans q3
  have hselP : selectMethod e.platform s.vm cellB.cls mk = .method mk := by rw [Launch.admits_selectMethod XT.admits]; exact q4
  obtain ⟨vm₁, X₁, hstep₁⟩ := XT.invokevirtual hx hown hl hnamed hmethM hstM hkP hkPi hy (a := b) (cell := cellB) (by rw [hT]; exact hcB)
    (fun z h => by rw [h] at hoB; cases hoB) hselP hmethM habM hkP hkPi (g := F0 m pc ls st0) rfl (argsL := As) (rest := rest) (hn.trans (hlen _ hsigM)) hst (by rw [hb]; exact hdg)
  have hi9 : (Cond.initialized y.cls).before (Value.ref b :: As).toArray (T.setVm vm₁) = true := word_at X₁.warmed (Or.inl (by first | rfl | simp [Cond.onTables, Cond.keeps, Cond.steady])) hini
  obtain ⟨v, U', ce, X', hce, hcl9, hvm9, hsz9, hold9, hsteps⟩ := zthrown X₁ hM hX hR (g := { F0 m pc ls st0 with stack := rest }) rfl (hsize.trans hmL.symm) (ig := .invokevirtual idx) (len := 3) (by rw [hb]; exact hdg) (lv_room hrm) (X₁.named hnamed) (fun w hw => hws w hw _ _ X₁.warmed) hi9 (hpre (T.setVm vm₁) hT X₁.warmed) hcs
  have hclE : s.vm.findClass E = some ce.cls := by
    rw [X₁.warmed.alike.findClass] at hcl9
    exact hcl9
  obtain ⟨vm', hW', hgo⟩ := zseek (e := e) (f := { F0 m pc ls st0 with stack := rest }) (a := v) hvm9 (Vm.classAt_of_findClass hclE) c.exceptionTable.toList ((U'.setTop { F0 m pc ls st0 with stack := rest }).pushFrame (.throwing v)) (hcat XT.admits _ hclE) (by rw [Stand.throwing_vm]; exact X'.warmed) (by rw [Stand.throwing_heap]; exact hce)
  have hcatch := zinto (e := e) (tb := p.tables) (g := { F0 m pc ls st0 with stack := rest }) (a := v) (h := hp) (vm' := vm') X'.here (fun Q E d acts => (_root_.Jvm.W.findHandler_eq (by rw [Stand.throwing_vm]; exact X'.method') X'.code).trans (hgo Q E d acts))
  have hcome : Steps p.tables e below (T.setTop (F0 m pc ls st0)) ((U'.setTop { F0 m pc ls st0 with stack := rest }).pushFrame (.throwing v)) := hstep₁ _ fun acts => by rw [doInvoke_state]; exact hsteps
  subst hT
  obtain ⟨t2, a1, b1⟩ := kk v U'.heap hsz9 hold9 (U'.setVm vm') rfl (X'.noted hW')
  exact ⟨t2, (hcome.trans hcatch).trans a1, b1⟩
def zNW (own : String) (idx : Nat) (y : MethodName) (cy : ByteArray) (ny : Nat) (ry : Option FieldType) (hh : List (Nat × Nat × Nat × Nat)) (n : Nat) : Prop := Cond.codeWith y cy ny ry hh ∈ T0 ∧ Cond.initialized y.cls ∈ T0 ∧ Cond.methodLink own idx y ∈ T0 ∧ Cond.static y ∈ T0 ∧ (y.cls ≠ "java/lang/invoke/MethodHandle" ∧ y.cls ≠ "java/lang/invoke/VarHandle" ∧ (parseMethodDescriptor y.desc).map (fun d => d.parameters.length) = some n)
theorem zSW {S : Type} {y : MethodName} {cy : ByteArray} {ny : Nat} {ry : Option FieldType} {hh : List (Nat × Nat × Nat × Nat)} {n fr lo idx : Nat} {As rest st0 : List Value} {ws wc wr : va_W} {post : Int32 → S → Prop} {f wn : S → va_W} {isC isR isN : List Nat} (S0 : zFix p m c cc nL s args own) (hN : zNW own idx y cy ny ry hh n) (hM : zMetW κ X l y cy ny ry hh fr lo As H.size wc (zQi κ post f)) (hX : zX κ X) (hXs : X A s s.heap) (hK : zK κ s) (hA : ∀ q : Nat, s.heap.size ≤ q → A q) (hP : zP κ ws H) (hD : va_D A ws) (hS : va_S A s.heap H locs)
    (hR : fr + 1 ≤ R.frames ∧ 8 + (ny + 11) + lo ≤ R.locals) (hI : zIdx ws wc wr isC isR) (hb : zBk wr f wn isN) (hn : As.length = n) (hsize : ls.size = nL) (hst : st0 = As.reverse ++ rest) (hrm : (rest.map fun v => v.category).sum ≤ 8) (hcs : cells + 1 ≤ R.cells ∧ slots + 6 ≤ R.slots) (hdg : decode cc pc = .ok (.invokestatic idx, 3))
    (kk : ∀ (r : Int32) (u : S) (H1 : Heap) (locs1 : List Loc), post r u → zP κ (wn u) H1 → va_D A (wn u) → va_S A s.heap H1 locs1 → W p l e R s m args below meth c H1 locs1 (cells + 1) (slots + 6) Q (F0 m (pc + 3) ls (.int r :: rest))) : W p l e R s m args below meth c H locs cells slots Q (F0 m pc ls st0) := by
  obtain ⟨h1, h2, h3, h4, h5, h6⟩ := hI
  obtain ⟨hF, hpre⟩ := zprep hX hXs hK hP hD hS hA isC h1 h2 h3 As
  obtain ⟨hco, hin, hml, hst1, hy1, hy2, hd⟩ := hN
  have hts := S0.2.2.2.2
  have hK9 : Back l R p e below s args y 3 8 (PreOf R 1 6 (va_Pc As (zPre κ X wc H.size))) (PostOf (zQi κ post f (va_A wc H.size)) 1 6 (va_A wc H.size)) :=
    va_backW (hh := hh) (bytes := cy) (maxL := ny) (ret := ry) hM (zBlind hX) rfl rfl hR.1 hR.2 (pay_in hts (zGW hco)) List.mem_cons_self (fun a' U hW => word_at hW (Or.inl (by first | rfl | simp [Cond.onTables, Cond.keeps, Cond.steady])) (hts _ hin))
  have hrun : va_Run p l e R s m args below meth c H locs cells slots 1 6 (F0 m pc ls st0) rest (zQi κ post f (va_A wc H.size) As.toArray) (va_A wc H.size) := by
    obtain ⟨hx, hb9, hmL, ho, -⟩ := S0
    intro T hT XT
    obtain ⟨mk, methM, cM, hnamed, hmethM, -, -, -, -, -, -, hsigM⟩ := Cond.codeWith_spec (hts _ hco)
    have hstatic : methM.isStatic = true := Cond.static_spec hnamed hmethM (hts _ hst1)
    obtain ⟨kP, hkP, -⟩ := className_of_methodNamed hnamed
    have hinitP : kP.init = .initialized := Cond.initialized_spec (findClass_of_methodNamed hnamed) hkP (hts _ hin)
    have hlen : As.length = methM.sig.parameters.length := by
      rw [hsigM] at hd
      rw [hn]
      exact (Option.some.inj hd).symm
    obtain ⟨vm₁, X₁, hstep₁⟩ := XT.invokestatic hx ho (hts _ hml) hnamed hmethM hstatic hkP hinitP ⟨hy1, hy2⟩ (g := F0 m pc ls st0) rfl (argsL := As) (rest := rest) hlen hst (by rw [hb9]; exact hdg)
    obtain ⟨v, ⟨U', l2, c2, s2⟩, X', ⟨g', mk', t, L, e1, e2, hq, k1, hL, k2, k3⟩, hsteps⟩ := hK9 m meth c ⟨T.setVm vm₁, locs, cells, slots⟩ { F0 m pc ls st0 with stack := rest } (.invokestatic idx) mk As.toArray X₁ rfl (hsize.trans hmL.symm) (by rw [hb9]; exact hdg) (lv_room hrm) (X₁.named hnamed) ⟨hcs.1, hcs.2, hpre (T.setVm vm₁) hT X₁.warmed⟩
    dsimp only [Pt.U, Pt.locs, Pt.cells, Pt.slots] at X' e1 e2 k1 k2 k3 hsteps
    subst k1; subst k2; subst k3
    exact ⟨v, (T.setVm vm₁).calling g' mk' As.toArray, t, U', L, hT, X', hL, e1, e2, hq, fun target h => hstep₁ _ fun acts => by rw [doInvoke_state]; exact hsteps.trans h⟩
  refine va_calli hrun hS (fun q _ h => hF q h) hF (fun r u t H1 locs1 ht hvm hw hB hz1 hk1 hS1 => ?_)
  obtain ⟨hP2, hD2⟩ := zjoin hP hD isC isR h2 h4 h5 h6 hF ht hB hk1 (wn := wn) isN hb.1 (hb.2.1 u) (hb.2.2 u)
  exact kk r u H1 locs1 hw hP2 hD2 hS1
end ZWR
