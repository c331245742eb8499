/-! a call that throws, and the row of the caller's table that takes what was thrown -/
section ZCA
variable {e : Env} {s : State}
/-- a row that covers the pc and names a type that can be looked up: it is noted, then the row takes the object or the rows behind it are asked -/
theorem zrow {Q : Handler → Pre} {E : CtlPost} {d : Bool} {acts : List Action} {S : State} {f : JFrame} {a : Addr} {x : ExceptionTableEntry} {t : List ExceptionTableEntry} {k : ClassId} {ce : Cell} (hcov : covers x f.pc = true) (h0 : x.catchType ≠ 0)
    (hl : S.vm.ClassLinks e.platform f.method.cls x.catchType k) (hce : S.heap[a]? = some ce) (hv : ce.vm = .none) (hk : ∃ q, S.vm.classes[ce.cls]? = some q) :
    wp (findHandler.go f a (x :: t)) Q E e d acts S ↔ if S.vm.assignable ce.cls k = true then Q (.found x.handlerPc) d acts (S.setVm (S.vm.noted f.method.cls x.catchType (.cls k))) else wp (findHandler.go f a t) Q E e d acts (S.setVm (S.vm.noted f.method.cls x.catchType (.cls k))) := by
  have hr : (decide (x.startPc ≤ f.pc) && decide (f.pc < x.endPc)) = true := hcov
  have hal := (Vm.Alike.refl S.vm).noted f.method.cls x.catchType (.cls k)
  obtain ⟨q1, hq1⟩ := hk
  obtain ⟨-, -, -, q2, -, -, -, -, -, hq2, -⟩ := hl.here
  obtain ⟨r1, hr1, -⟩ := hal.2.2 _ _ hq1
  obtain ⟨r2, hr2, -⟩ := hal.2.2 _ _ hq2
  have hob : ∀ z, ce.vm ≠ .statics z := fun z h => by rw [hv] at h; cases h
  obtain ⟨ha, htb⟩ := VmM.Gives.op (op := VmOp.resolveClass f.method.cls x.catchType) (resolveClass_links e.toSetting hl) rfl
  have hsame := hal.assignable ce.cls k
  cases hfit : S.vm.assignable ce.cls k
  · rw [hfit] at hsame
    simp [findHandler.go, hr, h0, ha, htb, hce, hob, hr1, hr2, hsame, VmOp.dirties, VmOp.acts]
  · rw [hfit] at hsame
    simp [findHandler.go, hr, h0, ha, htb, hce, hob, hr1, hr2, hsame, VmOp.dirties, VmOp.acts]
/-- the table leads an object of type cX, thrown at pc, to the handler at h: every row on the way covers pc and names a type that can be looked up -/
def zCat (e : Env) (s : State) (d : ClassId) (pc : Nat) (cX : ClassId) (h : Nat) : List ExceptionTableEntry → Prop
  | [] => False
  | x :: t => covers x pc = true ∧ x.catchType ≠ 0 ∧ ∃ k : ClassId, s.vm.ClassLinks e.platform d x.catchType k ∧ ((s.vm.assignable cX k = true ∧ x.handlerPc = h) ∨ (s.vm.assignable cX k = false ∧ zCat e s d pc cX h t))
theorem zseek {f : JFrame} {a : Addr} {ce : Cell} {h : Nat} (hv : ce.vm = .none) (hk : ∃ q, s.vm.classes[ce.cls]? = some q) : ∀ (tb : List ExceptionTableEntry) (S : State), zCat e s f.method.cls f.pc ce.cls h tb → s.WarmedH S.vm → S.heap[a]? = some ce →
    ∃ vm', s.WarmedH vm' ∧ ∀ (Q : Handler → Pre) (E : CtlPost) (d : Bool) (acts : List Action), wp (findHandler.go f a tb) Q E e d acts S ↔ Q (.found h) d acts (S.setVm vm') := by
  intro tb
  induction tb with
  | nil => intro S hc; exact hc.elim
  | cons x t ih =>
    intro S hc hW hce
    obtain ⟨hcov, h0, k, hl, hend⟩ := hc
    have hrow := fun (Q : Handler → Pre) (E : CtlPost) (d : Bool) (acts : List Action) => zrow (Q := Q) (E := E) (d := d) (acts := acts) (t := t) hcov h0 (hW.classLinks hl) hce hv (by
      obtain ⟨q, hq⟩ := hk
      obtain ⟨q', hq', -⟩ := hW.alike.2.2 _ _ hq
      exact ⟨q', hq'⟩)
    obtain ⟨dk, -, -, -, hd, -, -, -, -, -, -, hop⟩ := hl.here
    have hW2 := hW.noted hd hop (State.rightAt_cls hl)
    rcases hend with ⟨hy, rfl⟩ | ⟨hn, hrest⟩
    · exact ⟨_, hW2, fun Q E d acts => (hrow Q E d acts).trans (by rw [if_pos (by rw [hW.alike.assignable]; exact hy)])⟩
    · obtain ⟨vm', hW3, hgo⟩ := ih (S.setVm (S.vm.noted f.method.cls x.catchType (.cls k))) hrest hW2 hce
      exact ⟨vm', hW3, fun Q E d acts => (hrow Q E d acts).trans (by rw [if_neg (by rw [hW.alike.assignable, hn]; exact Bool.false_ne_true)]; exact hgo Q E d acts)⟩
/-- the first row takes it -/
theorem zcat_hd {l : Launch} {d : ClassId} {pc : Nat} {own E : String} {args : Array Value} {cX : ClassId} {x : ExceptionTableEntry} {t : List ExceptionTableEntry} (ha : l.admits e) (hown : s.vm.findClass own = some d) (hcX : s.vm.findClass E = some cX) (hcov : covers x pc = true) (h0 : x.catchType ≠ 0) (hlk : (Cond.classLink own x.catchType E).before args s = true) : zCat e s d pc cX x.handlerPc (x :: t) := by
  obtain ⟨k, hk, hl⟩ := Cond.classLink_spec hown hlk e.platform (by rw [ha.platform])
  cases hcX.symm.trans hk
  exact ⟨hcov, h0, _, hl, Or.inl ⟨va_asg _ _, rfl⟩⟩
/-- the first row names another type: the rows behind it -/
theorem zcat_tl {l : Launch} {d : ClassId} {pc : Nat} {own F : String} {args : Array Value} {cX k : ClassId} {h : Nat} {x : ExceptionTableEntry} {t : List ExceptionTableEntry} (ha : l.admits e) (hown : s.vm.findClass own = some d) (hcov : covers x pc = true) (h0 : x.catchType ≠ 0) (hlk : (Cond.classLink own x.catchType F).before args s = true) (hF : s.vm.findClass F = some k) (hno : s.vm.assignable cX k = false) (hr : zCat e s d pc cX h t) : zCat e s d pc cX h (x :: t) := by
  obtain ⟨k', hk, hl⟩ := Cond.classLink_spec hown hlk e.platform (by rw [ha.platform])
  cases hF.symm.trans hk
  exact ⟨hcov, h0, _, hl, Or.inr ⟨hno, hr⟩⟩
/-- a frame under what is thrown -/
theorem zover {T : State} {g : JFrame} {x : Frame} (ht : T.topJava?.isSome) : (T.setTop g).pushFrame x = T.setFrames (x :: .java g :: T.frames.tail) := by
  obtain ⟨g0, h0⟩ := Option.isSome_iff_exists.mp ht
  obtain ⟨r, hr⟩ := State.topJava?_eq_some.mp h0
  rw [State.pushFrame, State.frames_setTop' g ht, State.setTop_of_frames _ hr, State.setFrames_setFrames]
/-- the step into the handler -/
theorem zinto {tb : Tables} {T : State} {g : JFrame} {c : Code} {below : List Frame} {a : Addr} {h : Nat} {vm' : Vm} (hat : At T g.method c below)
    (hs : ∀ (Q : Handler → Pre) (E : CtlPost) (d : Bool) (acts : List Action), wp (findHandler g a) Q E e d acts ((T.setTop g).pushFrame (.throwing a)) ↔ Q (.found h) d acts (((T.setTop g).pushFrame (.throwing a)).setVm vm')) :
    Steps tb e below ((T.setTop g).pushFrame (.throwing a)) ((T.setVm vm').setTop { g with pc := h, stack := [.ref a] }) := by
  obtain ⟨hgo, hwi⟩ := hat.throwing a
  have hone : (stepThrowing e ((T.setTop g).pushFrame (.throwing a)) a (.java g :: T.frames.tail)).1 = (((T.setTop g).pushFrame (.throwing a)).setVm vm').setFrames (.java { g with pc := h, stack := [.ref a] } :: T.frames.tail) := by
    simp only [stepThrowing, searchFrame, vmDo]
    generalize hr : Sem.go _ e false [] ((T.setTop g).pushFrame (.throwing a)) = res
    obtain ⟨as, rfl, -⟩ := Sem.eq_ok_of hr (a := Handler.found h) (s' := ((T.setTop g).pushFrame (.throwing a)).setVm vm') (acts' := []) (by simp [hs _ _ _ _])
    rfl
  refine Steps.head hgo hwi ?_
  rw [stepThread_throwing (frames_entered hat.top _), hone]
  have hend : (((T.setTop g).pushFrame (.throwing a)).setVm vm').setFrames (.java { g with pc := h, stack := [.ref a] } :: T.frames.tail) = (T.setVm vm').setTop { g with pc := h, stack := [.ref a] } := by
    obtain ⟨g0, h0⟩ := Option.isSome_iff_exists.mp hat.top
    obtain ⟨r, hr⟩ := State.topJava?_eq_some.mp h0
    have hr' : (T.setVm vm').frames = .java g0 :: r := hr
    rw [zover hat.top, State.setTop_of_frames _ hr', hr]
    show ((T.setVm vm').setFrames _).setFrames _ = _
    rw [State.setFrames_setFrames]
    rfl
  rw [hend]
  exact Steps.refl _
end ZCA
section ZCB
variable {p : Program} {l : Launch} {e : Env} {R : Room} {s : State} {m : MethodId} {args : Array Value} {below : List Frame} {meth : Method} {c : Code} {T : State} {locs : List Loc} {cells slots : Nat} {κ : zC} {X : zXT}
set_option maxHeartbeats 1000000 in
/-- a call of a method that throws, up to where the caller's table is asked -/
theorem zthrown (Y : Stand p l e R s m args below meth c T locs cells slots) {E : String} {y : MethodName} {cy : ByteArray} {ny : Nat} {ry : Option FieldType} {fr lo sz : Nat} {av : List Value} {wc : va_W} (hM : zMetT κ X l y cy ny ry fr lo av sz wc E) (hX : zX κ X) (hR : fr + 1 ≤ R.frames ∧ 8 + (ny + 11) + lo ≤ R.locals)
    {g : JFrame} (hg : g.method = m) (hsize : g.locals.size = c.maxLocals) {ig : Instr} {len : Nat} (hdg : decode c.code g.pc = .ok (ig, len)) (hst : 2 * g.monitorRoom + (g.stack.map fun v => v.category).sum ≤ 8) {mk : MethodId} (hn : T.methodNamed? y = some mk)
    (hw : ∀ w ∈ wz y cy ny ry, w.before av.toArray T = true) (hi : (Cond.initialized y.cls).before av.toArray T = true) (hpc : va_Pc av (zPre κ X wc sz) av.toArray T) (hcs : cells + 1 ≤ R.cells ∧ slots + 6 ≤ R.slots) :
    ∃ (v : Addr) (U : State) (ce : Cell), Stand p l e R s m args below meth c U locs (cells + 1) (slots + 6) ∧ U.heap[v]? = some ce ∧ T.vm.findClass E = some ce.cls ∧ ce.vm = .none ∧ T.heap.size ≤ U.heap.size ∧ (∀ q : Nat, q < T.heap.size → U.heap[q]? = T.heap[q]?) ∧
      Steps p.tables e below (doInvoke e (T.setTop g) [] mk av.toArray).1 ((U.setTop g).pushFrame (.throwing v)) := by
  subst hg
  have hat := Y.here
  obtain ⟨mY, cY, hmY, hcY, -, hlY, -⟩ := Cond.code_spec hn (hw _ List.mem_cons_self)
  obtain ⟨kY, hkY, -⟩ := className_of_methodNamed hn
  have hiY := Cond.initialized_spec (findClass_of_methodNamed hn) hkY hi
  have hroom : (T.calling g mk av.toArray).hasRoom e.platform (zRT fr lo) = true := Y.room_calling hsize hmY hcY hR.1 (by rw [hlY]; have := hR.2; show _ + lo ≤ _; omega) hcs.1 hcs.2
  have hfr : (T.setTop g).frames = [.java g] ++ below := by rw [State.frames_setTop' g hat.top, Y.tail]; rfl
  obtain ⟨o, t, hsteps, -, hend, hto⟩ := Steps.callFree hM p Y.admits Y.cas Y.clock (acts := []) hfr (Spec.appliesLoose_calling (g := g) hat hdg hn hkY hiY hroom (atoms_intro hw)) (zBlind hX _ _ g mk hpc) trivial
  obtain ⟨v, rfl, -, ⟨ce, hce, hcl, hvm⟩, hwm, hsb⟩ := hto
  have hwT : T.WarmedH t.vm := hwm
  have hclT : T.vm.findClass E = some ce.cls := hcl
  have hft : t.frames = .throwing v :: .java g :: T.frames.tail := by
    have h9 : t.frames = .throwing v :: (T.setTop g).frames := hend
    rw [h9, State.frames_setTop' g hat.top]
  obtain ⟨g0, h0⟩ := Option.isSome_iff_exists.mp hat.top
  obtain ⟨r, hr⟩ := State.topJava?_eq_some.mp h0
  obtain ⟨th, hth, -⟩ := State.frames_cons hr
  have hself := State.setFrames_self hth
  obtain ⟨b1, b2, b3, b4, b5, b6⟩ := hsb
  have hU : t = (((({ T with heap := t.heap, slotsUsed := t.slotsUsed } : State).setVm t.vm).setTop g).pushFrame (.throwing v)) := by
    have h8 := congrArg (fun z : State => z.setVm t.vm) b1
    have h9 : t = ({ (T.calling g mk av.toArray).setFrames t.frames with heap := t.heap, slotsUsed := t.slotsUsed } : State).setVm t.vm := h8
    rw [zover (T := ({ T with heap := t.heap, slotsUsed := t.slotsUsed } : State).setVm t.vm) hat.top]
    refine h9.trans ?_
    rw [State.calling_eq hat.top, State.setFrames_setFrames, hft]
    rfl
  have hnew : T.sameButNew ((({ T with heap := t.heap, slotsUsed := t.slotsUsed } : State).setVm t.vm).setVm T.vm) [] 1 6 := by
    refine ⟨?_, b2, b3, b4, b5, b6⟩
    show ({ T with heap := t.heap, slotsUsed := t.slotsUsed } : State) = { T.setFrames T.frames with heap := t.heap, slotsUsed := t.slotsUsed }
    rw [hself]
  have Z := Y.moved (T₂ := ({ T with heap := t.heap, slotsUsed := t.slotsUsed } : State).setVm t.vm) ((hat.setHeapUsed t.heap t.slotsUsed).setVm hwT.alike) Y.tail rfl rfl hwT hnew
  rw [List.append_nil] at Z
  refine ⟨v, _, ce, Z, hce, hclT, hvm, b2, fun q hq => ?_, ?_⟩
  · obtain ⟨c', k1, k2, k3, k4⟩ := b6 q _ (Array.getElem?_eq_getElem (xs := T.heap) hq)
    have hsl : c'.slots = T.heap[q].slots := Array.ext_getElem? (fun i => k4 i List.not_mem_nil)
    have h9 : t.heap[q]? = some c' := k1
    show t.heap[q]? = T.heap[q]?
    rw [h9, k2, hsl, Array.getElem?_eq_getElem hq]
  · rw [← hU]
    exact hsteps
end ZCB
