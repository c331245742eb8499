/-! my own layer over the kit: one list of words for all methods, one shape of contract, calls that put the world back in its order -/
abbrev cl0 : List vw_C := [(R_D, F_D, 2), (R_E, F_E, 8), (R_N, F_N, 2), (R_P, F_P, 2), (R_R, F_R, 8), (R_T, F_T, 3), (R_M, F_M, 9)]
abbrev wz (y : MethodName) (cc : ByteArray) (n : Nat) (r : Option FieldType) : List Cond := Cond.code y cc n r :: T0
theorem zG {y : MethodName} {cc : ByteArray} {n : Nat} {r : Option FieldType} (h : Cond.code y cc n r ∈ T0) : GoodIn T0 (wz y cc n r) := by
  intro w hw
  rcases List.mem_cons.mp hw with rfl | hw
  · exact ⟨h, good_of_word (List.mem_filter.mp h).2⟩
  · exact ⟨hw, good_of_word (List.mem_filter.mp hw).2⟩
/-- the classes' numbers, the array classes of int, char, long; where literals and the row of powers lie -/
abbrev zC : Type := va_G × ClassId × ClassId × ClassId × (Nat → Nat)
abbrev zty (κ : zC) : List (ClassId × FieldType) := [(κ.2.1, .int), (κ.2.2.1, .char), (κ.2.2.2.1, .long)]
abbrev zK (κ : zC) (U : State) : Prop := va_K κ.1 cl0 (zty κ) U
abbrev zP (κ : zC) (ws : va_W) (H : Heap) : Prop := va_P κ.1 cl0 ws H
/-- what is read only (statics, literals): kept by all that writes elsewhere -/
abbrev zXT : Type := (Nat → Prop) → State → Heap → Prop
def zX0 (X : zXT) : Prop := (∀ A (u U : State) H, u.WarmedH U.vm → X A u H → X A U H) ∧ (∀ A (u U : State) H, U.vm = u.vm → X A u H → X A U H) ∧ (∀ A U (H H1 : Heap), (∀ a : Nat, a < H.size → ¬ A a → H1[a]? = H[a]?) → X A U H → X A U H1) ∧ (∀ (A B : Nat → Prop) U H, (∀ q, B q → A q) → X A U H → X B U H)
def zSt (a v : Nat) (bs : List Int32) (A : Nat → Prop) (U : State) (H : Heap) : Prop := va_O "java/lang/String" a A U H ∧ va_OF "java/lang/String" "coder" "B" (.int 0) a A U H ∧ va_OF "java/lang/String" "value" "[B" (.ref v) a A U H ∧ va_T .byte v bs.length (fun j => .int (bs.getD j 0)) A U H
def zX1 (κ : zC) (X : zXT) (av : Nat → Nat) : Prop := ∀ (A : Nat → Prop) (U : State) (H : Heap), X A U H → va_Z "DoubleBits$Natural" "POWERS_OF_TEN" "[I" (.ref (κ.2.2.2.2 5)) A U H ∧ va_T .int (κ.2.2.2.2 5) 10 (fun j => .int (zpow j)) A U H ∧ va_Z "java/lang/String" "COMPACT_STRINGS" "Z" (.int 1) A U H ∧ (∃ v : Value, (v = .null ∨ ∃ a : Nat, v = .ref a) ∧ va_Z "jdk/internal/util/Preconditions" "SIOOBE_FORMATTER" "Ljava/util/function/BiFunction;" v A U H) ∧
  (∀ w : Nat, w < 5 → zSt (κ.2.2.2.2 w) (av w) (zsb w) A U H) ∧ vk_R R_R 86 "Infinity" (κ.2.2.2.2 0) U ∧ vk_R R_T 47 "NaN" (κ.2.2.2.2 1) U ∧ vk_R R_T 63 "Infinity" (κ.2.2.2.2 2) U ∧ vk_R R_M 160 "Infinity" (κ.2.2.2.2 3) U ∧ vk_R R_M 191 "NaN" (κ.2.2.2.2 4) U
def zX (κ : zC) (X : zXT) : Prop := zX0 X ∧ ∃ av : Nat → Nat, zX1 κ X av
def zPre (κ : zC) (X : zXT) (ws : va_W) (sz : Nat) : State → Prop := fun U => U.heap.size = sz ∧ zP κ ws U.heap ∧ zK κ U ∧ va_D (fun _ => True) ws ∧ X (va_A ws sz) U U.heap
def zB {S : Type} (κ : zC) (A : Nat → Prop) (f : S → va_W) : S → State → Prop := fun u t => zP κ (f u) t.heap ∧ zK κ t ∧ va_D A (f u)
abbrev zR (fr lo : Nat) : Room := { frames := fr, cells := 0, slots := 0, locals := lo }
def zMet (κ : zC) (X : zXT) (l : Launch) (y : MethodName) (cc : ByteArray) (n : Nat) (r : Option FieldType) (fr lo : Nat) (av : List Value) (sz : Nat) (ws : va_W) (Qc : (Nat → Prop) → Array Value → State → Outcome → State → Prop) : Prop :=
  Met l y (wz y cc n r) (zR fr lo) (va_Pc av (zPre κ X ws sz)) (Qc (va_A ws sz)) 0 0 (va_A ws sz)
abbrev zQi {S : Type} (κ : zC) (post : Int32 → S → Prop) (f : S → va_W) : (Nat → Prop) → Array Value → State → Outcome → State → Prop := fun A => va_Qi post (zB κ A f) A
abbrev zQl {S : Type} (κ : zC) (post : Int64 → S → Prop) (f : S → va_W) : (Nat → Prop) → Array Value → State → Outcome → State → Prop := fun A => va_Ql post (zB κ A f) A
abbrev zQv {S : Type} (κ : zC) (post : S → Prop) (f : S → va_W) : (Nat → Prop) → Array Value → State → Outcome → State → Prop := fun A => va_Qv post (zB κ A f) A
theorem zBlind {κ : zC} {X : zXT} (hX : zX κ X) {av : List Value} {ws : va_W} {sz : Nat} : FrameBlind (va_Pc av (zPre κ X ws sz)) := by
  intro a U g mk q
  obtain ⟨q0, q1, qP, qK, qD, qX⟩ := q
  exact ⟨q0, q1, qP, va_K.moved (u := U) (U := U.calling g mk a) (Vm.Alike.refl U.vm) qK, qD, hX.1.2.1 _ U _ _ rfl qX⟩
theorem zMet.of {κ : zC} {X : zXT} {l : Launch} {y : MethodName} {cc : ByteArray} {n : Nat} {r : Option FieldType} {fr lo : Nat} {av : List Value} {sz : Nat} {ws : va_W} {Qc : (Nat → Prop) → Array Value → State → Outcome → State → Prop}
    (hy : plainName y.cls = true) (hn : (lg_sl av).length ≤ n)
    (body : ∀ (p : Program) (e : Env) (s : State) (m : MethodId) (below : List Frame) (meth : Method) (c : Code) (ls : Array Slot) (A : Nat → Prop), p.tables.exec = Jvm.exec → c.code = cc → meth.sig.returnType = r → c.maxLocals = n → (∀ w ∈ T0, w.before av.toArray s = true) → s.vm.findClass y.cls = some m.cls → meth.locks = false → meth.name = y.name →
      zK κ s → zP κ ws s.heap → va_D A ws → (∀ q : Nat, s.heap.size ≤ q → A q) → X A s s.heap → va_S A s.heap s.heap [] → lv_has ls n (lv_args 0 av) → W p l e (zR fr lo) s m av.toArray below meth c s.heap [] 0 0 (MQ below (Qc A) av.toArray s 0 0 A) (F0 m 0 ls [])) :
    zMet κ X l y cc n r fr lo av sz ws Qc := by
  refine Met.ofW (cc := cc) (maxL := n) (ret := r) hy rfl ?_
  intro p e s m args below meth c s₁ B hml hv
  obtain ⟨rfl, hsz, hP, hK, hD0, hXs⟩ := hv
  subst hsz
  rw [lg_entry_eq]
  exact body p e s m below meth c _ _ B.exec B.bytes B.returns hml (fun w hw => atoms_spec (ws := wz y cc n r) B.pre w (List.mem_cons_of_mem _ hw)) (findClass_of_methodNamed B.named) B.notSynchronized (name_of_methodNamed B.named B.method).1 hK hP (hD0.self (sz := s.heap.size)) (fun q h => Or.inr h) hXs va_S.rf (lv_entry av hn)
section ZR
variable {p : Program} {l : Launch} {e : Env} {R : Room} {s : State} {m : MethodId} {args : Array Value} {below : List Frame} {meth : Method} {c : Code} {H : Heap} {locs : List Loc} {cells slots : Nat} {cc : ByteArray} {pc : Nat} {ls : Array Slot} {κ : zC} {A : Nat → Prop}
theorem zretI {S : Type} {post : Int32 → S → Prop} {f : S → va_W} {v : Int32} (u : S) (hx : p.tables.exec = Jvm.exec) (hb : c.code = cc) (hr : meth.sig.returnType = some .int) (hlocks : meth.locks = false) (hK : zK κ s) (hP : zP κ (f u) H) (hD : va_D A (f u)) (hS : va_S A s.heap H locs) (hp : post v u) (hd : decode cc pc = .ok (.ireturn, 1)) :
    W p l e R s m args below meth c H locs cells slots (MQ below (zQi κ post f A) args s cells slots A) (F0 m pc ls [.int v]) :=
  W.iret hx hb hr (fun t ht hW => ⟨⟨v, u, rfl, hp, by rw [ht]; exact hP, va_K.moved hW.alike hK, hD⟩, hS.F ht⟩) hS.2.2 hd
theorem zretZ {S : Type} {post : Int32 → S → Prop} {f : S → va_W} {v : Int32} {ty : FieldType} (u : S) (hx : p.tables.exec = Jvm.exec) (hb : c.code = cc) (hr : meth.sig.returnType = some ty) (hlocks : meth.locks = false) (hn : narrow ty (.int v) = .int v) (hK : zK κ s) (hP : zP κ (f u) H) (hD : va_D A (f u)) (hS : va_S A s.heap H locs) (hp : post v u) (hd : decode cc pc = .ok (.ireturn, 1)) :
    W p l e R s m args below meth c H locs cells slots (MQ below (zQi κ post f A) args s cells slots A) (F0 m pc ls [.int v]) :=
  W.zret hx hb hr hn (fun t ht hW => ⟨⟨v, u, rfl, hp, by rw [ht]; exact hP, va_K.moved hW.alike hK, hD⟩, hS.F ht⟩) hS.2.2 hd
theorem zretL {S : Type} {post : Int64 → S → Prop} {f : S → va_W} {v : Int64} (u : S) (hx : p.tables.exec = Jvm.exec) (hb : c.code = cc) (hr : meth.sig.returnType = some .long) (hlocks : meth.locks = false) (hK : zK κ s) (hP : zP κ (f u) H) (hD : va_D A (f u)) (hS : va_S A s.heap H locs) (hp : post v u) (hd : decode cc pc = .ok (.lreturn, 1)) :
    W p l e R s m args below meth c H locs cells slots (MQ below (zQl κ post f A) args s cells slots A) (F0 m pc ls [.long v]) :=
  W.lret hx hb hr (fun t ht hW => ⟨⟨v, u, rfl, hp, by rw [ht]; exact hP, va_K.moved hW.alike hK, hD⟩, hS.F ht⟩) hS.2.2 hd
theorem zretV {S : Type} {post : S → Prop} {f : S → va_W} (u : S) (hx : p.tables.exec = Jvm.exec) (hb : c.code = cc) (hr : meth.sig.returnType = none) (hlocks : meth.locks = false) (hK : zK κ s) (hP : zP κ (f u) H) (hD : va_D A (f u)) (hS : va_S A s.heap H locs) (hp : post u) (hd : decode cc pc = .ok (.return_, 1)) :
    W p l e R s m args below meth c H locs cells slots (MQ below (zQv κ post f A) args s cells slots A) (F0 m pc ls []) :=
  W.vret hx hb hr (fun t ht hW => ⟨⟨u, rfl, hp, by rw [ht]; exact hP, va_K.moved hW.alike hK, hD⟩, hS.F ht⟩) hS.2.2 hd
end ZR
/-- which words a call needs -/
def zNS (own : String) (idx : Nat) (y : MethodName) (cy : ByteArray) (ny : Nat) (ry : Option FieldType) (n : Nat) : Prop := Cond.code y cy ny ry ∈ T0 ∧ Cond.initialized y.cls ∈ T0 ∧ Cond.methodLink own idx y ∈ T0 ∧ Cond.static y ∈ T0 ∧ (y.cls ≠ "java/lang/invoke/MethodHandle" ∧ y.cls ≠ "java/lang/invoke/VarHandle" ∧ (parseMethodDescriptor y.desc).map (fun d => d.parameters.length) = some n)
def zNV (own : String) (idx : Nat) (y : MethodName) (cy : ByteArray) (ny : Nat) (ry : Option FieldType) (n : Nat) : Prop := Cond.code y cy ny ry ∈ T0 ∧ Cond.initialized y.cls ∈ T0 ∧ Cond.methodLink own idx y ∈ T0 ∧ Cond.instanceMethod y ∈ T0 ∧ Cond.selects y.cls y y ∈ T0 ∧ (y.cls ≠ "java/lang/invoke/MethodHandle" ∧ y.cls ≠ "java/lang/invoke/VarHandle" ∧ (parseMethodDescriptor y.desc).map (fun d => d.parameters.length) = some n)
section ZC
variable {p : Program} {l : Launch} {e : Env} {R : Room} {s : State} {m : MethodId} {args : Array Value} {below : List Frame} {meth : Method} {c : Code} {H : Heap} {locs : List Loc} {cells slots : Nat} {cc : ByteArray} {pc nL : Nat} {ls : Array Slot} {κ : zC} {A : Nat → Prop} {X : zXT} {own : String} {Q : State → Prop}
/-- what stands fast in a method's walk -/
abbrev zFix (p : Program) (m : MethodId) (c : Code) (cc : ByteArray) (nL : Nat) (s : State) (args : Array Value) (own : String) : Prop := CallFix p m c cc nL s args T0 own
theorem zprep (hX : zX κ X) (hXs : X A s s.heap) (hK : zK κ s) {ws wc : va_W} (hP : zP κ ws H) (hD : va_D A ws) (hS : va_S A s.heap H locs) (hA : ∀ q : Nat, s.heap.size ≤ q → A q) (isC : List Nat) (hn : va_nd isC = true) (hC : isC.map (fun i => ws[i]?) = wc.map some) (hC2 : isC.filterMap (fun i => ws[i]?) = wc) (av : List Value) :
    (∀ q, va_A wc H.size q → A q) ∧ ∀ U : State, U.heap = H → s.WarmedH U.vm → va_Pc av (zPre κ X wc H.size) av.toArray U := by
  have hF := va_free (wc := wc) hD hS hA isC hC
  refine ⟨hF, fun U hU hW => ⟨rfl, by rw [hU], by rw [hU]; exact hP.sub isC hC2, va_K.moved hW.alike hK, (hD.sub isC hn hC).weaken (fun _ _ _ _ => trivial), ?_⟩⟩
  rw [hU]
  exact hX.1.1 _ _ _ _ hW (hX.1.2.2.2 _ _ _ _ hF (hX.1.2.2.1 _ _ _ _ (fun a h1 h2 => hS.2.1 a h1 h2) hXs))
theorem zjoin {S : Type} {f : S → va_W} {ws wc wr : va_W} (hP : zP κ ws H) (hD : va_D A ws) (isC isR : List Nat) (hC : isC.map (fun i => ws[i]?) = wc.map some) (hR : isR.map (fun i => ws[i]?) = wr.map some) (hn : va_nd isR = true) (hdis : ∀ i ∈ isR, i ∉ isC) (hF : ∀ q, va_A wc H.size q → A q) {u : S} {t : State} {H1 : Heap} (ht : t.heap = H1) (hB : zB κ (va_A wc H.size) f u t) (hk : ∀ q : Nat, q < H.size → ¬ va_A wc H.size q → H1[q]? = H[q]?)
    {wn : S → va_W} (isN : List Nat) (hnN : va_nd isN = true) (hN : isN.map (fun i => (wr ++ f u)[i]?) = (wn u).map some) (hN2 : isN.filterMap (fun i => (wr ++ f u)[i]?) = wn u) : zP κ (wn u) H1 ∧ va_D A (wn u) := by
  obtain ⟨hP1, hK1, hD1⟩ := hB
  rw [ht] at hP1
  obtain ⟨h1, h2⟩ := va_join (wr := wr) (w1 := f u) hP hD isC isR hC hR hn hdis hk hF hP1 hD1
  exact ⟨h1.sub isN hN2, h2.sub isN hnN hN⟩
def zIdx (ws wc wr : va_W) (isC isR : List Nat) : Prop := va_nd isC = true ∧ isC.map (fun i => ws[i]?) = wc.map some ∧ isC.filterMap (fun i => ws[i]?) = wc ∧ isR.map (fun i => ws[i]?) = wr.map some ∧ va_nd isR = true ∧ ∀ i ∈ isR, i ∉ isC
def zBk {S : Type} (wr : va_W) (f wn : S → va_W) (isN : List Nat) : Prop := va_nd isN = true ∧ (∀ u : S, isN.map (fun i => (wr ++ f u)[i]?) = (wn u).map some) ∧ ∀ u : S, isN.filterMap (fun i => (wr ++ f u)[i]?) = wn u
theorem zSi {S : Type} {y : MethodName} {cy : ByteArray} {ny : Nat} {ry : Option FieldType} {n fr lo idx : Nat} {As rest st0 : List Value} {ws wc wr : va_W} {post : Int32 → S → Prop} {f wn : S → va_W} {isC isR isN : List Nat} (S0 : zFix p m c cc nL s args own) (hN : zNS own idx y cy ny ry n) (hM : zMet κ X l y cy ny ry fr lo As H.size wc (zQi κ post f)) (hX : zX κ X) (hXs : X A s s.heap) (hK : zK κ s) (hA : ∀ q : Nat, s.heap.size ≤ q → A q) (hP : zP κ ws H) (hD : va_D A ws) (hS : va_S A s.heap H locs)
    (hR : fr + 1 ≤ R.frames ∧ 8 + (ny + 11) + lo ≤ R.locals) (hI : zIdx ws wc wr isC isR) (hb : zBk wr f wn isN) (hn : As.length = n) (hsize : ls.size = nL) (hst : st0 = As.reverse ++ rest) (hrm : (rest.map fun v => v.category).sum ≤ 8) (hcs : cells + 0 ≤ R.cells ∧ slots + 0 ≤ R.slots) (hdg : decode cc pc = .ok (.invokestatic idx, 3))
    (kk : ∀ (r : Int32) (u : S) (H1 : Heap) (locs1 : List Loc), post r u → zP κ (wn u) H1 → va_D A (wn u) → va_S A s.heap H1 locs1 → W p l e R s m args below meth c H1 locs1 cells slots Q (F0 m (pc + 3) ls (.int r :: rest))) : W p l e R s m args below meth c H locs cells slots Q (F0 m pc ls st0) := by
  obtain ⟨h1, h2, h3, h4, h5, h6⟩ := hI
  obtain ⟨hF, hpre⟩ := zprep hX hXs hK hP hD hS hA isC h1 h2 h3 As
  obtain ⟨hco, hin, hml, hst1, hd⟩ := hN
  have cw := callB_of (R := R) (s := s) (args := args) (rm := zR fr lo) (mc := 0) (ms := 0) n S0.2.2.2.2 (zG hco) rfl rfl rfl (S0.2.2.2.2 _ hin) (S0.2.2.2.2 _ hml) hd hR
  refine va_calli (va_runS (rest := rest) (As := As) S0 hM ⟨cw, S0.2.2.2.2 _ hst1⟩ ⟨zBlind hX, hpre⟩ rfl hn hsize hst (lv_room hrm) hdg ⟨hcs.1, hcs.2⟩) hS (fun q _ h => hF q h) hF (fun r u t H1 locs1 ht hvm hw hB hz1 hk1 hS1 => ?_)
  obtain ⟨hP2, hD2⟩ := zjoin hP hD isC isR h2 h4 h5 h6 hF ht hB hk1 (wn := wn) isN hb.1 (hb.2.1 u) (hb.2.2 u)
  exact kk r u H1 locs1 hw hP2 hD2 hS1
theorem zSl {S : Type} {y : MethodName} {cy : ByteArray} {ny : Nat} {ry : Option FieldType} {n fr lo idx : Nat} {As rest st0 : List Value} {ws wc wr : va_W} {post : Int64 → S → Prop} {f wn : S → va_W} {isC isR isN : List Nat} (S0 : zFix p m c cc nL s args own) (hN : zNS own idx y cy ny ry n) (hM : zMet κ X l y cy ny ry fr lo As H.size wc (zQl κ post f)) (hX : zX κ X) (hXs : X A s s.heap) (hK : zK κ s) (hA : ∀ q : Nat, s.heap.size ≤ q → A q) (hP : zP κ ws H) (hD : va_D A ws) (hS : va_S A s.heap H locs)
    (hR : fr + 1 ≤ R.frames ∧ 8 + (ny + 11) + lo ≤ R.locals) (hI : zIdx ws wc wr isC isR) (hb : zBk wr f wn isN) (hn : As.length = n) (hsize : ls.size = nL) (hst : st0 = As.reverse ++ rest) (hrm : (rest.map fun v => v.category).sum ≤ 8) (hcs : cells + 0 ≤ R.cells ∧ slots + 0 ≤ R.slots) (hdg : decode cc pc = .ok (.invokestatic idx, 3))
    (kk : ∀ (r : Int64) (u : S) (H1 : Heap) (locs1 : List Loc), post r u → zP κ (wn u) H1 → va_D A (wn u) → va_S A s.heap H1 locs1 → W p l e R s m args below meth c H1 locs1 cells slots Q (F0 m (pc + 3) ls (.long r :: rest))) : W p l e R s m args below meth c H locs cells slots Q (F0 m pc ls st0) := by
  obtain ⟨h1, h2, h3, h4, h5, h6⟩ := hI
  obtain ⟨hF, hpre⟩ := zprep hX hXs hK hP hD hS hA isC h1 h2 h3 As
  obtain ⟨hco, hin, hml, hst1, hd⟩ := hN
  have cw := callB_of (R := R) (s := s) (args := args) (rm := zR fr lo) (mc := 0) (ms := 0) n S0.2.2.2.2 (zG hco) rfl rfl rfl (S0.2.2.2.2 _ hin) (S0.2.2.2.2 _ hml) hd hR
  refine va_calll (va_runS (rest := rest) (As := As) S0 hM ⟨cw, S0.2.2.2.2 _ hst1⟩ ⟨zBlind hX, hpre⟩ rfl hn hsize hst (lv_room hrm) hdg ⟨hcs.1, hcs.2⟩) hS (fun q _ h => hF q h) hF (fun r u t H1 locs1 ht hvm hw hB hz1 hk1 hS1 => ?_)
  obtain ⟨hP2, hD2⟩ := zjoin hP hD isC isR h2 h4 h5 h6 hF ht hB hk1 (wn := wn) isN hb.1 (hb.2.1 u) (hb.2.2 u)
  exact kk r u H1 locs1 hw hP2 hD2 hS1
theorem zSv {S : Type} {y : MethodName} {cy : ByteArray} {ny : Nat} {ry : Option FieldType} {n fr lo idx : Nat} {As rest st0 : List Value} {ws wc wr : va_W} {post : S → Prop} {f wn : S → va_W} {isC isR isN : List Nat} (S0 : zFix p m c cc nL s args own) (hN : zNS own idx y cy ny ry n) (hM : zMet κ X l y cy ny ry fr lo As H.size wc (zQv κ post f)) (hX : zX κ X) (hXs : X A s s.heap) (hK : zK κ s) (hA : ∀ q : Nat, s.heap.size ≤ q → A q) (hP : zP κ ws H) (hD : va_D A ws) (hS : va_S A s.heap H locs)
    (hR : fr + 1 ≤ R.frames ∧ 8 + (ny + 11) + lo ≤ R.locals) (hI : zIdx ws wc wr isC isR) (hb : zBk wr f wn isN) (hn : As.length = n) (hsize : ls.size = nL) (hst : st0 = As.reverse ++ rest) (hrm : (rest.map fun v => v.category).sum ≤ 8) (hcs : cells + 0 ≤ R.cells ∧ slots + 0 ≤ R.slots) (hdg : decode cc pc = .ok (.invokestatic idx, 3))
    (kk : ∀ (u : S) (H1 : Heap) (locs1 : List Loc), post u → zP κ (wn u) H1 → va_D A (wn u) → va_S A s.heap H1 locs1 → W p l e R s m args below meth c H1 locs1 cells slots Q (F0 m (pc + 3) ls (rest))) : W p l e R s m args below meth c H locs cells slots Q (F0 m pc ls st0) := by
  obtain ⟨h1, h2, h3, h4, h5, h6⟩ := hI
  obtain ⟨hF, hpre⟩ := zprep hX hXs hK hP hD hS hA isC h1 h2 h3 As
  obtain ⟨hco, hin, hml, hst1, hd⟩ := hN
  have cw := callB_of (R := R) (s := s) (args := args) (rm := zR fr lo) (mc := 0) (ms := 0) n S0.2.2.2.2 (zG hco) rfl rfl rfl (S0.2.2.2.2 _ hin) (S0.2.2.2.2 _ hml) hd hR
  refine va_callv (va_runS (rest := rest) (As := As) S0 hM ⟨cw, S0.2.2.2.2 _ hst1⟩ ⟨zBlind hX, hpre⟩ rfl hn hsize hst (lv_room hrm) hdg ⟨hcs.1, hcs.2⟩) hS (fun q _ h => hF q h) hF (fun u t H1 locs1 ht hvm hw hB hz1 hk1 hS1 => ?_)
  obtain ⟨hP2, hD2⟩ := zjoin hP hD isC isR h2 h4 h5 h6 hF ht hB hk1 (wn := wn) isN hb.1 (hb.2.1 u) (hb.2.2 u)
  exact kk u H1 locs1 hw hP2 hD2 hS1
theorem zVi {S : Type} {y : MethodName} {cy : ByteArray} {ny : Nat} {ry : Option FieldType} {n fr lo idx : Nat} {b : Nat} {As rest st0 : List Value} {ws wc wr : va_W} {post : Int32 → S → Prop} {f wn : S → va_W} {isC isR isN : List Nat} (S0 : zFix p m c cc nL s args own) (hN : zNV own idx y cy ny ry n) (hM : zMet κ X l y cy ny ry fr lo (.ref b :: As) H.size wc (zQi κ post f)) (hX : zX κ X) (hXs : X A s s.heap) (hK : zK κ s) (hA : ∀ q : Nat, s.heap.size ≤ q → A q) (hP : zP κ ws H) (hD : va_D A ws) (hS : va_S A s.heap H locs)
    (hR : fr + 1 ≤ R.frames ∧ 8 + (ny + 11) + lo ≤ R.locals) (hI : zIdx ws wc wr isC isR) (hb : zBk wr f wn isN) {ci : Nat} {qc : vw_C} {fs : List Value} (hci : cl0[ci]? = some qc) (hqc : qc.1 = y.cls) (he : wc[0]? = some (b, .inr (ci, fs))) (hn : As.length = n) (hsize : ls.size = nL) (hst : st0 = As.reverse ++ .ref b :: rest) (hrm : (rest.map fun v => v.category).sum ≤ 8) (hcs : cells + 0 ≤ R.cells ∧ slots + 0 ≤ R.slots) (hdg : decode cc pc = .ok (.invokevirtual idx, 3))
    (kk : ∀ (r : Int32) (u : S) (H1 : Heap) (locs1 : List Loc), post r u → zP κ (wn u) H1 → va_D A (wn u) → va_S A s.heap H1 locs1 → W p l e R s m args below meth c H1 locs1 cells slots Q (F0 m (pc + 3) ls (.int r :: rest))) : W p l e R s m args below meth c H locs cells slots Q (F0 m pc ls st0) := by
  obtain ⟨h1, h2, h3, h4, h5, h6⟩ := hI
  obtain ⟨hF, hpre⟩ := zprep hX hXs hK hP hD hS hA isC h1 h2 h3 (.ref b :: As)
  obtain ⟨hco, hin, hml, him, hse, hd⟩ := hN
  have cw := callB_of (R := R) (s := s) (args := args) (rm := zR fr lo) (mc := 0) (ms := 0) n S0.2.2.2.2 (zG hco) rfl rfl rfl (S0.2.2.2.2 _ hin) (S0.2.2.2.2 _ hml) hd hR
  have hrecv := va_recv hK (hP.sub isC h3) hci he
  rw [hqc] at hrecv
  refine va_calli (va_runV (rest := rest) (As := As) S0 hM ⟨cw, S0.2.2.2.2 _ him, S0.2.2.2.2 _ hse⟩ ⟨zBlind hX, hrecv, hpre⟩ rfl hn hsize hst (lv_room hrm) hdg ⟨hcs.1, hcs.2⟩) hS (fun q _ h => hF q h) hF (fun r u t H1 locs1 ht hvm hw hB hz1 hk1 hS1 => ?_)
  obtain ⟨hP2, hD2⟩ := zjoin hP hD isC isR h2 h4 h5 h6 hF ht hB hk1 (wn := wn) isN hb.1 (hb.2.1 u) (hb.2.2 u)
  exact kk r u H1 locs1 hw hP2 hD2 hS1
theorem zVs {S : Type} {y : MethodName} {cy : ByteArray} {ny : Nat} {ry : Option FieldType} {n fr lo idx : Nat} {b : Nat} {As rest st0 : List Value} {ws wc wr : va_W} {post : Int32 → S → Prop} {f wn : S → va_W} {isC isR isN : List Nat} (S0 : zFix p m c cc nL s args own) (hN : zNV own idx y cy ny ry n) (hM : zMet κ X l y cy ny ry fr lo (.ref b :: As) H.size wc (zQi κ post f)) (hX : zX κ X) (hXs : X A s s.heap) (hK : zK κ s) (hA : ∀ q : Nat, s.heap.size ≤ q → A q) (hP : zP κ ws H) (hD : va_D A ws) (hS : va_S A s.heap H locs)
    (hR : fr + 1 ≤ R.frames ∧ 8 + (ny + 11) + lo ≤ R.locals) (hI : zIdx ws wc wr isC isR) (hb : zBk wr f wn isN) (hrec : va_O y.cls b A s s.heap) (hn : As.length = n) (hsize : ls.size = nL) (hst : st0 = As.reverse ++ .ref b :: rest) (hrm : (rest.map fun v => v.category).sum ≤ 8) (hcs : cells + 0 ≤ R.cells ∧ slots + 0 ≤ R.slots) (hdg : decode cc pc = .ok (.invokevirtual idx, 3))
    (kk : ∀ (r : Int32) (u : S) (H1 : Heap) (locs1 : List Loc), post r u → zP κ (wn u) H1 → va_D A (wn u) → va_S A s.heap H1 locs1 → W p l e R s m args below meth c H1 locs1 cells slots Q (F0 m (pc + 3) ls (.int r :: rest))) : W p l e R s m args below meth c H locs cells slots Q (F0 m pc ls st0) := by
  obtain ⟨h1, h2, h3, h4, h5, h6⟩ := hI
  obtain ⟨hF, hpre⟩ := zprep hX hXs hK hP hD hS hA isC h1 h2 h3 (.ref b :: As)
  obtain ⟨hco, hin, hml, him, hse, hd⟩ := hN
  have cw := callB_of (R := R) (s := s) (args := args) (rm := zR fr lo) (mc := 0) (ms := 0) n S0.2.2.2.2 (zG hco) rfl rfl rfl (S0.2.2.2.2 _ hin) (S0.2.2.2.2 _ hml) hd hR
  have hrecv : ∃ cell : Cell, H[b]? = some cell ∧ cell.vm.isStatics = false ∧ s.vm.findClass y.cls = some cell.cls := by
    obtain ⟨cell, q1, q2, q3, q4⟩ := hrec.kept hS.2.1
    exact ⟨cell, q1, q2, q3⟩
  refine va_calli (va_runV (rest := rest) (As := As) S0 hM ⟨cw, S0.2.2.2.2 _ him, S0.2.2.2.2 _ hse⟩ ⟨zBlind hX, hrecv, hpre⟩ rfl hn hsize hst (lv_room hrm) hdg ⟨hcs.1, hcs.2⟩) hS (fun q _ h => hF q h) hF (fun r u t H1 locs1 ht hvm hw hB hz1 hk1 hS1 => ?_)
  obtain ⟨hP2, hD2⟩ := zjoin hP hD isC isR h2 h4 h5 h6 hF ht hB hk1 (wn := wn) isN hb.1 (hb.2.1 u) (hb.2.2 u)
  exact kk r u H1 locs1 hw hP2 hD2 hS1
theorem zVl {S : Type} {y : MethodName} {cy : ByteArray} {ny : Nat} {ry : Option FieldType} {n fr lo idx : Nat} {b : Nat} {As rest st0 : List Value} {ws wc wr : va_W} {post : Int64 → S → Prop} {f wn : S → va_W} {isC isR isN : List Nat} (S0 : zFix p m c cc nL s args own) (hN : zNV own idx y cy ny ry n) (hM : zMet κ X l y cy ny ry fr lo (.ref b :: As) H.size wc (zQl κ post f)) (hX : zX κ X) (hXs : X A s s.heap) (hK : zK κ s) (hA : ∀ q : Nat, s.heap.size ≤ q → A q) (hP : zP κ ws H) (hD : va_D A ws) (hS : va_S A s.heap H locs)
    (hR : fr + 1 ≤ R.frames ∧ 8 + (ny + 11) + lo ≤ R.locals) (hI : zIdx ws wc wr isC isR) (hb : zBk wr f wn isN) {ci : Nat} {qc : vw_C} {fs : List Value} (hci : cl0[ci]? = some qc) (hqc : qc.1 = y.cls) (he : wc[0]? = some (b, .inr (ci, fs))) (hn : As.length = n) (hsize : ls.size = nL) (hst : st0 = As.reverse ++ .ref b :: rest) (hrm : (rest.map fun v => v.category).sum ≤ 8) (hcs : cells + 0 ≤ R.cells ∧ slots + 0 ≤ R.slots) (hdg : decode cc pc = .ok (.invokevirtual idx, 3))
    (kk : ∀ (r : Int64) (u : S) (H1 : Heap) (locs1 : List Loc), post r u → zP κ (wn u) H1 → va_D A (wn u) → va_S A s.heap H1 locs1 → W p l e R s m args below meth c H1 locs1 cells slots Q (F0 m (pc + 3) ls (.long r :: rest))) : W p l e R s m args below meth c H locs cells slots Q (F0 m pc ls st0) := by
  obtain ⟨h1, h2, h3, h4, h5, h6⟩ := hI
  obtain ⟨hF, hpre⟩ := zprep hX hXs hK hP hD hS hA isC h1 h2 h3 (.ref b :: As)
  obtain ⟨hco, hin, hml, him, hse, hd⟩ := hN
  have cw := callB_of (R := R) (s := s) (args := args) (rm := zR fr lo) (mc := 0) (ms := 0) n S0.2.2.2.2 (zG hco) rfl rfl rfl (S0.2.2.2.2 _ hin) (S0.2.2.2.2 _ hml) hd hR
  have hrecv := va_recv hK (hP.sub isC h3) hci he
  rw [hqc] at hrecv
  refine va_calll (va_runV (rest := rest) (As := As) S0 hM ⟨cw, S0.2.2.2.2 _ him, S0.2.2.2.2 _ hse⟩ ⟨zBlind hX, hrecv, hpre⟩ rfl hn hsize hst (lv_room hrm) hdg ⟨hcs.1, hcs.2⟩) hS (fun q _ h => hF q h) hF (fun r u t H1 locs1 ht hvm hw hB hz1 hk1 hS1 => ?_)
  obtain ⟨hP2, hD2⟩ := zjoin hP hD isC isR h2 h4 h5 h6 hF ht hB hk1 (wn := wn) isN hb.1 (hb.2.1 u) (hb.2.2 u)
  exact kk r u H1 locs1 hw hP2 hD2 hS1
theorem zVv {S : Type} {y : MethodName} {cy : ByteArray} {ny : Nat} {ry : Option FieldType} {n fr lo idx : Nat} {b : Nat} {As rest st0 : List Value} {ws wc wr : va_W} {post : S → Prop} {f wn : S → va_W} {isC isR isN : List Nat} (S0 : zFix p m c cc nL s args own) (hN : zNV own idx y cy ny ry n) (hM : zMet κ X l y cy ny ry fr lo (.ref b :: As) H.size wc (zQv κ post f)) (hX : zX κ X) (hXs : X A s s.heap) (hK : zK κ s) (hA : ∀ q : Nat, s.heap.size ≤ q → A q) (hP : zP κ ws H) (hD : va_D A ws) (hS : va_S A s.heap H locs)
    (hR : fr + 1 ≤ R.frames ∧ 8 + (ny + 11) + lo ≤ R.locals) (hI : zIdx ws wc wr isC isR) (hb : zBk wr f wn isN) {ci : Nat} {qc : vw_C} {fs : List Value} (hci : cl0[ci]? = some qc) (hqc : qc.1 = y.cls) (he : wc[0]? = some (b, .inr (ci, fs))) (hn : As.length = n) (hsize : ls.size = nL) (hst : st0 = As.reverse ++ .ref b :: rest) (hrm : (rest.map fun v => v.category).sum ≤ 8) (hcs : cells + 0 ≤ R.cells ∧ slots + 0 ≤ R.slots) (hdg : decode cc pc = .ok (.invokevirtual idx, 3))
    (kk : ∀ (u : S) (H1 : Heap) (locs1 : List Loc), post u → zP κ (wn u) H1 → va_D A (wn u) → va_S A s.heap H1 locs1 → W p l e R s m args below meth c H1 locs1 cells slots Q (F0 m (pc + 3) ls (rest))) : W p l e R s m args below meth c H locs cells slots Q (F0 m pc ls st0) := by
  obtain ⟨h1, h2, h3, h4, h5, h6⟩ := hI
  obtain ⟨hF, hpre⟩ := zprep hX hXs hK hP hD hS hA isC h1 h2 h3 (.ref b :: As)
  obtain ⟨hco, hin, hml, him, hse, hd⟩ := hN
  have cw := callB_of (R := R) (s := s) (args := args) (rm := zR fr lo) (mc := 0) (ms := 0) n S0.2.2.2.2 (zG hco) rfl rfl rfl (S0.2.2.2.2 _ hin) (S0.2.2.2.2 _ hml) hd hR
  have hrecv := va_recv hK (hP.sub isC h3) hci he
  rw [hqc] at hrecv
  refine va_callv (va_runV (rest := rest) (As := As) S0 hM ⟨cw, S0.2.2.2.2 _ him, S0.2.2.2.2 _ hse⟩ ⟨zBlind hX, hrecv, hpre⟩ rfl hn hsize hst (lv_room hrm) hdg ⟨hcs.1, hcs.2⟩) hS (fun q _ h => hF q h) hF (fun u t H1 locs1 ht hvm hw hB hz1 hk1 hS1 => ?_)
  obtain ⟨hP2, hD2⟩ := zjoin hP hD isC isR h2 h4 h5 h6 hF ht hB hk1 (wn := wn) isN hb.1 (hb.2.1 u) (hb.2.2 u)
  exact kk u H1 locs1 hw hP2 hD2 hS1
end ZC
theorem zc_gt {x y : Int64} : 0 < lg_cmp x y ↔ y < x := by unfold lg_cmp; by_cases h : y < x <;> by_cases h2 : x = y <;> simp [h, h2]
theorem zc_le {x y : Int64} : lg_cmp x y ≤ 0 ↔ ¬ y < x := by unfold lg_cmp; by_cases h : y < x <;> by_cases h2 : x = y <;> simp [h, h2]
theorem zc_eq {x y : Int64} : lg_cmp x y = 0 ↔ x = y := by
  unfold lg_cmp
  by_cases h : y < x
  · have h2 : ¬ x = y := fun q => by subst q; exact Int64.lt_irrefl h
    simp [h, h2]
  · by_cases h2 : x = y <;> simp [h, h2]
theorem zc_lt {x y : Int64} : lg_cmp x y < 0 ↔ x < y := by
  unfold lg_cmp
  by_cases h : y < x
  · simp [h, Int64.lt_asymm h]
  · by_cases h2 : x = y
    · subst h2; simp [h]
    · have : x < y := by
        rw [Int64.lt_iff_toInt_lt] at h ⊢
        have : x.toInt ≠ y.toInt := fun q => h2 (Int64.toInt_inj.mp q)
        omega
      simp [h, h2, this]
theorem zc_ge {x y : Int64} : 0 ≤ lg_cmp x y ↔ ¬ x < y := by
  rw [← zc_lt]
  constructor
  · intro h q; exact absurd h (Int32.not_le.mpr q)
  · intro h; exact Int32.not_lt.mp h

section ZE
variable {κ : zC} {X : zXT} {l : Launch} {y : MethodName} {cc : ByteArray} {n : Nat} {fr lo : Nat} {av : List Value} {sz : Nat} {ws : va_W}
theorem zMet.ofI {S : Type} {post : Int32 → S → Prop} {f : S → va_W} (hy : plainName y.cls = true) (hn : (lg_sl av).length ≤ n)
    (body : ∀ (p : Program) (e : Env) (s : State) (m : MethodId) (args : Array Value) (below : List Frame) (meth : Method) (c : Code) (ls : Array Slot) (A : Nat → Prop) (Q : State → Prop), zFix p m c cc n s args y.cls → zK κ s → zP κ ws s.heap → va_D A ws → (∀ q : Nat, s.heap.size ≤ q → A q) → X A s s.heap → va_S A s.heap s.heap [] → lv_has ls n (lv_args 0 av) →
      (∀ (v : Int32) (u : S) (H : Heap) (locs : List Loc) (ls : Array Slot) (pc : Nat), decode cc pc = .ok (.ireturn, 1) → zP κ (f u) H → va_D A (f u) → va_S A s.heap H locs → post v u → W p l e (zR fr lo) s m args below meth c H locs 0 0 Q (F0 m pc ls [.int v])) →
      W p l e (zR fr lo) s m args below meth c s.heap [] 0 0 Q (F0 m 0 ls [])) : zMet κ X l y cc n (some .int) fr lo av sz ws (zQi κ post f) :=
  zMet.of hy hn fun p e s m below meth c ls A hx hb hr hml hts hown hlk hnm hK hP hD hA hXs hS hl => body p e s m _ below meth c ls A _ ⟨hx, hb, hml, hown, hts⟩ hK hP hD hA hXs hS hl fun v u H locs ls pc hd hP hD hS hp => zretI u hx hb hr hlk hK hP hD hS hp hd
theorem zMet.ofZ {S : Type} {post : Int32 → S → Prop} {f : S → va_W} {ty : FieldType} (hy : plainName y.cls = true) (hn : (lg_sl av).length ≤ n)
    (body : ∀ (p : Program) (e : Env) (s : State) (m : MethodId) (args : Array Value) (below : List Frame) (meth : Method) (c : Code) (ls : Array Slot) (A : Nat → Prop) (Q : State → Prop), zFix p m c cc n s args y.cls → zK κ s → zP κ ws s.heap → va_D A ws → (∀ q : Nat, s.heap.size ≤ q → A q) → X A s s.heap → va_S A s.heap s.heap [] → lv_has ls n (lv_args 0 av) →
      (∀ (v : Int32) (u : S) (H : Heap) (locs : List Loc) (ls : Array Slot) (pc : Nat), decode cc pc = .ok (.ireturn, 1) → zP κ (f u) H → va_D A (f u) → va_S A s.heap H locs → narrow ty (.int v) = .int v → post v u → W p l e (zR fr lo) s m args below meth c H locs 0 0 Q (F0 m pc ls [.int v])) →
      W p l e (zR fr lo) s m args below meth c s.heap [] 0 0 Q (F0 m 0 ls [])) : zMet κ X l y cc n (some ty) fr lo av sz ws (zQi κ post f) :=
  zMet.of hy hn fun p e s m below meth c ls A hx hb hr hml hts hown hlk hnm hK hP hD hA hXs hS hl => body p e s m _ below meth c ls A _ ⟨hx, hb, hml, hown, hts⟩ hK hP hD hA hXs hS hl fun v u H locs ls pc hd hP hD hS hz hp => zretZ u hx hb hr hlk hz hK hP hD hS hp hd
theorem zMet.ofL {S : Type} {post : Int64 → S → Prop} {f : S → va_W} (hy : plainName y.cls = true) (hn : (lg_sl av).length ≤ n)
    (body : ∀ (p : Program) (e : Env) (s : State) (m : MethodId) (args : Array Value) (below : List Frame) (meth : Method) (c : Code) (ls : Array Slot) (A : Nat → Prop) (Q : State → Prop), zFix p m c cc n s args y.cls → zK κ s → zP κ ws s.heap → va_D A ws → (∀ q : Nat, s.heap.size ≤ q → A q) → X A s s.heap → va_S A s.heap s.heap [] → lv_has ls n (lv_args 0 av) →
      (∀ (v : Int64) (u : S) (H : Heap) (locs : List Loc) (ls : Array Slot) (pc : Nat), decode cc pc = .ok (.lreturn, 1) → zP κ (f u) H → va_D A (f u) → va_S A s.heap H locs → post v u → W p l e (zR fr lo) s m args below meth c H locs 0 0 Q (F0 m pc ls [.long v])) →
      W p l e (zR fr lo) s m args below meth c s.heap [] 0 0 Q (F0 m 0 ls [])) : zMet κ X l y cc n (some .long) fr lo av sz ws (zQl κ post f) :=
  zMet.of hy hn fun p e s m below meth c ls A hx hb hr hml hts hown hlk hnm hK hP hD hA hXs hS hl => body p e s m _ below meth c ls A _ ⟨hx, hb, hml, hown, hts⟩ hK hP hD hA hXs hS hl fun v u H locs ls pc hd hP hD hS hp => zretL u hx hb hr hlk hK hP hD hS hp hd
theorem zMet.ofV {S : Type} {post : S → Prop} {f : S → va_W} (hy : plainName y.cls = true) (hn : (lg_sl av).length ≤ n)
    (body : ∀ (p : Program) (e : Env) (s : State) (m : MethodId) (args : Array Value) (below : List Frame) (meth : Method) (c : Code) (ls : Array Slot) (A : Nat → Prop) (Q : State → Prop), zFix p m c cc n s args y.cls → zK κ s → zP κ ws s.heap → va_D A ws → (∀ q : Nat, s.heap.size ≤ q → A q) → X A s s.heap → va_S A s.heap s.heap [] → lv_has ls n (lv_args 0 av) →
      (∀ (u : S) (H : Heap) (locs : List Loc) (ls : Array Slot) (pc : Nat), decode cc pc = .ok (.return_, 1) → zP κ (f u) H → va_D A (f u) → va_S A s.heap H locs → post u → W p l e (zR fr lo) s m args below meth c H locs 0 0 Q (F0 m pc ls [])) →
      W p l e (zR fr lo) s m args below meth c s.heap [] 0 0 Q (F0 m 0 ls [])) : zMet κ X l y cc n none fr lo av sz ws (zQv κ post f) :=
  zMet.of hy hn fun p e s m below meth c ls A hx hb hr hml hts hown hlk hnm hK hP hD hA hXs hS hl => body p e s m _ below meth c ls A _ ⟨hx, hb, hml, hown, hts⟩ hK hP hD hA hXs hS hl fun u H locs ls pc hd hP hD hS hp => zretV u hx hb hr hlk hK hP hD hS hp hd
end ZE
theorem zin_vp {i : Int32} {n : Nat} (h : zin i n) : vp_in i n := vp_in_iff.mpr h
theorem zc_ngt {x y : Int64} (h : ¬ 0 < lg_cmp x y) : ¬ y < x := fun q => h (zc_gt.mpr q)
theorem zc_nle {x y : Int64} (h : ¬ lg_cmp x y ≤ 0) : y < x := Classical.byContradiction fun q => h (zc_le.mpr q)
theorem zc_neq {x y : Int64} (h : ¬ lg_cmp x y = 0) : ¬ x = y := fun q => h (zc_eq.mpr q)
theorem zc_nlt {x y : Int64} (h : ¬ lg_cmp x y < 0) : ¬ x < y := fun q => h (zc_lt.mpr q)
theorem zc_nge {x y : Int64} (h : ¬ 0 ≤ lg_cmp x y) : x < y := Classical.byContradiction fun q => h (zc_ge.mpr q)
theorem zti {x k : Int32} {n : Int} (h : ¬ x = k) (e : k.toInt = n) : x.toInt ≠ n := fun q => h (Int32.toInt_inj.mp (q.trans e.symm))
theorem znarZ {v : Int32} (h : v = 0 ∨ v = 1) : narrow .boolean (.int v) = .int v := by rcases h with rfl | rfl <;> decide
