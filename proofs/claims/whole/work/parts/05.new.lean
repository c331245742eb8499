/-! making: constructors' contracts, their calls, new arrays -/
def zMetC (κ : zC) (X : zXT) (l : Launch) (y : MethodName) (cc : ByteArray) (n : Nat) (mc ms fr lo : Nat) (av : List Value) (sz : Nat) (ws : va_W) (Qc : (Nat → Prop) → Array Value → State → Outcome → State → Prop) : Prop :=
  Met l y (wz y cc n none) { frames := fr, cells := mc, slots := ms, locals := lo } (va_Pc av (zPre κ X ws sz)) (Qc (va_A ws sz)) mc ms (va_A ws sz)
theorem zMetC.ofV {κ : zC} {X : zXT} {l : Launch} {y : MethodName} {cc : ByteArray} {n mc ms fr lo : Nat} {av : List Value} {sz : Nat} {ws : va_W} {S : Type} {post : S → Prop} {f : S → va_W} (hy : plainName y.cls = true) (hn : (lg_sl av).length ≤ n)
    (body : ∀ (p : Program) (e : Env) (s : State) (m : MethodId) (args : Array Value) (below : List Frame) (meth : Method) (c : Code) (ls : Array Slot) (A : Nat → Prop) (Q : State → Prop), zFix p m c cc n s args y.cls → meth.name = y.name → zK κ s → zP κ ws s.heap → va_D A ws → (∀ q : Nat, s.heap.size ≤ q → A q) → X A s s.heap → va_S A s.heap s.heap [] → lv_has ls n (lv_args 0 av) →
      (∀ (u : S) (H : Heap) (locs : List Loc) (ls : Array Slot) (pc : Nat), decode cc pc = .ok (.return_, 1) → zP κ (f u) H → va_D A (f u) → va_S A s.heap H locs → post u → W p l e { frames := fr, cells := mc, slots := ms, locals := lo } s m args below meth c H locs mc ms Q (F0 m pc ls [])) →
      W p l e { frames := fr, cells := mc, slots := ms, locals := lo } s m args below meth c s.heap [] 0 0 Q (F0 m 0 ls [])) : zMetC κ X l y cc n mc ms fr lo av sz ws (zQv κ post f) := by
  refine Met.ofW (cc := cc) (maxL := n) (ret := none) hy rfl ?_
  intro p e s m args below meth c s₁ B hml hv
  obtain ⟨rfl, hsz, hP, hK, hD0, hXs⟩ := hv
  subst hsz
  rw [lg_entry_eq]
  have hlk := B.notSynchronized
  exact body p e s m _ below meth c _ _ _ ⟨B.exec, B.bytes, hml, findClass_of_methodNamed B.named, fun w hw => atoms_spec (ws := wz y cc n none) B.pre w (List.mem_cons_of_mem _ hw)⟩ (name_of_methodNamed B.named B.method).1 hK hP (hD0.self (sz := s.heap.size)) (fun q h => Or.inr h) hXs va_S.rf (lv_entry av hn)
    fun u H locs ls pc hd hP hD hS hp => zretV u B.exec B.bytes B.returns hlk hK hP hD hS hp hd
section ZN
variable {p : Program} {l : Launch} {e : Env} {R : Room} {s : State} {m : MethodId} {args : Array Value} {below : List Frame} {meth : Method} {c : Code} {H : Heap} {locs : List Loc} {cells slots : Nat} {cc : ByteArray} {pc nL : Nat} {ls : Array Slot} {κ : zC} {A : Nat → Prop} {X : zXT} {own : String} {Q : State → Prop}
def zNI (own : String) (idx : Nat) (y : MethodName) (cy : ByteArray) (ny : Nat) (n : Nat) : Prop := Cond.code y cy ny none ∈ T0 ∧ Cond.initialized y.cls ∈ T0 ∧ Cond.methodLink own idx y ∈ T0 ∧ Cond.instanceMethod y ∈ T0 ∧ y.name = "<init>" ∧ (y.cls ≠ "java/lang/invoke/MethodHandle" ∧ y.cls ≠ "java/lang/invoke/VarHandle" ∧ (parseMethodDescriptor y.desc).map (fun d => d.parameters.length) = some n)
theorem zIv {S : Type} {y : MethodName} {cy : ByteArray} {ny n fr lo mc ms idx : Nat} {b : Nat} {As rest st0 : List Value} {ws wc wr : va_W} {post : S → Prop} {f : S → va_W} {isC isR : List Nat} (S0 : zFix p m c cc nL s args own) (hN : zNI own idx y cy ny n) (hM : zMetC κ X l y cy ny mc ms fr lo (.ref b :: As) H.size wc (zQv κ post f)) (hX : zX κ X) (hXs : X A s s.heap) (hK : zK κ s) (hA : ∀ q : Nat, s.heap.size ≤ q → A q) (hP : zP κ ws H) (hD : va_D A ws) (hS : va_S A s.heap H locs)
    (hR : fr + 1 ≤ R.frames ∧ 8 + (ny + 11) + lo ≤ R.locals) (hI : zIdx ws wc wr isC isR) (hn : As.length = n) (hsize : ls.size = nL) (hst : st0 = As.reverse ++ .ref b :: rest) (hrm : (rest.map fun v => v.category).sum ≤ 8) (hcs : cells + mc ≤ R.cells ∧ slots + ms ≤ R.slots) (hdg : decode cc pc = .ok (.invokespecial idx, 3))
    (kk : ∀ (u : S) (H1 : Heap) (locs1 : List Loc), post u → zP κ (wr ++ f u) H1 → va_D A (wr ++ f u) → va_S A s.heap H1 locs1 → W p l e R s m args below meth c H1 locs1 (cells + mc) (slots + ms) Q (F0 m (pc + 3) ls rest)) : W p l e R s m args below meth c H locs cells slots Q (F0 m pc ls st0) := by
  obtain ⟨h1, h2, h3, h4, h5, h6⟩ := hI
  obtain ⟨hF, hpre⟩ := zprep hX hXs hK hP hD hS hA isC h1 h2 h3 (.ref b :: As)
  obtain ⟨hco, hin, hml, him, hnm, hd⟩ := hN
  have cw := callB_of (R := R) (s := s) (args := args) (rm := { frames := fr, cells := mc, slots := ms, locals := lo }) (mc := mc) (ms := ms) n S0.2.2.2.2 (zG hco) rfl rfl rfl (S0.2.2.2.2 _ hin) (S0.2.2.2.2 _ hml) hd hR
  refine va_callv (va_runI (rest := rest) (As := As) S0 hM ⟨cw, hnm, S0.2.2.2.2 _ him⟩ ⟨zBlind hX, hpre⟩ rfl hn hsize hst (lv_room hrm) hdg hcs) hS (fun q _ h => hF q h) hF (fun u t H1 locs1 ht hvm hw hB hz1 hk1 hS1 => ?_)
  obtain ⟨hP1, hK1, hD1⟩ := hB
  rw [ht] at hP1
  obtain ⟨hP2, hD2⟩ := va_join (wr := wr) (w1 := f u) hP hD isC isR h2 h4 h5 h6 hk1 hF hP1 hD1
  exact kk u H1 locs1 hw hP2 hD2 hS1
theorem zNewI {ws : va_W} {n : Int32} {N : Nat} {rest : List Value} (S0 : zFix p m c cc nL s args own) (hK : zK κ s) (hA : ∀ q : Nat, s.heap.size ≤ q → A q) (hP : zP κ ws H) (hD : va_D A ws) (hS : va_S A s.heap H locs) (hn : ¬ n < 0) (hN : n.toNatClampNeg = N) (hby : N * componentBytes .int ≤ 536870912) (hcs : cells + 1 ≤ R.cells ∧ slots + N ≤ R.slots) (hdg : decode cc pc = .ok (.newarray .int, 2))
    (kk : ∀ (q : Nat) (H1 : Heap), zP κ (ws ++ [(q, .inl (κ.2.1, N, .inl fun _ => 0))]) H1 → va_D A (ws ++ [(q, .inl (κ.2.1, N, .inl fun _ => 0))]) → va_S A s.heap H1 locs → W p l e R s m args below meth c H1 locs (cells + 1) (slots + N) Q (F0 m (pc + 2) ls (.ref q :: rest))) : W p l e R s m args below meth c H locs cells slots Q (F0 m pc ls (.int n :: rest)) := by
  refine va_newa (atype := .int) (a0 := (N, .inl fun _ => 0)) S0.1 S0.2.1 (S0.2.2.2.2 _ zac_int) rfl hK hP hD hS hA (fun _ => rfl) hn hN hby hcs.1 hcs.2 hdg (fun q cA H1 hK1 hP1 hD1 hS1 => ?_)
  have e : cA = κ.2.1 := by
    have a1 := (hK1.2 3 (cA, .int) rfl).2
    have a2 := (hK.2 0 (κ.2.1, .int) rfl).2
    exact Option.some.inj (a1.symm.trans a2)
  subst e
  exact kk q H1 hP1 hD1 hS1
theorem zNewC {ws : va_W} {n : Int32} {N : Nat} {rest : List Value} (S0 : zFix p m c cc nL s args own) (hK : zK κ s) (hA : ∀ q : Nat, s.heap.size ≤ q → A q) (hP : zP κ ws H) (hD : va_D A ws) (hS : va_S A s.heap H locs) (hn : ¬ n < 0) (hN : n.toNatClampNeg = N) (hby : N * componentBytes .char ≤ 536870912) (hcs : cells + 1 ≤ R.cells ∧ slots + N ≤ R.slots) (hdg : decode cc pc = .ok (.newarray .char, 2))
    (kk : ∀ (q : Nat) (H1 : Heap), zP κ (ws ++ [(q, .inl (κ.2.2.1, N, .inl fun _ => 0))]) H1 → va_D A (ws ++ [(q, .inl (κ.2.2.1, N, .inl fun _ => 0))]) → va_S A s.heap H1 locs → W p l e R s m args below meth c H1 locs (cells + 1) (slots + N) Q (F0 m (pc + 2) ls (.ref q :: rest))) : W p l e R s m args below meth c H locs cells slots Q (F0 m pc ls (.int n :: rest)) := by
  refine va_newa (atype := .char) (a0 := (N, .inl fun _ => 0)) S0.1 S0.2.1 (S0.2.2.2.2 _ zac_char) rfl hK hP hD hS hA (fun _ => rfl) hn hN hby hcs.1 hcs.2 hdg (fun q cA H1 hK1 hP1 hD1 hS1 => ?_)
  have e : cA = κ.2.2.1 := by
    have a1 := (hK1.2 3 (cA, .char) rfl).2
    have a2 := (hK.2 1 (κ.2.2.1, .char) rfl).2
    exact Option.some.inj (a1.symm.trans a2)
  subst e
  exact kk q H1 hP1 hD1 hS1
theorem zNewL {ws : va_W} {n : Int32} {N : Nat} {rest : List Value} (S0 : zFix p m c cc nL s args own) (hK : zK κ s) (hA : ∀ q : Nat, s.heap.size ≤ q → A q) (hP : zP κ ws H) (hD : va_D A ws) (hS : va_S A s.heap H locs) (hn : ¬ n < 0) (hN : n.toNatClampNeg = N) (hby : N * componentBytes .long ≤ 536870912) (hcs : cells + 1 ≤ R.cells ∧ slots + N ≤ R.slots) (hdg : decode cc pc = .ok (.newarray .long, 2))
    (kk : ∀ (q : Nat) (H1 : Heap), zP κ (ws ++ [(q, .inl (κ.2.2.2.1, N, .inr (.inl fun _ => 0)))]) H1 → va_D A (ws ++ [(q, .inl (κ.2.2.2.1, N, .inr (.inl fun _ => 0)))]) → va_S A s.heap H1 locs → W p l e R s m args below meth c H1 locs (cells + 1) (slots + N) Q (F0 m (pc + 2) ls (.ref q :: rest))) : W p l e R s m args below meth c H locs cells slots Q (F0 m pc ls (.int n :: rest)) := by
  refine va_newa (atype := .long) (a0 := (N, .inr (.inl fun _ => 0))) S0.1 S0.2.1 (S0.2.2.2.2 _ zac_long) rfl hK hP hD hS hA (fun _ => rfl) hn hN hby hcs.1 hcs.2 hdg (fun q cA H1 hK1 hP1 hD1 hS1 => ?_)
  have e : cA = κ.2.2.2.1 := by
    have a1 := (hK1.2 3 (cA, .long) rfl).2
    have a2 := (hK.2 2 (κ.2.2.2.1, .long) rfl).2
    exact Option.some.inj (a1.symm.trans a2)
  subst e
  exact kk q H1 hP1 hD1 hS1
end ZN
