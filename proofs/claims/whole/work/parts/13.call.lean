/-! calls: from a contract to the caller's next state -/
section
variable {p : Program} {l : Launch} {e : Env} {R : Room} {s : State} {m : MethodId} {args : Array Value} {below : List Frame} {meth : Method} {c : Code} {U T : State} {locs : List Loc} {cells slots : Nat}
/-- the callee comes back, or throws into the caller's frame -/
theorem m_run {y : MethodName} {S : Spec} {P : Array Value → State → Prop} {Q : Array Value → State → Outcome → State → Prop} (hM : MetFree l y S P (fun _ _ _ _ _ => True) Q) (X : Stand p l e R s m args below meth c U locs cells slots) {g : JFrame} (hg : g.method = m) (hsize : g.locals.size = c.maxLocals)
    {ig : Instr} {len : Nat} (hdg : decode c.code g.pc = .ok (ig, len)) {mk : MethodId} {a : Array Value} {methY : Method} {cY : Code} {kY : Class} (hn : U.methodNamed? y = some mk) (hmY : U.vm.method? mk = some methY) (hcY : methY.code = some cY) (hkY : U.vm.classes[mk.cls]? = some kY) (hinitY : kY.init = .initialized)
    (hframes : S.room.frames + 1 ≤ R.frames) (hlocals : 2 * g.monitorRoom + (g.stack.map fun v => v.category).sum + (cY.maxLocals + 11) + S.room.locals ≤ R.locals) (h4 : cells + S.room.cells ≤ R.cells) (h5 : slots + S.room.slots ≤ R.slots) (h1 : S.pre.before a U = true) (hP : P a (U.calling g mk a)) :
    ∃ (o : Outcome) (s₂ : State), Steps p.tables e below (doInvoke e (U.setTop g) [] mk a).1 s₂ ∧ Q a (U.calling g mk a) o s₂ ∧
      ∀ L k n, (U.calling g mk a).WarmedH s₂.vm → (U.calling g mk a).sameButNew ({ s₂ with vm := (U.calling g mk a).vm } : State) L k n →
        ∃ V : State, V.heap = s₂.heap ∧ V.vm = s₂.vm ∧ Stand p l e R s m args below meth c V (locs ++ L) (cells + k) (slots + n) ∧
          (∀ v, o = .returned v → s₂ = V.setTop { g with pc := g.pc + len, stack := v.toList ++ g.stack }) ∧ (∀ x, o = .threw x → s₂ = (V.setTop g).pushFrame (.throwing x)) := by
  have h : At U g.method c below := by rw [hg]; exact X.here
  have happ : S.appliesLoose y e.platform (U.calling g mk a) = true :=
    Spec.appliesLoose_calling (g := g) h hdg hn hkY hinitY (X.room_calling (g := g) (R' := S.room) hsize hmY hcY hframes hlocals h4 h5) h1
  obtain ⟨mid, hmid⟩ := h.above
  have hfr : (U.setTop g).frames = (.java g :: mid) ++ below := by rw [State.frames_setTop' g h.top, hmid]; rfl
  obtain ⟨o, s₂, hsteps, -, hend, hq⟩ := Steps.callFree hM p X.admits X.cas X.clock (acts := []) hfr happ hP trivial
  have hq' : Q a (U.calling g mk a) o s₂ := hq
  rw [State.frames_setTop' g h.top] at hend
  refine ⟨o, s₂, hsteps, hq', fun L k n hW₂ hs => ?_⟩
  obtain ⟨e2, q2, q3, q4, q5, q6⟩ := hs
  have e3 : s₂ = ({ (U.calling g mk a).setFrames s₂.frames with heap := s₂.heap, slotsUsed := s₂.slotsUsed } : State).setVm s₂.vm := by
    have : s₂ = ({ s₂ with vm := (U.calling g mk a).vm } : State).setVm s₂.vm := rfl
    rw [e2] at this
    exact this
  have hW' : U.WarmedH s₂.vm := hW₂
  obtain ⟨g₀, hg0⟩ := Option.isSome_iff_exists.mp h.top
  obtain ⟨r, hr⟩ := State.topJava?_eq_some.mp hg0
  have hr' : (({ U with heap := s₂.heap, slotsUsed := s₂.slotsUsed } : State).setVm s₂.vm).frames = .java g₀ :: r := hr
  have hsame : U.sameButNew ({ U with heap := s₂.heap, slotsUsed := s₂.slotsUsed } : State) L k n := by
    refine ⟨?_, q2, q3, q4, q5, q6⟩
    obtain ⟨t, ht, -⟩ := State.frames_cons hr
    show ({ U with heap := s₂.heap, slotsUsed := s₂.slotsUsed } : State) = { U.setFrames U.frames with heap := s₂.heap, slotsUsed := s₂.slotsUsed }
    rw [State.setFrames_self ht]
  subst hg
  refine ⟨(({ U with heap := s₂.heap, slotsUsed := s₂.slotsUsed } : State).setVm s₂.vm), rfl, rfl,
    ⟨X.admits, X.cas, X.clock, X.frames, X.room, X.hears, X.method, X.code, (X.here.setHeapUsed s₂.heap s₂.slotsUsed).setVm hW'.alike, X.tail, State.WarmedH.trans X.warmed hW', X.limits, X.bytes, X.same.trans (hsame.setVm s.vm)⟩, ?_, ?_⟩
  · rintro v rfl
    obtain ⟨c₂, i₂, len₂, hc₂, hd₂, hf₂⟩ := hend
    have hcc : c₂ = c := by
      have h1 : s₂.code? g.method = U.code? g.method := by
        rw [State.code?_eq, State.code?_eq, hW'.alike.method?]
      exact Option.some.inj (hc₂.symm.trans (h1.trans h.code))
    subst hcc
    have hlen : len₂ = len := by rw [hdg] at hd₂; cases hd₂; rfl
    subst hlen
    refine e3.trans ?_
    rw [hf₂, State.calling_eq h.top, State.setFrames_setFrames, State.setTop_of_frames _ hr', hr]
    rfl
  · rintro x rfl
    have hf₂ : s₂.frames = .throwing x :: .java g :: U.frames.tail := hend
    refine e3.trans ?_
    rw [hf₂, State.calling_eq h.top, State.setFrames_setFrames, State.pushFrame, State.frames_setTop _ hr', State.setTop_of_frames _ hr', State.setFrames_setFrames, hr]
    rfl
/-- what a method's code word says -/
theorem mcw_spec {M : mM} {a : Array Value} (h : (mcw M).before a U = true) : ∃ mk methM cM, U.methodNamed? M.2.2.2.2.1 = some mk ∧ U.vm.method? mk = some methM ∧ methM.code = some cM ∧ cM.code = M.2.2.2.2.2.1 ∧ cM.maxLocals = M.2.2.1 ∧ methM.sig.returnType = M.2.2.2.1 ∧ methM.locks = false ∧
    cM.exceptionTable.toList.map (fun h => (h.startPc, h.endPc, h.handlerPc, h.catchType)) = M.2.2.2.2.2.2.2 ∧ parseMethodDescriptor M.2.2.2.2.1.desc = some methM.sig := by
  unfold mcw at h
  cases he : M.2.2.2.2.2.2.2.isEmpty with
  | true =>
    rw [he, cond_true] at h
    obtain ⟨mk, hn⟩ := Cond.code_named h
    obtain ⟨methM, cM, h1, h2, h3, h4, h5, h6, h7, h8⟩ := Cond.code_spec hn h
    refine ⟨mk, methM, cM, hn, h1, h2, h3, h4, h5, h6, ?_, h8⟩
    rw [List.isEmpty_iff.mp he]
    have : cM.exceptionTable.toList = [] := by
      have := h7
      simpa using this
    rw [this]
    rfl
  | false =>
    rw [he, cond_false] at h
    obtain ⟨mk, methM, cM, hn, h1, h2, h3, h4, h5, h6, h7, h8⟩ := Cond.codeWith_spec h
    exact ⟨mk, methM, cM, hn, h1, h2, h3, h4, h6, h7, h5, h8⟩
/-- the instruction links, the arguments are off the stack: the callee's name is at hand -/
def mInv (p : Program) (l : Launch) (e : Env) (R : Room) (s : State) (m : MethodId) (args : Array Value) (below : List Frame) (meth : Method) (c : Code) (T : State) (locs : List Loc) (cells slots : Nat) (y : MethodName) (g : JFrame) (a : Array Value) (rest : List Value) : Prop :=
  ∃ (mk : MethodId) (vm₁ : Vm), Stand p l e R s m args below meth c (T.setVm vm₁) locs cells slots ∧ (T.setVm vm₁).methodNamed? y = some mk ∧
    ∀ target, (∀ acts, Steps p.tables e below (doInvoke e ((T.setVm vm₁).setTop { g with stack := rest }) acts mk a).1 target) → Steps p.tables e below (T.setTop g) target
theorem mInvS (X : Stand p l e R s m args below meth c T locs cells slots) (hexec : p.tables.exec = Jvm.exec) {own : String} {index : Nat} {M : mM}
    (hown : s.vm.findClass own = some m.cls) (hlink : (Cond.methodLink own index M.2.2.2.2.1).before args s = true) (hstat : (Cond.static M.2.2.2.2.1).before args s = true) (hinit : (Cond.initialized M.2.2.2.2.1.cls).before args s = true) (hcode : (mcw M).before args s = true) (hy : M.2.2.2.2.1.cls ≠ "java/lang/invoke/MethodHandle" ∧ M.2.2.2.2.1.cls ≠ "java/lang/invoke/VarHandle")
    {g : JFrame} (hg : g.method = m) {argsL rest : List Value} (hlen : ∀ sig, parseMethodDescriptor M.2.2.2.2.1.desc = some sig → argsL.length = sig.parameters.length) (hstack : g.stack = argsL.reverse ++ rest) (hdg : decode c.code g.pc = .ok (.invokestatic index, 3)) :
    mInv p l e R s m args below meth c T locs cells slots M.2.2.2.2.1 g argsL.toArray rest := by
  obtain ⟨mk, methM, cM, hnamed, hmethM, -, -, -, -, -, -, hsigM⟩ := mcw_spec hcode
  have hstatic : methM.isStatic = true := Cond.static_spec hnamed hmethM hstat
  obtain ⟨kP, hkP, -⟩ := className_of_methodNamed hnamed
  have hinitP : kP.init = .initialized := Cond.initialized_spec (findClass_of_methodNamed hnamed) hkP hinit
  obtain ⟨vm₁, X₁, hstep₁⟩ := X.invokestatic hexec hown hlink hnamed hmethM hstatic hkP hinitP hy (g := g) hg (argsL := argsL) (rest := rest) (hlen _ hsigM) hstack hdg
  exact ⟨mk, vm₁, X₁, X₁.named hnamed, hstep₁⟩
theorem mInvV (X : Stand p l e R s m args below meth c T locs cells slots) (hexec : p.tables.exec = Jvm.exec) {own C : String} {index : Nat} {M : mM}
    (hown : s.vm.findClass own = some m.cls) (hlink : (Cond.methodLink own index M.2.2.2.2.1).before args s = true) (hinst : (Cond.instanceMethod M.2.2.2.2.1).before args s = true) (hsel : (Cond.selects C M.2.2.2.2.1 M.2.2.2.2.1).before args s = true) (hcode : (mcw M).before args s = true) (hy : M.2.2.2.2.1.cls ≠ "java/lang/invoke/MethodHandle" ∧ M.2.2.2.2.1.cls ≠ "java/lang/invoke/VarHandle")
    {b : Addr} {cellB : Cell} (hcell : T.heap[b]? = some cellB) (hobj : cellB.vm.isStatics = false) (hcls : s.vm.findClass C = some cellB.cls)
    {g : JFrame} (hg : g.method = m) {argsL rest : List Value} (hlen : ∀ sig, parseMethodDescriptor M.2.2.2.2.1.desc = some sig → argsL.length = sig.parameters.length) (hstack : g.stack = argsL.reverse ++ .ref b :: rest) (hdg : decode c.code g.pc = .ok (.invokevirtual index, 3)) :
    mInv p l e R s m args below meth c T locs cells slots M.2.2.2.2.1 g (Value.ref b :: argsL).toArray rest := by
  obtain ⟨mk, methM, hnamed, hmethM, hstM, habM⟩ := Cond.instanceMethod_spec hinst
  obtain ⟨mk', methM', cM, hnamed', hmethM', -, -, -, -, -, -, hsigM⟩ := mcw_spec hcode
  cases hnamed.symm.trans hnamed'
  cases hmethM.symm.trans hmethM'
  obtain ⟨c2, r2, m2, q1, q2, q3, q4, kP, hkP, hkPi⟩ := Cond.selects_spec hsel
  cases hcls.symm.trans q1
  cases (State.methodFound?_of_named hnamed hy).symm.trans q2
  cases hnamed.symm.trans q3
  have hselP : selectMethod e.platform s.vm cellB.cls mk = .method mk := by rw [Launch.admits_selectMethod X.admits]; exact q4
  obtain ⟨vm₁, X₁, hstep₁⟩ := X.invokevirtual hexec hown hlink hnamed hmethM hstM hkP hkPi hy (a := b) (cell := cellB) hcell
    (fun z h => by rw [h] at hobj; cases hobj) hselP hmethM habM hkP hkPi (g := g) hg (argsL := argsL) (rest := rest) (hlen _ hsigM) hstack hdg
  exact ⟨mk, vm₁, X₁, X₁.named hnamed, hstep₁⟩
theorem mInvI (X : Stand p l e R s m args below meth c T locs cells slots) (hexec : p.tables.exec = Jvm.exec) {own : String} {index : Nat} {M : mM} (hh : M.2.2.2.2.2.2.2.isEmpty = true) (hret : M.2.2.2.1 = none)
    (hown : s.vm.findClass own = some m.cls) (hy1 : M.2.2.2.2.1.name = "<init>") (hlink : (Cond.methodLink own index M.2.2.2.2.1).before args s = true ∨ ∃ host, (Cond.methodLinkNest own index M.2.2.2.2.1 host).before args s = true) (hinst : (Cond.instanceMethod M.2.2.2.2.1).before args s = true) (hcode : (mcw M).before args s = true) (hy : M.2.2.2.2.1.cls ≠ "java/lang/invoke/MethodHandle" ∧ M.2.2.2.2.1.cls ≠ "java/lang/invoke/VarHandle")
    {g : JFrame} (hg : g.method = m) {a : Addr} {argsL rest : List Value} (hlen : ∀ sig, parseMethodDescriptor M.2.2.2.2.1.desc = some sig → argsL.length = sig.parameters.length) (hstack : g.stack = argsL.reverse ++ .ref a :: rest) (hdg : decode c.code g.pc = .ok (.invokespecial index, 3)) :
    mInv p l e R s m args below meth c T locs cells slots M.2.2.2.2.1 g (Value.ref a :: argsL).toArray rest := by
  subst hg
  have hpl : e.platform.magicAccessors = ({} : Platform).magicAccessors := by rw [X.admits.platform]
  have hcode' : (Cond.code M.2.2.2.2.1 M.2.2.2.2.2.1 M.2.2.1 none).before args s = true := by
    unfold mcw at hcode
    rw [hh, cond_true, hret] at hcode
    exact hcode
  rcases hlink with hlink | ⟨host, hlink⟩
  · obtain ⟨mk, methM, cM, kP, vm₁, hnamed, hmethM, hcodeM, -, hlocalsM, -, hkP, -, hW₁, hstep₁⟩ := Steps.initColdArgs (e := e) X.here hexec X.warmed hpl hown hy1 hy hlink hinst hcode' (f := g) rfl hlen hstack hdg
    have X₁ := X.noted hW₁
    exact ⟨mk, vm₁, X₁, X₁.named hnamed, hstep₁⟩
  · obtain ⟨mk, methM, cM, kP, vm₁, hnamed, hmethM, hcodeM, -, hlocalsM, -, hkP, -, hW₁, hstep₁⟩ := Steps.initColdArgsNest (e := e) X.here hexec X.warmed hpl hown hy1 hy hlink hinst hcode' (f := g) rfl hlen hstack hdg
    have X₁ := X.noted hW₁
    exact ⟨mk, vm₁, X₁, X₁.named hnamed, hstep₁⟩
end
