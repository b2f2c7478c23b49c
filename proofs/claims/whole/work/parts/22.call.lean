/-! Calls: out of a callee's contract, both of its ends. -/
section PMCALL
variable {p : Program} {l : Launch} {e : Env} {R : Room} {s : State} {m : MethodId} {args : Array Value} {below : List Frame} {meth : Method} {c : Code}
/-- how a call goes on, with the callee's end as the pure machine has it -/
def pm_Aft (p : Program) (l : Launch) (e : Env) (R : Room) (s : State) (m : MethodId) (args : Array Value) (below : List Frame) (meth : Method) (c : Code) (D : va_G) (dA : Nat → ClassId) (b : Nat) (A : Nat → Prop) (ad : Nat → Nat) (M : pm_M) (o : pm_O) (M' : pm_M) (T : State) (locs : List Loc) (cells slots : Nat) (g : JFrame) (rest : List Value) (from0 : State) : Prop :=
  ∃ (ad' : Nat → Nat) (U : State) (L : List Loc), Stand p l e R s m args below meth c U (locs ++ L) cells slots ∧ (∀ q ∈ L, A q.base) ∧ (∀ q, pm_b M q → pm_b M' q ∧ ad' q = ad q) ∧ pm_W D dA b A ad' M' U.heap ∧ (T.heap.size ≤ U.heap.size ∧ ∀ q : Nat, q < T.heap.size → ¬ A q → U.heap[q]? = T.heap[q]?) ∧ (match o with
    | .inl v => (∀ w, v = some w → pm_vb M' w) ∧ Steps p.tables e below from0 (U.setTop { g with pc := g.pc + 3, stack := (v.map (pm_ren ad')).toList ++ rest })
    | .inr E => ∃ (q : Addr) (ce : Cell), U.heap[q]? = some ce ∧ ce.vm = .none ∧ s.vm.findClass E = some ce.cls ∧ Steps p.tables e below from0 ((U.setTop { g with stack := rest }).pushFrame (.throwing q)))
theorem pm_back {D : va_G} {dA : Nat → ClassId} {b : Nat} {A : Nat → Prop} {ad : Nat → Nat} {M M' : pm_M} {o : pm_O} {mc ms : Nat} {P : Array Value → State → Prop} {ws : List Cond} {rm : Room} {y : MethodName} {mk : MethodId} {methY : Method} {cY : Code} {kY : Class} {ig : Instr} {a : Array Value} {U : State} {Ls : List Loc} {c0 s0 maxL : Nat} {g : JFrame}
    (X : Stand p l e R s m args below meth c U Ls c0 s0) (hM : MetFree l y (headSpec ws rm) P (fun _ _ _ _ _ => True) (pm_Qo D dA b A ad M o M' mc ms)) (hg : g.method = m) (hsize : g.locals.size = c.maxLocals) (hdg : decode c.code g.pc = .ok (ig, 3)) (hW : 2 * g.monitorRoom + (g.stack.map fun v => v.category).sum ≤ 8)
    (hn : U.methodNamed? y = some mk) (hmY : U.vm.method? mk = some methY) (hcY : methY.code = some cY) (hlY : cY.maxLocals = maxL) (hkY : U.vm.classes[mk.cls]? = some kY) (hinitY : kY.init = .initialized)
    (hws : ∀ w ∈ ws, w.before a U = true) (hP : P a (U.calling g mk a)) (hrc : rm.cells = mc) (hrs : rm.slots = ms) (hframes : rm.frames + 1 ≤ R.frames) (hlocals : 8 + (maxL + 11) + rm.locals ≤ R.locals) (hc : c0 + mc ≤ R.cells) (hs : s0 + ms ≤ R.slots) :
    pm_Aft p l e R s m args below meth c D dA b A ad M o M' U Ls (c0 + mc) (s0 + ms) g g.stack (doInvoke e (U.setTop g) [] mk a).1 := by
  have h1 : (headSpec ws rm).pre.before a U = true := atoms_intro hws
  have h4 : c0 + (headSpec ws rm).room.cells ≤ R.cells := by rw [show (headSpec ws rm).room.cells = mc from hrc]; exact hc
  have h5 : s0 + (headSpec ws rm).room.slots ≤ R.slots := by rw [show (headSpec ws rm).room.slots = ms from hrs]; exact hs
  have h : At U g.method c below := by rw [hg]; exact X.here
  have hlo : (headSpec ws rm).room.locals = rm.locals := rfl
  have happ : (headSpec ws rm).appliesLoose y e.platform (U.calling g mk a) = true :=
    Spec.appliesLoose_calling (g := g) h hdg hn hkY hinitY
      (X.room_calling (g := g) (R' := (headSpec ws rm).room) hsize hmY hcY hframes (by rw [hlY, hlo]; omega) h4 h5) h1
  obtain ⟨mid, hmid⟩ := h.above
  have hfr : (U.setTop g).frames = (.java g :: mid) ++ below := by rw [State.frames_setTop' g h.top, hmid]; rfl
  obtain ⟨oc, s₂, hsteps, -, hend, hq⟩ := Steps.callFree hM p X.admits X.cas X.clock (acts := []) hfr happ hP trivial
  obtain ⟨ad', L, hW₂, hsm, hL, hN, hWd, hF, ho⟩ : pm_Qo D dA b A ad M o M' mc ms a (U.calling g mk a) oc s₂ := hq
  rw [State.frames_setTop' g h.top] at hend
  obtain ⟨e2, q2, q3, q4, q5, q6⟩ := id hsm
  have e3 : s₂ = ({ (U.calling g mk a).setFrames s₂.frames with heap := s₂.heap, slotsUsed := s₂.slotsUsed } : State).setVm s₂.vm := by
    have h9 : s₂ = ({ s₂ with vm := (U.calling g mk a).vm } : State).setVm s₂.vm := rfl
    rw [e2] at h9
    exact h9
  have hW' : U.WarmedH s₂.vm := hW₂
  obtain ⟨g₀, hg0⟩ := Option.isSome_iff_exists.mp h.top
  obtain ⟨r, hr⟩ := State.topJava?_eq_some.mp hg0
  have hr' : (({ U with heap := s₂.heap, slotsUsed := s₂.slotsUsed } : State).setVm s₂.vm).frames = .java g₀ :: r := hr
  have hsame : U.sameButNew ({ U with heap := s₂.heap, slotsUsed := s₂.slotsUsed } : State) L mc ms := by
    refine ⟨?_, q2, q3, q4, q5, q6⟩
    obtain ⟨t, ht, -⟩ := State.frames_cons hr
    show ({ U with heap := s₂.heap, slotsUsed := s₂.slotsUsed } : State) = { U.setFrames U.frames with heap := s₂.heap, slotsUsed := s₂.slotsUsed }
    rw [State.setFrames_self ht]
  subst hg
  refine ⟨ad', (({ U with heap := s₂.heap, slotsUsed := s₂.slotsUsed } : State).setVm s₂.vm), L,
    ⟨X.admits, X.cas, X.clock, X.frames, X.room, X.hears, X.method, X.code, (X.here.setHeapUsed s₂.heap s₂.slotsUsed).setVm hW'.alike, X.tail, State.WarmedH.trans X.warmed hW', X.limits, X.bytes, X.same.trans (hsame.setVm s.vm)⟩, hL, hN, hWd, hF, ?_⟩
  cases o with
  | inl v =>
    obtain ⟨rfl, hv⟩ := ho
    refine ⟨hv, ?_⟩
    obtain ⟨c₂, i₂, len₂, hc₂, hd₂, hf₂⟩ := hend
    have hcc : c₂ = c := by
      have h9 : s₂.code? g.method = U.code? g.method := by
        rw [State.code?_eq, State.code?_eq, hW'.alike.method?]
      exact Option.some.inj (hc₂.symm.trans (h9.trans h.code))
    subst hcc
    have hlen : len₂ = 3 := by rw [hdg] at hd₂; cases hd₂; rfl
    subst hlen
    have hs₂ : s₂ = (({ U with heap := s₂.heap, slotsUsed := s₂.slotsUsed } : State).setVm s₂.vm).setTop { g with pc := g.pc + 3, stack := (v.map (pm_ren ad')).toList ++ g.stack } := by
      refine e3.trans ?_
      rw [hf₂, State.calling_eq h.top, State.setFrames_setFrames, State.setTop_of_frames _ hr', hr]
      rfl
    rw [← hs₂]
    exact hsteps
  | inr E =>
    obtain ⟨q, ce, rfl, hce, hcv, hcl⟩ := ho
    have hf₂ : s₂.frames = .throwing q :: .java g :: U.frames.tail := hend
    refine ⟨q, ce, hce, hcv, ?_, ?_⟩
    · have h9 : U.vm.findClass E = some ce.cls := hcl
      rw [X.warmed.alike.findClass] at h9
      exact h9
    · have hs₂ : s₂ = ((({ U with heap := s₂.heap, slotsUsed := s₂.slotsUsed } : State).setVm s₂.vm).setTop g).pushFrame (.throwing q) := by
        refine e3.trans ?_
        rw [hf₂, State.calling_eq h.top, State.setFrames_setFrames, State.pushFrame, State.frames_setTop _ hr', State.setTop_of_frames _ hr', State.setFrames_setFrames, hr]
        rfl
      show Steps p.tables e below _ (((({ U with heap := s₂.heap, slotsUsed := s₂.slotsUsed } : State).setVm s₂.vm).setTop { g with stack := g.stack }).pushFrame (.throwing q))
      rw [show ({ g with stack := g.stack } : JFrame) = g from rfl, ← hs₂]
      exact hsteps
/-- the same, from the words at the caller's start; U: the state behind the link's first use -/
theorem pm_go {D : va_G} {dA : Nat → ClassId} {b : Nat} {A : Nat → Prop} {ad : Nat → Nat} {M M' : pm_M} {o : pm_O} {mc ms : Nat} {P : Array Value → State → Prop} {ws : List Cond} {rm : Room} {y : MethodName} {mk : MethodId} {methY : Method} {cY : Code} {ig : Instr} {a : Array Value} {U : State} {Ls : List Loc} {c0 s0 maxL : Nat} {g : JFrame}
    (X : Stand p l e R s m args below meth c U Ls c0 s0) (hM : MetFree l y (headSpec ws rm) P (fun _ _ _ _ _ => True) (pm_Qo D dA b A ad M o M' mc ms)) (hg : g.method = m) (hsize : g.locals.size = c.maxLocals) (hdg : decode c.code g.pc = .ok (ig, 3)) (hW : 2 * g.monitorRoom + (g.stack.map fun v => v.category).sum ≤ 8)
    (hn : s.methodNamed? y = some mk) (hmY : s.vm.method? mk = some methY) (hcY : methY.code = some cY) (hlY : cY.maxLocals = maxL) (hini : (Cond.initialized y.cls).before args s = true)
    (hws : ∀ w ∈ ws, w.before args s = true ∧ goodWord w = true) (hP : P a (U.calling g mk a)) (hrc : rm.cells = mc) (hrs : rm.slots = ms) (hframes : rm.frames + 1 ≤ R.frames) (hlocals : 8 + (maxL + 11) + rm.locals ≤ R.locals) (hc : c0 + mc ≤ R.cells) (hs : s0 + ms ≤ R.slots) :
    pm_Aft p l e R s m args below meth c D dA b A ad M o M' U Ls (c0 + mc) (s0 + ms) g g.stack (doInvoke e (U.setTop g) [] mk a).1 := by
  have hnU := X.named hn
  have h3 : (Cond.initialized y.cls).before a U = true := word_at X.warmed (good_of_word rfl) hini
  obtain ⟨kY, hkY, -⟩ := className_of_methodNamed hnU
  exact pm_back X hM hg hsize hdg hW hnU (by rw [X.warmed.alike.method?]; exact hmY) hcY hlY hkY (Cond.initialized_spec (findClass_of_methodNamed hnU) hkY h3) (fun w hw => word_at X.warmed (good_of_word (hws w hw).2) (hws w hw).1) hP hrc hrs hframes hlocals hc hs
theorem pm_Aft.front {D : va_G} {dA : Nat → ClassId} {b : Nat} {A : Nat → Prop} {ad : Nat → Nat} {M M' : pm_M} {o : pm_O} {T : State} {locs : List Loc} {cells slots : Nat} {g : JFrame} {rest : List Value} {f0 f1 : State} {T2 : State} (h : pm_Aft p l e R s m args below meth c D dA b A ad M o M' T locs cells slots { g with stack := rest } rest f0) (hf : ∀ t, Steps p.tables e below f0 t → Steps p.tables e below f1 t) (hT : T2.heap = T.heap) : pm_Aft p l e R s m args below meth c D dA b A ad M o M' T2 locs cells slots g rest f1 := by
  obtain ⟨ad', U, L, h1, h2, h3, h4, h5, h6⟩ := h
  refine ⟨ad', U, L, h1, h2, h3, h4, by rw [hT]; exact h5, ?_⟩
  cases o with
  | inl v => exact ⟨h6.1, hf _ h6.2⟩
  | inr E =>
    obtain ⟨q, ce, g1, g2, g3, g4⟩ := h6
    exact ⟨q, ce, g1, g2, g3, hf _ g4⟩
/-- a method's code, with or without handlers -/
def pm_Cd (s : State) (y : MethodName) (maxL : Nat) : Prop := ∃ (mk : MethodId) (methY : Method) (cY : Code), s.methodNamed? y = some mk ∧ s.vm.method? mk = some methY ∧ methY.code = some cY ∧ cY.maxLocals = maxL ∧ parseMethodDescriptor y.desc = some methY.sig
theorem pm_callV {T : State} {locs : List Loc} {cells slots : Nat} {D : va_G} {dA : Nat → ClassId} {b : Nat} {A : Nat → Prop} {ad : Nat → Nat} {M M' : pm_M} {o : pm_O} {mc ms : Nat} {P : Array Value → State → Prop} {ws : List Cond} {rm : Room} {y : MethodName} {maxL index : Nat} {own C : String} {g : JFrame} {q : Addr} {cellB : Cell} {argsL rest : List Value}
    (X : Stand p l e R s m args below meth c T locs cells slots) (hexec : p.tables.exec = Jvm.exec) (hown : s.vm.findClass own = some m.cls) (hlink : (Cond.methodLink own index y).before args s = true) (hinst : (Cond.instanceMethod y).before args s = true) (hsel : (Cond.selects C y y).before args s = true)
    (hcd : pm_Cd s y maxL) (hini : (Cond.initialized y.cls).before args s = true) (hy : y.cls ≠ "java/lang/invoke/MethodHandle" ∧ y.cls ≠ "java/lang/invoke/VarHandle") (hcell : T.heap[q]? = some cellB) (hobj : cellB.vm.isStatics = false) (hcls : s.vm.findClass C = some cellB.cls)
    (hM : MetFree l y (headSpec ws rm) P (fun _ _ _ _ _ => True) (pm_Qo D dA b A ad M o M' mc ms)) (hbl : FrameBlind P) (hws : ∀ w ∈ ws, w.before args s = true ∧ goodWord w = true)
    (hg : g.method = m) (hsize : g.locals.size = c.maxLocals) (hlen : ∀ sig, parseMethodDescriptor y.desc = some sig → argsL.length = sig.parameters.length) (hstack : g.stack = argsL.reverse ++ .ref q :: rest) (hW : 2 * g.monitorRoom + (rest.map fun v => v.category).sum ≤ 8) (hdg : decode c.code g.pc = .ok (.invokevirtual index, 3))
    (hP : ∀ vm₁, s.WarmedH vm₁ → P (Value.ref q :: argsL).toArray (T.setVm vm₁)) (hrc : rm.cells = mc) (hrs : rm.slots = ms) (hframes : rm.frames + 1 ≤ R.frames) (hlocals : 8 + (maxL + 11) + rm.locals ≤ R.locals) (hc : cells + mc ≤ R.cells) (hs : slots + ms ≤ R.slots) :
    pm_Aft p l e R s m args below meth c D dA b A ad M o M' T locs (cells + mc) (slots + ms) g rest (T.setTop g) := by
  obtain ⟨mk, methM, hnamed, hmethM, hstM, habM⟩ := Cond.instanceMethod_spec hinst
  obtain ⟨mk', methM', cM, hn', hmethM', hcM, hlM, hsigM⟩ := hcd
  cases hnamed.symm.trans hn'
  cases hmethM.symm.trans hmethM'
  obtain ⟨c2, r2, m2, q1, q2, q3, q4, kP, hkP, hkPi⟩ := Cond.selects_spec hsel
  cases hcls.symm.trans q1
  cases (State.methodFound?_of_named hnamed hy).symm.trans q2
  cases hnamed.symm.trans q3
  have hselP : selectMethod e.platform s.vm cellB.cls mk = .method mk := by rw [Launch.admits_selectMethod X.admits]; exact q4
  obtain ⟨vm₁, X₁, hstep₁⟩ := X.invokevirtual hexec hown hlink hnamed hmethM hstM hkP hkPi hy (a := q) (cell := cellB) hcell
    (fun z h => by rw [h] at hobj; cases hobj) hselP hmethM habM hkP hkPi (g := g) hg (argsL := argsL) (rest := rest) (hlen _ hsigM) hstack hdg
  have h := pm_go (g := { g with stack := rest }) X₁ hM hg hsize hdg hW hnamed hmethM hcM hlM hini hws (hbl _ _ _ _ (hP vm₁ X₁.warmed)) hrc hrs hframes hlocals hc hs
  exact pm_Aft.front h (fun t ht => hstep₁ _ fun acts => by rw [doInvoke_state]; exact ht) rfl
theorem pm_callS {T : State} {locs : List Loc} {cells slots : Nat} {D : va_G} {dA : Nat → ClassId} {b : Nat} {A : Nat → Prop} {ad : Nat → Nat} {M M' : pm_M} {o : pm_O} {mc ms : Nat} {P : Array Value → State → Prop} {ws : List Cond} {rm : Room} {y : MethodName} {maxL index : Nat} {own : String} {g : JFrame} {argsL rest : List Value}
    (X : Stand p l e R s m args below meth c T locs cells slots) (hexec : p.tables.exec = Jvm.exec) (hown : s.vm.findClass own = some m.cls) (hlink : (Cond.methodLink own index y).before args s = true) (hstat : (Cond.static y).before args s = true)
    (hcd : pm_Cd s y maxL) (hini : (Cond.initialized y.cls).before args s = true) (hy : y.cls ≠ "java/lang/invoke/MethodHandle" ∧ y.cls ≠ "java/lang/invoke/VarHandle")
    (hM : MetFree l y (headSpec ws rm) P (fun _ _ _ _ _ => True) (pm_Qo D dA b A ad M o M' mc ms)) (hbl : FrameBlind P) (hws : ∀ w ∈ ws, w.before args s = true ∧ goodWord w = true)
    (hg : g.method = m) (hsize : g.locals.size = c.maxLocals) (hlen : ∀ sig, parseMethodDescriptor y.desc = some sig → argsL.length = sig.parameters.length) (hstack : g.stack = argsL.reverse ++ rest) (hW : 2 * g.monitorRoom + (rest.map fun v => v.category).sum ≤ 8) (hdg : decode c.code g.pc = .ok (.invokestatic index, 3))
    (hP : ∀ vm₁, s.WarmedH vm₁ → P argsL.toArray (T.setVm vm₁)) (hrc : rm.cells = mc) (hrs : rm.slots = ms) (hframes : rm.frames + 1 ≤ R.frames) (hlocals : 8 + (maxL + 11) + rm.locals ≤ R.locals) (hc : cells + mc ≤ R.cells) (hs : slots + ms ≤ R.slots) :
    pm_Aft p l e R s m args below meth c D dA b A ad M o M' T locs (cells + mc) (slots + ms) g rest (T.setTop g) := by
  obtain ⟨mk, methM, cM, hnamed, hmethM, hcM, hlM, hsigM⟩ := hcd
  have hstatic : methM.isStatic = true := Cond.static_spec hnamed hmethM hstat
  obtain ⟨kP, hkP, -⟩ := className_of_methodNamed hnamed
  have hinitP : kP.init = .initialized := Cond.initialized_spec (findClass_of_methodNamed hnamed) hkP hini
  obtain ⟨vm₁, X₁, hstep₁⟩ := X.invokestatic hexec hown hlink hnamed hmethM hstatic hkP hinitP hy (g := g) hg (argsL := argsL) (rest := rest) (hlen _ hsigM) hstack hdg
  have h := pm_go (g := { g with stack := rest }) X₁ hM hg hsize hdg hW hnamed hmethM hcM hlM hini hws (hbl _ _ _ _ (hP vm₁ X₁.warmed)) hrc hrs hframes hlocals hc hs
  exact pm_Aft.front h (fun t ht => hstep₁ _ fun acts => by rw [doInvoke_state]; exact ht) rfl
theorem pm_callI {T : State} {locs : List Loc} {cells slots : Nat} {D : va_G} {dA : Nat → ClassId} {b : Nat} {A : Nat → Prop} {ad : Nat → Nat} {M M' : pm_M} {o : pm_O} {mc ms : Nat} {P : Array Value → State → Prop} {ws : List Cond} {rm : Room} {y : MethodName} {bytes : ByteArray} {maxL index : Nat} {own : String} {g : JFrame} {q : Addr} {argsL rest : List Value}
    (X : Stand p l e R s m args below meth c T locs cells slots) (hexec : p.tables.exec = Jvm.exec) (hown : s.vm.findClass own = some m.cls) (hy1 : y.name = "<init>") (hlink : (Cond.methodLink own index y).before args s = true ∨ ∃ host, (Cond.methodLinkNest own index y host).before args s = true) (hinst : (Cond.instanceMethod y).before args s = true)
    (hcode : (Cond.code y bytes maxL none).before args s = true) (hini : (Cond.initialized y.cls).before args s = true) (hy : y.cls ≠ "java/lang/invoke/MethodHandle" ∧ y.cls ≠ "java/lang/invoke/VarHandle")
    (hM : MetFree l y (headSpec ws rm) P (fun _ _ _ _ _ => True) (pm_Qo D dA b A ad M o M' mc ms)) (hbl : FrameBlind P) (hws : ∀ w ∈ ws, w.before args s = true ∧ goodWord w = true)
    (hg : g.method = m) (hsize : g.locals.size = c.maxLocals) (hlen : ∀ sig, parseMethodDescriptor y.desc = some sig → argsL.length = sig.parameters.length) (hstack : g.stack = argsL.reverse ++ .ref q :: rest) (hW : 2 * g.monitorRoom + (rest.map fun v => v.category).sum ≤ 8) (hdg : decode c.code g.pc = .ok (.invokespecial index, 3))
    (hP : ∀ vm₁, s.WarmedH vm₁ → P (Value.ref q :: argsL).toArray (T.setVm vm₁)) (hrc : rm.cells = mc) (hrs : rm.slots = ms) (hframes : rm.frames + 1 ≤ R.frames) (hlocals : 8 + (maxL + 11) + rm.locals ≤ R.locals) (hc : cells + mc ≤ R.cells) (hs : slots + ms ≤ R.slots) :
    pm_Aft p l e R s m args below meth c D dA b A ad M o M' T locs (cells + mc) (slots + ms) g rest (T.setTop g) := by
  subst hg
  have hpl : e.platform.magicAccessors = ({} : Platform).magicAccessors := by rw [X.admits.platform]
  obtain ⟨mk, vm₁, hnamed, hW₁, hstep₁⟩ : ∃ (mk : MethodId) (vm₁ : Vm), s.methodNamed? y = some mk ∧ s.WarmedH vm₁ ∧ ∀ t, (∀ acts, Steps p.tables e below (doInvoke e ((T.setVm vm₁).setTop { g with stack := rest }) acts mk (Value.ref q :: argsL).toArray).1 t) → Steps p.tables e below (T.setTop g) t := by
    rcases hlink with hlink | ⟨host, hlink⟩
    · obtain ⟨mk, methM, cM, kP, vm₁, hnamed, hmethM, hcodeM, -, hlocalsM, -, hkP, -, hW₁, hstep₁⟩ := Steps.initColdArgs (e := e) X.here hexec X.warmed hpl hown hy1 hy hlink hinst hcode (f := g) rfl hlen hstack hdg
      exact ⟨mk, vm₁, hnamed, hW₁, hstep₁⟩
    · obtain ⟨mk, methM, cM, kP, vm₁, hnamed, hmethM, hcodeM, -, hlocalsM, -, hkP, -, hW₁, hstep₁⟩ := Steps.initColdArgsNest (e := e) X.here hexec X.warmed hpl hown hy1 hy hlink hinst hcode (f := g) rfl hlen hstack hdg
      exact ⟨mk, vm₁, hnamed, hW₁, hstep₁⟩
  have X₁ := X.noted hW₁
  obtain ⟨methM, cM, hmethM, hcM, -, hlM, -, -, -, -⟩ := Cond.code_spec hnamed hcode
  have h := pm_go (g := { g with stack := rest }) X₁ hM rfl hsize hdg hW hnamed hmethM hcM hlM hini hws (hbl _ _ _ _ (hP vm₁ X₁.warmed)) hrc hrs hframes hlocals hc hs
  exact pm_Aft.front h (fun t ht => hstep₁ _ fun acts => by rw [doInvoke_state]; exact ht) rfl
end PMCALL
