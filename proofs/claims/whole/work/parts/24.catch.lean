/-! Catching: the rows of the exception table are asked one by one; a row's class may be linked here for the first time. -/
section PMCATCH
theorem pm_row {Q : Handler → Pre} {E : CtlPost} {e : Env} {d : Bool} {acts : List Action} {u : State} {f : JFrame} {a : Addr} {x : ExceptionTableEntry} {t : List ExceptionTableEntry} {k : ClassId} {cell : Cell} (hx : covers x f.pc = true) (h0 : x.catchType ≠ 0)
    (hl : u.vm.ClassLinks e.platform f.method.cls x.catchType k) (hcell : u.heap[a]? = some cell) (hobj : ∀ z, cell.vm ≠ .statics z) (hk : ∃ z, u.vm.classes[cell.cls]? = some z) (hc : ∃ z, u.vm.classes[k]? = some z) :
    wp (findHandler.go f a (x :: t)) Q E e d acts u ↔ if u.vm.assignable cell.cls k = true then Q (.found x.handlerPc) d acts (u.setVm (u.vm.noted f.method.cls x.catchType (.cls k))) else wp (findHandler.go f a t) Q E e d acts (u.setVm (u.vm.noted f.method.cls x.catchType (.cls k))) := by
  have hal : u.vm.Alike (u.vm.noted f.method.cls x.catchType (.cls k)) := (Vm.Alike.refl u.vm).noted _ _ _
  obtain ⟨g1, g2⟩ := (resolveClass_links e.toSetting hl).op (op := VmOp.resolveClass f.method.cls x.catchType) rfl
  obtain ⟨z1, hz1⟩ := hk
  obtain ⟨z2, hz2⟩ := hc
  obtain ⟨w1, hw1, -⟩ := hal.2.2 _ _ hz1
  obtain ⟨w2, hw2, -⟩ := hal.2.2 _ _ hz2
  have has : (u.vm.noted f.method.cls x.catchType (.cls k)).assignable cell.cls k = u.vm.assignable cell.cls k := by rw [hal.assignable]
  simp only [covers] at hx
  cases hfit : u.vm.assignable cell.cls k with
  | true =>
    rw [hfit] at has
    simp [findHandler.go, hx, h0, g1, g2, hcell, hobj, hw1, hw2, has, VmOp.dirties, VmOp.acts]
  | false =>
    rw [hfit] at has
    simp [findHandler.go, hx, h0, g1, g2, hcell, hobj, hw1, hw2, has, VmOp.dirties, VmOp.acts]
theorem pm_rows {e : Env} {s0 : State} {f : JFrame} {a : Addr} {cell : Cell} (hobj : ∀ z, cell.vm ≠ .statics z) (hk0 : ∃ z, s0.vm.classes[cell.cls]? = some z) (x : ExceptionTableEntry) (suf : List ExceptionTableEntry) (hx : covers x f.pc = true) (h0 : x.catchType ≠ 0) {k : ClassId} (hl : s0.vm.ClassLinks e.platform f.method.cls x.catchType k) (hfit : s0.vm.assignable cell.cls k = true) :
    ∀ (pre : List ExceptionTableEntry) (u : State), s0.WarmedH u.vm → u.heap[a]? = some cell → (∀ y ∈ pre, covers y f.pc = true ∧ y.catchType ≠ 0 ∧ ∃ k', s0.vm.ClassLinks e.platform f.method.cls y.catchType k' ∧ s0.vm.assignable cell.cls k' = false) →
      ∃ vm', s0.WarmedH vm' ∧ ∀ (Q : Handler → Pre) (E : CtlPost) (d : Bool) (acts : List Action), wp (findHandler.go f a (pre ++ x :: suf)) Q E e d acts u ↔ Q (.found x.handlerPc) d acts (u.setVm vm') := by
  obtain ⟨z0, hz0⟩ := hk0
  have step : ∀ (y : ExceptionTableEntry) (k' : ClassId), s0.vm.ClassLinks e.platform f.method.cls y.catchType k' → ∀ u : State, s0.WarmedH u.vm → u.vm.ClassLinks e.platform f.method.cls y.catchType k' ∧ (∃ z, u.vm.classes[cell.cls]? = some z) ∧ (∃ z, u.vm.classes[k']? = some z) ∧ s0.WarmedH (u.vm.noted f.method.cls y.catchType (.cls k')) := by
    intro y k' hy u hW
    obtain ⟨dk, _, _, kt, hd, _, _, _, _, hkt, _, hopen⟩ := hy.here
    obtain ⟨w1, hw1, -⟩ := hW.alike.2.2 _ _ hz0
    obtain ⟨w2, hw2, -⟩ := hW.alike.2.2 _ _ hkt
    exact ⟨hW.classLinks hy, ⟨w1, hw1⟩, ⟨w2, hw2⟩, hW.noted hd hopen (State.rightAt_cls hy)⟩
  intro pre
  induction pre with
  | nil =>
    intro u hW hcell _
    obtain ⟨a1, a2, a3, a4⟩ := step x k hl u hW
    refine ⟨_, a4, fun Q E d acts => ?_⟩
    rw [List.nil_append, pm_row hx h0 a1 hcell hobj a2 a3, if_pos (by rw [hW.alike.assignable]; exact hfit)]
  | cons y ys ih =>
    intro u hW hcell hp
    obtain ⟨b1, b2, k', b3, b4⟩ := hp y List.mem_cons_self
    obtain ⟨a1, a2, a3, a4⟩ := step y k' b3 u hW
    obtain ⟨vm', c1, c2⟩ := ih (u.setVm (u.vm.noted f.method.cls y.catchType (.cls k'))) a4 hcell (fun z hz => hp z (List.mem_cons_of_mem _ hz))
    refine ⟨vm', c1, fun Q E d acts => ?_⟩
    rw [List.cons_append, pm_row b1 b2 a1 hcell hobj a2 a3, if_neg (by rw [hW.alike.assignable, b4]; exact Bool.false_ne_true)]
    exact c2 Q E d acts
variable {p : Program} {l : Launch} {e : Env} {R : Room} {s : State} {m : MethodId} {args : Array Value} {below : List Frame} {meth : Method} {c : Code}
theorem pm_catch {T : State} {locs : List Loc} {cells slots : Nat} (X : Stand p l e R s m args below meth c T locs cells slots) {g : JFrame} (hg : g.method = m) {own E name : String} {ce : Cell} {q : Addr} (hown : s.vm.findClass own = some m.cls) (pre : List ExceptionTableEntry) (x : ExceptionTableEntry) (suf : List ExceptionTableEntry) (hsplit : c.exceptionTable.toList = pre ++ x :: suf)
    (hpass : ∀ z ∈ pre, covers z g.pc = true ∧ z.catchType ≠ 0 ∧ ∃ nm : String, (Cond.classLink own z.catchType nm).before args s = true ∧ va_Nc E nm s) (hx : covers x g.pc = true) (h0 : x.catchType ≠ 0)
    (hlink : (Cond.classLink own x.catchType name).before args s = true) (hcast : (Cond.castable E name).before args s = true) (hcell : T.heap[q]? = some ce) (hv : ce.vm = .none) (hcl : s.vm.findClass E = some ce.cls) :
    ∃ vm', Stand p l e R s m args below meth c (T.setVm vm') locs cells slots ∧ ∀ t, Steps p.tables e below ((T.setVm vm').setTop { g with pc := x.handlerPc, stack := [.ref q] }) t → Steps p.tables e below ((T.setTop g).pushFrame (.throwing q)) t := by
  subst hg
  have hpl : e.platform.magicAccessors = ({} : Platform).magicAccessors := by rw [X.admits.platform]
  obtain ⟨c3, c4, hc3, hc4, hasg⟩ := Cond.castable_spec hcast
  cases Option.some.inj (hc3.symm.trans hcl)
  obtain ⟨c5, hc5, hcl5⟩ := Cond.classLink_spec hown hlink e.platform hpl
  cases Option.some.inj (hc4.symm.trans hc5)
  obtain ⟨k9, hk9, -⟩ := Vm.findClass_spec hcl
  obtain ⟨vm', hW', hq⟩ := pm_rows (e := e) (s0 := s) (f := g) (a := q) (cell := ce) (fun z hz => by rw [hv] at hz; cases hz) ⟨k9, hk9⟩ x suf hx h0 hcl5 hasg pre ((T.setTop g).pushFrame (.throwing q)) X.warmed hcell (fun z hz => by
    obtain ⟨a1, a2, nm, a3, a4⟩ := hpass z hz
    obtain ⟨c6, hc6, hcl6⟩ := Cond.classLink_spec hown a3 e.platform hpl
    obtain ⟨a8, b8, h1, h2, h3⟩ := a4
    cases Option.some.inj (h1.symm.trans hcl)
    cases Option.some.inj (h2.symm.trans hc6)
    exact ⟨a1, a2, _, hcl6, h3⟩)
  have hF : ∀ (Q : Handler → Pre) (E : CtlPost) (d : Bool) (acts : List Action), wp (findHandler g q) Q E e d acts ((T.setTop g).pushFrame (.throwing q)) ↔ Q (.found x.handlerPc) d acts (((T.setTop g).pushFrame (.throwing q)).setVm vm') := by
    intro Q E d acts
    rw [W.findHandler_eq (s := (T.setTop g).pushFrame (.throwing q)) (meth := meth) (code := c) X.method' X.code, hsplit]
    exact hq Q E d acts
  refine ⟨vm', X.noted hW', fun t ht => ?_⟩
  obtain ⟨hgo, hw⟩ := X.here.throwing q
  refine Steps.head hgo hw ?_
  have hstep : (stepThrowing e ((T.setTop g).pushFrame (.throwing q)) q (.java g :: T.frames.tail)).1 = (((T.setTop g).pushFrame (.throwing q)).setVm vm').setFrames (.java { g with pc := x.handlerPc, stack := [.ref q] } :: T.frames.tail) := by
    simp only [stepThrowing, searchFrame, vmDo]
    generalize hr : Sem.go _ e false [] ((T.setTop g).pushFrame (.throwing q)) = res
    obtain ⟨as, rfl, ha⟩ := Sem.eq_ok_of hr (a := Handler.found x.handlerPc) (s' := ((T.setTop g).pushFrame (.throwing q)).setVm vm') (acts' := []) (by simp [hF _ _ _ _])
    rfl
  rw [stepThread_throwing (frames_entered X.here.top _), hstep]
  obtain ⟨g₀, hg0⟩ := Option.isSome_iff_exists.mp X.here.top
  obtain ⟨r, hr⟩ := State.topJava?_eq_some.mp hg0
  have hr' : (T.setVm vm').frames = .java g₀ :: r := hr
  rw [State.setTop_of_frames _ hr'] at ht
  have hsw : ∀ (u : State) (F G : List Frame), ((u.setFrames F).setVm vm').setFrames G = (u.setVm vm').setFrames G := fun u F G => by
    rw [show (u.setFrames F).setVm vm' = (u.setVm vm').setFrames F from rfl, State.setFrames_setFrames]
  rw [hr, List.tail_cons, State.pushFrame, hsw, State.setTop_of_frames _ hr, hsw]
  exact ht
end PMCATCH
