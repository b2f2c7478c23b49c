/-! What stays true in every frame. -/
def pm_tys (dA : Nat → ClassId) : List (ClassId × FieldType) := [(dA 0, .int), (dA 1, .boolean), (dA 2, .long), (dA 3, .object "StowPlan$Box")]
/-- a static field that holds a reference or null; its cell is none of A's -/
def pm_Zs (C n d : String) (A : Nat → Prop) (U : State) (H : Heap) : Prop := ∃ (c : ClassId) (k : Class) (i : Nat) (f : Field) (a : Nat) (cell : Cell) (v : Value), U.vm.findClass C = some c ∧ U.fieldFound? C n d = some (c, k, i, f) ∧ f.isStatic = true ∧ k.statics = some a ∧ H[a]? = some cell ∧ cell.vm.isStatics = true ∧ cell.cls = c ∧ f.slot < cell.slots.size ∧ k.staticTypes[f.slot]? = some f.type ∧ cell.slots[f.slot]? = some v ∧ v.isRef = true ∧ ¬ A a
theorem pm_Zs.next {C n d : String} {A B : Nat → Prop} {s U : State} {H : Heap} (h : pm_Zs C n d A s s.heap) (hvm : s.vm.Alike U.vm) (hq : ∀ a : Nat, a < s.heap.size → ¬ A a → H[a]? = s.heap[a]?) (hAB : ∀ q, q < s.heap.size → B q → A q) : pm_Zs C n d B U H := by
  obtain ⟨c, k, i, f, a, cell, v, h1, h2, h3, h4, h5, h6, h7, h8, h9, h10, h11, h12⟩ := h
  obtain ⟨k', hi', he⟩ := State.fieldFound?_setVm hvm h2
  have hlt := (Array.getElem?_eq_some_iff.mp h5).1
  exact ⟨c, k', i, f, a, cell, v, by rw [hvm.findClass]; exact h1, hi', h3, by rw [he]; exact h4, by rw [hq a hlt h12]; exact h5, h6, h7, h8, by rw [he]; exact h9, h10, h11, fun z => h12 (hAB a hlt z)⟩
theorem pm_Zs.lays {C n d : String} {A : Nat → Prop} {s : State} {args : Array Value} (h : pm_Zs C n d A s s.heap) : (Cond.laysStatic C n d).before args s = true := by
  obtain ⟨c, k, i, f, a, cell, v, h1, h2, h3, h4, h5, h6, h7, h8, h9, h10, h11, h12⟩ := h
  exact Cond.laysStatic_of (o := none) (idx := []) h1 h2 h3 h4 h5 h6 h7 h8 h9
theorem pm_Zs.ref {C n d : String} {A : Nat → Prop} {s : State} {args : Array Value} (h : pm_Zs C n d A s s.heap) : (Cond.isRef (.static C n d)).before args s = true := by
  obtain ⟨c, k, i, f, a, cell, v, h1, h2, h3, h4, h5, h6, h7, h8, h9, h10, h11, h12⟩ := h
  have he : (Term.static C n d).eval args s none [] s = some v := by
    simp [Term.eval, State.fieldNamed?, h2, h3, h4, h5, h6, h10]
  simp only [Cond.before, Cond.holds, Cond.value, he]
  cases v <;> simp_all [Value.isRef]
theorem pm_Zs.of {C n d : String} {A : Nat → Prop} {s : State} {args : Array Value} (hl : (Cond.laysStatic C n d).before args s = true) (hr : (Cond.isRef (.static C n d)).before args s = true) (hA : ∀ a : Nat, a < s.heap.size → ¬ A a) : pm_Zs C n d A s s.heap := by
  obtain ⟨c, k, i, f, a, cell, h1, h2, h3, h4, h5, h6, h7, h8, h9⟩ := Cond.laysStatic_spec hl
  cases hv : (Term.static C n d).eval args s none [] s with
  | none => simp [Cond.before, Cond.holds, Cond.value, hv] at hr
  | some w =>
    obtain ⟨-, a', cell', ha', hcell', -, hslot⟩ := Term.static_spec h2 hv
    cases h4.symm.trans ha'
    cases h5.symm.trans hcell'
    refine ⟨c, k, i, f, a, cell, w, h1, h2, h3, h4, h5, h6, h7, h8, h9, hslot, ?_, hA a (Array.getElem?_eq_some_iff.mp h5).1⟩
    simp only [Cond.before, Cond.holds, Cond.value, hv] at hr
    cases w <;> simp_all [Value.isRef]
def pm_strs : List (String × Nat × String) := [("StowPlan", 59, "no box has such numbers"), ("StowPlan", 69, "there are 40 boxes"), ("StowPlan", 93, "no such cell"), ("StowPlan", 133, "no such fault, or nothing such of it"), ("StowPlan", 148, "no such fault"), ("StowPlan", 150, "no such port"), ("StowPlan", 158, "no such bay"), ("StowPlan", 190, "no such box, or nothing such of it")]
def pm_ncs : List (String × String) := [("java/lang/IllegalStateException", "java/lang/IllegalArgumentException")]
def pm_K (D : va_G) (dA : Nat → ClassId) (S : pm_S) (b : Nat) (A : Nat → Prop) (U : State) : Prop :=
  va_K D pm_cl (pm_tys dA) U ∧ (∀ w ∈ pm_nw, va_Nw w U) ∧ va_AO "StowPlan$Box" U ∧ (∀ q ∈ pm_strs, ∃ sa, vk_R q.1 q.2.1 q.2.2 sa U) ∧ (∀ q ∈ pm_ncs, va_Nc q.1 q.2 U) ∧ (pm_Zs "java/lang/Throwable" "UNASSIGNED_STACK" "[Ljava/lang/StackTraceElement;" A U U.heap ∧ pm_Zs "java/lang/Throwable" "SUPPRESSED_SENTINEL" "Ljava/util/List;" A U U.heap) ∧ (b < U.heap.size ∧ ¬ A b ∧ va_X b S.1 S.2 U U.heap) ∧ (∀ q : Nat, U.heap.size ≤ q → A q)
theorem pm_nw_warm {w : Cond} {s U : State} (hw : w ∈ pm_nw) (hW : s.WarmedH U.vm) (h : va_Nw w s) : va_Nw w U := by
  have h1 := (List.mem_filter.mp hw).2
  cases w <;> simp only [pm_isN, Bool.false_eq_true] at h1
  · exact va_Nw.warmM hW h
  · exact va_Nw.warmD hW h
  · exact va_Nw.warmC hW h
theorem pm_K.next {D : va_G} {dA : Nat → ClassId} {S : pm_S} {b : Nat} {A B : Nat → Prop} {s U : State} {H : Heap} {locs : List Loc} (h : pm_K D dA S b A s) (hS : va_S A s.heap H locs) (hW : s.WarmedH U.vm) (hU : U.heap = H) (hAB : ∀ q, q < s.heap.size → B q → A q) (hB2 : ∀ q : Nat, H.size ≤ q → B q) : pm_K D dA S b B U := by
  obtain ⟨h1, h2, h3, h4, h5, h6, ⟨h7, h8, h9⟩, h11⟩ := h
  subst hU
  refine ⟨va_K.moved hW.alike h1, fun w hw => pm_nw_warm hw hW (h2 w hw), va_AO.moved hW.alike h3, fun q hq => ?_, fun q hq => va_Nc.moved hW.alike (h5 q hq), ⟨h6.1.next hW.alike hS.2.1 hAB, h6.2.next hW.alike hS.2.1 hAB⟩, ⟨Nat.lt_of_lt_of_le h7 hS.1, fun z => h8 (hAB b h7 z), ?_⟩, hB2⟩
  · obtain ⟨sa, hsa⟩ := h4 q hq
    exact ⟨sa, vk_R.warm hW hsa⟩
  · exact va_X.moved hW.alike (h9.kept (hS.2.1 b h7 h8))
theorem pm_at_vm {D : va_G} {a : Nat} {e : va_E} {H : Heap} {cell : Cell} (h : va_at D pm_cl (a, e) H) (hc : H[a]? = some cell) : cell.vm.isStatics = false := by
  cases e with
  | inl x =>
    have h1 : H[a]? = some (vp_cell x.1 x.2) := h
    rw [hc] at h1
    cases h1
    obtain ⟨cA, n, f⟩ := x
    rcases f with f | f | f | f | f <;> rfl
  | inr o =>
    obtain ⟨r, h1, cell', g1, g2, g3, -⟩ := h
    have g1 : H[a]? = some cell' := g1
    rw [hc] at g1
    cases g1
    rw [g3]; rfl
/-- how a method ends: o, M' as the pure machine says -/
def pm_Qo (D : va_G) (dA : Nat → ClassId) (b : Nat) (A : Nat → Prop) (ad : Nat → Nat) (M : pm_M) (o : pm_O) (M' : pm_M) (mc ms : Nat) : Array Value → State → Outcome → State → Prop := fun _ st oc t =>
  ∃ (ad' : Nat → Nat) (Ls : List Loc), st.WarmedH t.vm ∧ st.sameButNew ({ t with vm := st.vm } : State) Ls mc ms ∧ (∀ q ∈ Ls, A q.base) ∧ (∀ q, pm_b M q → pm_b M' q ∧ ad' q = ad q) ∧ pm_W D dA b A ad' M' t.heap ∧ va_F A st t ∧ (match o with
    | .inl v => oc = .returned (v.map (pm_ren ad')) ∧ ∀ w, v = some w → pm_vb M' w
    | .inr E => ∃ (q : Addr) (ce : Cell), oc = .threw q ∧ t.heap[q]? = some ce ∧ ce.vm = .none ∧ st.vm.findClass E = some ce.cls)
def pm_rm (d mc ms : Nat) : Room := { frames := d + 8, cells := mc, slots := ms, locals := 60 * d + 200 }
def pm_ws (y : MethodName) (cc : ByteArray) (nL : Nat) (ret : Option FieldType) : List Cond := Cond.code y cc nL ret :: pm_gw
/-- what a frame of the method owes at its end -/
def pm_MQ (below : List Frame) (Qo : Array Value → State → Outcome → State → Prop) (a : Array Value) (s : State) : State → Prop := fun t => ∃ o, t.status = .running ∧ Ended t below o ∧ Qo a s o t
def pm_Pc (D : va_G) (dA : Nat → ClassId) (S : pm_S) (b : Nat) (A : Nat → Prop) (ad : Nat → Nat) (M : pm_M) (sz : Nat) (av : List Value) : Array Value → State → Prop := va_Pc (av.map (pm_ren ad)) (fun U => U.heap.size = sz ∧ pm_W D dA b A ad M U.heap ∧ pm_K D dA S b A U)
theorem pm_blind {D : va_G} {dA : Nat → ClassId} {S : pm_S} {b : Nat} {A : Nat → Prop} {ad : Nat → Nat} {M : pm_M} {sz : Nat} {av : List Value} : FrameBlind (pm_Pc D dA S b A ad M sz av) := by
  intro a U g mk h
  obtain ⟨h0, h1, h2, h3⟩ := h
  refine ⟨h0, h1, h2, ?_⟩
  have hS : va_S A U.heap U.heap [] := va_S.rf
  exact h3.next (U := U.calling g mk a) hS (State.WarmedH.refl U) rfl (fun _ _ z => z) h3.2.2.2.2.2.2.2
theorem W.mono {p : Program} {l : Launch} {e : Env} {R : Room} {s : State} {m : MethodId} {args : Array Value} {below : List Frame} {meth : Method} {c : Code} {H : Heap} {locs : List Loc} {cells slots : Nat} {Q Q' : State → Prop} {g : JFrame} (h : ∀ t, Q t → Q' t) (k : W p l e R s m args below meth c H locs cells slots Q g) : W p l e R s m args below meth c H locs cells slots Q' g := by
  intro T hT X
  obtain ⟨t, a, b⟩ := k T hT X
  exact ⟨t, a, h t b⟩
