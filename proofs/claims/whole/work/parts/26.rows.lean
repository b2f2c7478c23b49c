/-! Rows for values of any kind, and the frame of a method as the pure machine sees it. -/
theorem pm_ty_ren (ad : Nat → Nat) (v : Value) : pm_ty (pm_ren ad v) = pm_ty v := by cases v <;> rfl
theorem pm_ren_ty {ad : Nat → Nat} {v : Value} (h : ¬ pm_ty v = 2) : pm_ren ad v = v := by cases v <;> first | rfl | (simp [pm_ty] at h)
section PMROW
variable {p : Program} {l : Launch} {e : Env} {R : Room} {s : State} {m : MethodId} {args : Array Value} {below : List Frame} {meth : Method} {c : Code} {H : Heap} {locs : List Loc} {cells slots : Nat} {Q : State → Prop} {cc : ByteArray} {pc : Nat} {ls ls' : Array Slot} {rest : List Value}
theorem r_aload (hx : p.tables.exec = Jvm.exec) (hb : c.code = cc) {i : Nat} {w : Value} (hw : pm_ty w = 2) (hdg : decode cc pc = .ok (.aload i, 2)) (hl : ls[i]? = some (.val w)) (k : W p l e R s m args below meth c H locs cells slots Q (F0 m (pc + 2) ls (w :: rest))) : W p l e R s m args below meth c H locs cells slots Q (F0 m pc ls rest) := by
  cases w with
  | null => exact lv_aloadN hx hb hdg hl k
  | ref q => exact lv_aload hx hb hdg hl k
  | _ => cases hw
theorem r_aload_n (hx : p.tables.exec = Jvm.exec) (hb : c.code = cc) {i : Fin 4} {w : Value} (hw : pm_ty w = 2) (hdg : decode cc pc = .ok (.aload_n i, 1)) (hl : ls[i.val]? = some (.val w)) (k : W p l e R s m args below meth c H locs cells slots Q (F0 m (pc + 1) ls (w :: rest))) : W p l e R s m args below meth c H locs cells slots Q (F0 m pc ls rest) := by
  cases w with
  | null => exact lv_aload_nN hx hb hdg rfl hl k
  | ref q => exact lv_aload_n hx hb hdg rfl hl k
  | _ => cases hw
theorem r_iload (hx : p.tables.exec = Jvm.exec) (hb : c.code = cc) {i : Nat} {w : Value} (hw : pm_ty w = 0) (hdg : decode cc pc = .ok (.iload i, 2)) (hl : ls[i]? = some (.val w)) (k : W p l e R s m args below meth c H locs cells slots Q (F0 m (pc + 2) ls (w :: rest))) : W p l e R s m args below meth c H locs cells slots Q (F0 m pc ls rest) := by
  cases w with
  | int x => exact lv_iload hx hb hdg hl k
  | _ => cases hw
theorem r_iload_n (hx : p.tables.exec = Jvm.exec) (hb : c.code = cc) {i : Fin 4} {w : Value} (hw : pm_ty w = 0) (hdg : decode cc pc = .ok (.iload_n i, 1)) (hl : ls[i.val]? = some (.val w)) (k : W p l e R s m args below meth c H locs cells slots Q (F0 m (pc + 1) ls (w :: rest))) : W p l e R s m args below meth c H locs cells slots Q (F0 m pc ls rest) := by
  cases w with
  | int x => exact lv_iload_n hx hb hdg rfl hl k
  | _ => cases hw
theorem r_lload (hx : p.tables.exec = Jvm.exec) (hb : c.code = cc) {i : Nat} {w : Value} (hw : pm_ty w = 1) (hdg : decode cc pc = .ok (.lload i, 2)) (hl : ls[i]? = some (.val w)) (k : W p l e R s m args below meth c H locs cells slots Q (F0 m (pc + 2) ls (w :: rest))) : W p l e R s m args below meth c H locs cells slots Q (F0 m pc ls rest) := by
  cases w with
  | long x => exact lv_lload hx hb hdg hl k
  | _ => cases hw
theorem r_lload_n (hx : p.tables.exec = Jvm.exec) (hb : c.code = cc) {i : Fin 4} {w : Value} (hw : pm_ty w = 1) (hdg : decode cc pc = .ok (.lload_n i, 1)) (hl : ls[i.val]? = some (.val w)) (k : W p l e R s m args below meth c H locs cells slots Q (F0 m (pc + 1) ls (w :: rest))) : W p l e R s m args below meth c H locs cells slots Q (F0 m pc ls rest) := by
  cases w with
  | long x => exact lv_lload_n hx hb hdg rfl hl k
  | _ => cases hw
theorem r_istore (hx : p.tables.exec = Jvm.exec) (hb : c.code = cc) {i : Nat} {w : Value} (hw : pm_ty w = 0) (hdg : decode cc pc = .ok (.istore i, 2)) (e' : storeLocals ls i w = some ls') (k : W p l e R s m args below meth c H locs cells slots Q (F0 m (pc + 2) ls' rest)) : W p l e R s m args below meth c H locs cells slots Q (F0 m pc ls (w :: rest)) := by
  cases w with
  | int x =>
    intro T hT X
    obtain ⟨t, a, b⟩ := k T hT X
    refine ⟨t, ?_, b⟩
    jvm_step X.here [X.here.top, ↓top_set X.here.top, hx, hb, hdg, e']
    exact a
  | _ => cases hw
theorem r_istore_n (hx : p.tables.exec = Jvm.exec) (hb : c.code = cc) {i : Fin 4} {w : Value} (hw : pm_ty w = 0) (hdg : decode cc pc = .ok (.istore_n i, 1)) (e' : storeLocals ls i.val w = some ls') (k : W p l e R s m args below meth c H locs cells slots Q (F0 m (pc + 1) ls' rest)) : W p l e R s m args below meth c H locs cells slots Q (F0 m pc ls (w :: rest)) := by
  cases w with
  | int x =>
    intro T hT X
    obtain ⟨t, a, b⟩ := k T hT X
    refine ⟨t, ?_, b⟩
    jvm_step X.here [X.here.top, ↓top_set X.here.top, hx, hb, hdg, e']
    exact a
  | _ => cases hw
theorem r_lstore (hx : p.tables.exec = Jvm.exec) (hb : c.code = cc) {i : Nat} {x : Int64} (hdg : decode cc pc = .ok (.lstore i, 2)) (e' : storeLocals ls i (.long x) = some ls') (k : W p l e R s m args below meth c H locs cells slots Q (F0 m (pc + 2) ls' rest)) : W p l e R s m args below meth c H locs cells slots Q (F0 m pc ls (.long x :: rest)) := by
  intro T hT X
  obtain ⟨t, a, b⟩ := k T hT X
  refine ⟨t, ?_, b⟩
  jvm_step X.here [X.here.top, ↓top_set X.here.top, hx, hb, hdg, e']
  exact a
theorem r_lstore_n (hx : p.tables.exec = Jvm.exec) (hb : c.code = cc) {i : Fin 4} {x : Int64} (hdg : decode cc pc = .ok (.lstore_n i, 1)) (e' : storeLocals ls i.val (.long x) = some ls') (k : W p l e R s m args below meth c H locs cells slots Q (F0 m (pc + 1) ls' rest)) : W p l e R s m args below meth c H locs cells slots Q (F0 m pc ls (.long x :: rest)) := by
  intro T hT X
  obtain ⟨t, a, b⟩ := k T hT X
  refine ⟨t, ?_, b⟩
  jvm_step X.here [X.here.top, ↓top_set X.here.top, hx, hb, hdg, e']
  exact a
theorem r_astore (hx : p.tables.exec = Jvm.exec) (hb : c.code = cc) {i : Nat} {w : Value} (hw : pm_ty w = 2) (hdg : decode cc pc = .ok (.astore i, 2)) (e' : storeLocals ls i w = some ls') (k : W p l e R s m args below meth c H locs cells slots Q (F0 m (pc + 2) ls' rest)) : W p l e R s m args below meth c H locs cells slots Q (F0 m pc ls (w :: rest)) := by
  cases w with
  | null =>
    intro T hT X
    obtain ⟨t, a, b⟩ := k T hT X
    refine ⟨t, ?_, b⟩
    jvm_step X.here [X.here.top, ↓top_set X.here.top, hx, hb, hdg, e', Value.isRef]
    exact a
  | ref q =>
    intro T hT X
    obtain ⟨t, a, b⟩ := k T hT X
    refine ⟨t, ?_, b⟩
    jvm_step X.here [X.here.top, ↓top_set X.here.top, hx, hb, hdg, e', Value.isRef]
    exact a
  | _ => cases hw
theorem r_astore_n (hx : p.tables.exec = Jvm.exec) (hb : c.code = cc) {i : Fin 4} {w : Value} (hw : pm_ty w = 2) (hdg : decode cc pc = .ok (.astore_n i, 1)) (e' : storeLocals ls i.val w = some ls') (k : W p l e R s m args below meth c H locs cells slots Q (F0 m (pc + 1) ls' rest)) : W p l e R s m args below meth c H locs cells slots Q (F0 m pc ls (w :: rest)) := by
  cases w with
  | null =>
    intro T hT X
    obtain ⟨t, a, b⟩ := k T hT X
    refine ⟨t, ?_, b⟩
    jvm_step X.here [X.here.top, ↓top_set X.here.top, hx, hb, hdg, e', Value.isRef]
    exact a
  | ref q =>
    intro T hT X
    obtain ⟨t, a, b⟩ := k T hT X
    refine ⟨t, ?_, b⟩
    jvm_step X.here [X.here.top, ↓top_set X.here.top, hx, hb, hdg, e', Value.isRef]
    exact a
  | _ => cases hw
theorem r_iinc (hx : p.tables.exec = Jvm.exec) (hb : c.code = cc) {i : Nat} {n : Int} {x : Int32} (hdg : decode cc pc = .ok (.iinc i n, 3)) (hg : ls[i]? = some (.val (.int x))) (e' : storeLocals ls i (.int (x + Int32.ofInt n)) = some ls') (k : W p l e R s m args below meth c H locs cells slots Q (F0 m (pc + 3) ls' rest)) : W p l e R s m args below meth c H locs cells slots Q (F0 m pc ls rest) := by
  intro T hT X
  obtain ⟨t, a, b⟩ := k T hT X
  refine ⟨t, ?_, b⟩
  jvm_step X.here [X.here.top, ↓top_set X.here.top, hx, hb, hdg, hg, e']
  exact a
end PMROW
/-- what a frame of method j knows from its start -/
def pm_Cx (p : Program) (l : Launch) (R : Room) (s : State) (m : MethodId) (args : Array Value) (meth : Method) (c : Code) (D : va_G) (dA : Nat → ClassId) (S : pm_S) (b : Nat) (A : Nat → Prop) (j d : Nat) (y : MethodName) (cc : ByteArray) (nL : Nat) (ret : Option FieldType) (rk : Nat) : Prop :=
  p.tables.exec = Jvm.exec ∧ c.code = cc ∧ c.maxLocals = nL ∧ s.vm.findClass (pm_cn (pm_own j)) = some m.cls ∧ (∀ w ∈ pm_gw, w.before args s = true) ∧ meth.locks = false ∧ meth.sig.returnType = ret ∧ meth.name = y.name ∧ pm_K D dA S b A s ∧ pm_lk pm_ms j = some (y, cc, nL, ret, rk) ∧ (d + 8 ≤ R.frames ∧ 60 * d + 200 ≤ R.locals) ∧ l.stackTraces = false ∧ c.exceptionTable.toList.map (fun x => (x.startPc, x.endPc, x.handlerPc, x.catchType)) = pm_hh j
/-- what it knows where it stands -/
def pm_Dy (D : va_G) (dA : Nat → ClassId) (b : Nat) (A : Nat → Prop) (ad0 : Nat → Nat) (M0 : pm_M) (s : State) (nL : Nat) (L st : List Value) (M : pm_M) (ad : Nat → Nat) (H : Heap) (locs : List Loc) (ls : Array Slot) : Prop :=
  pm_W D dA b A ad M H ∧ va_S A s.heap H locs ∧ pm_Lo nL ad M L ls ∧ (∀ v ∈ st, pm_vb M v) ∧ ∀ q, pm_b M0 q → pm_b M q ∧ ad q = ad0 q
/-- frames of method j over n steps of the pure machine -/
def pm_Ih (p : Program) (l : Launch) (e : Env) (R : Room) (s : State) (m : MethodId) (args : Array Value) (below : List Frame) (meth : Method) (c : Code) (D : va_G) (dA : Nat → ClassId) (S : pm_S) (b : Nat) (A : Nat → Prop) (j d nL : Nat) (ad0 : Nat → Nat) (M0 : pm_M) (o : pm_O) (M' : pm_M) (mc ms n : Nat) : Prop :=
  ∀ (pc : Nat) (L st : List Value) (M : pm_M) (ad : Nat → Nat) (H : Heap) (locs : List Loc) (ls : Array Slot) (k ks : Nat), pm_run (pm_pl S) n d (j, pc, L, st) M = some (o, M') → pm_Dy D dA b A ad0 M0 s nL L st M ad H locs ls → k + M'.2.1 = mc + M.2.1 → ks + M'.2.2 = ms + M.2.2 →
    W p l e R s m args below meth c H locs k ks (pm_MQ below (pm_Qo D dA b A ad0 M0 o M' mc ms) args s) (F0 m pc ls (st.map (pm_ren ad)))
theorem pm_vb_nr {M : pm_M} {v : Value} (h : ¬ pm_ty v = 2) : pm_vb M v := fun q hq => by rw [hq] at h; exact absurd rfl h
theorem pm_all_cons {M : pm_M} {v : Value} {st : List Value} (h1 : pm_vb M v) (h2 : ∀ w ∈ st, pm_vb M w) : ∀ w ∈ v :: st, pm_vb M w := fun w hw => (List.mem_cons.mp hw).elim (fun e => e ▸ h1) (h2 w)
theorem pm_all_tl {M : pm_M} {v : Value} {st : List Value} (h : ∀ w ∈ v :: st, pm_vb M w) : ∀ w ∈ st, pm_vb M w := fun w hw => h w (List.mem_cons_of_mem _ hw)
