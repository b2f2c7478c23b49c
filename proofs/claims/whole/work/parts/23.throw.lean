/-! Throwing: 'throw new E("..")' ends the method; the frame is looked at anew from where it stands, so that all cells are old ones. -/
section PMTHROW
variable {p : Program} {l : Launch} {e : Env} {R : Room} {s : State} {m : MethodId} {args : Array Value} {below : List Frame} {meth : Method} {c : Code}
theorem pm_reb {T : State} {locs : List Loc} {cells slots : Nat} (X : Stand p l e R s m args below meth c T locs cells slots) {kc ks : Nat} (hc : cells + kc ≤ R.cells) (hs : slots + ks ≤ R.slots) :
    Stand p l e { frames := R.frames, locals := R.locals, cells := kc, slots := ks } ((T.setVm s.vm).setFrames (.invoking m args :: below)) m args below meth c T [] 0 0 := by
  have ht : (T.setVm s.vm).topJava?.isSome := X.here.top
  have hfr : ((T.setVm s.vm).setFrames (.invoking m args :: below)).frames = .invoking m args :: below := State.frames_setFrames _ (State.cur_lt_of_top ht)
  have hnil : T.heap.toList.drop T.heap.size = [] := List.drop_eq_nil_of_le (Nat.le_of_eq Array.length_toList)
  have hroom : ((T.setVm s.vm).setFrames (.invoking m args :: below)).hasRoom e.platform { frames := R.frames, locals := R.locals, cells := kc, slots := ks } = true := by
    have h := X.room
    have e1 : ((T.setVm s.vm).setFrames (.invoking m args :: below)).localsInUse = s.localsInUse :=
      (State.localsInUse_invoking hfr (meth := meth) (c := c) X.method X.code).trans (State.localsInUse_invoking X.frames X.method X.code).symm
    have e2 : e.platform.stackLimits (T.setVm s.vm).me = e.platform.stackLimits s.me := X.limits
    have e3 : (T.setVm s.vm).me.stackBytes = s.me.stackBytes := X.bytes
    simp only [State.hasRoom, Bool.and_eq_true, decide_eq_true_eq] at h ⊢
    rw [X.frames, List.length_cons] at h
    have n1 := X.heapSize
    have n2 := X.used
    have n3 : ((T.setVm s.vm).setFrames (.invoking m args :: below)).heap.size = T.heap.size := rfl
    have n4 : ((T.setVm s.vm).setFrames (.invoking m args :: below)).slotsUsed = T.slotsUsed := rfl
    simp only [hfr, e1, List.length_cons, State.stackLimits_setFrames, State.stackBytes_setFrames, e2, e3, n3, n4]
    exact ⟨⟨⟨h.1.1.1, by omega⟩, by omega⟩, X.book⟩
  obtain ⟨g0, hg0⟩ := Option.isSome_iff_exists.mp ht
  obtain ⟨r, hr⟩ := State.topJava?_eq_some.mp hg0
  obtain ⟨t, hth, -⟩ := State.frames_cons hr
  refine { admits := X.admits, cas := X.cas, clock := X.clock, frames := hfr, room := hroom, hears := X.hears, method := X.method, code := X.code, here := X.here, tail := X.tail, warmed := X.warmed, limits := ?_, bytes := ?_, same := ?_ }
  · rw [State.stackLimits_setFrames]; rfl
  · rw [State.stackBytes_setFrames]; rfl
  · have h0 : T.setVm s.vm = { ((T.setVm s.vm).setFrames (.invoking m args :: below)).setFrames (T.setVm s.vm).frames with heap := T.heap, slotsUsed := T.slotsUsed } := by
      rw [State.setFrames_setFrames, State.setFrames_self hth]
      rfl
    refine ⟨h0, Nat.le_refl _, Nat.le_refl _, ?_, ?_, fun a c9 h9 => ⟨c9, h9, rfl, rfl, fun _ _ => rfl⟩⟩
    · show T.slotsUsed = T.slotsUsed + ((T.heap.toList.drop T.heap.size).map (·.slots.size)).sum
      rw [hnil]; rfl
    · show ((T.heap.toList.drop T.heap.size).map (·.slots.size)).sum ≤ 0
      rw [hnil]; exact Nat.le_refl _
theorem pm_same_heap {u U : State} {k n : Nat} (h : u.sameButNew ({ U with vm := u.vm } : State) [] k n) : u.heap.size ≤ U.heap.size ∧ ∀ q : Nat, q < u.heap.size → U.heap[q]? = u.heap[q]? := by
  obtain ⟨-, h2, -, -, -, h6⟩ := h
  refine ⟨h2, fun q hq => ?_⟩
  obtain ⟨c9, e1, e2, e3, e4⟩ := h6 q _ (Array.getElem?_eq_getElem hq)
  have e1 : U.heap[q]? = some c9 := e1
  have hsl : c9.slots = (u.heap[q]).slots := Array.ext_getElem? fun i => e4 i (fun hm => nomatch hm)
  rw [hsl] at e2
  rw [e1, Array.getElem?_eq_getElem hq]
  exact congrArg some e2
/-- the words of a throw: good ones, those that want a law, the four of the two statics -/
def pm_tw (w : Cond) : Bool := goodWord w || pm_isN w || decide (w = .isRef (.static "java/lang/Throwable" "UNASSIGNED_STACK" "[Ljava/lang/StackTraceElement;")) || decide (w = .isRef (.static "java/lang/Throwable" "SUPPRESSED_SENTINEL" "Ljava/util/List;")) || decide (w = .laysStatic "java/lang/Throwable" "UNASSIGNED_STACK" "[Ljava/lang/StackTraceElement;") || decide (w = .laysStatic "java/lang/Throwable" "SUPPRESSED_SENTINEL" "Ljava/util/List;")
theorem pm_tw_at {D : va_G} {dA : Nat → ClassId} {S : pm_S} {b : Nat} {A : Nat → Prop} {U : State} {a : Array Value} (hg : ∀ w ∈ pm_gw, w.before a U = true) (hK : pm_K D dA S b A U) {w : Cond} (h1 : pm_tw w = true) (h2 : goodWord w = true → w ∈ pm_gw) (h3 : pm_isN w = true → w ∈ pm_nw) : w.before a U = true := by
  obtain ⟨-, k2, -, -, -, ⟨k6, k7⟩, -⟩ := hK
  by_cases g1 : goodWord w = true
  · exact hg w (h2 g1)
  · by_cases g2 : pm_isN w = true
    · refine va_Nw.use ?_ (k2 w (h3 g2))
      cases w <;> first | rfl | (simp [pm_isN] at g2)
    · simp only [pm_tw, Bool.or_eq_true, decide_eq_true_eq] at h1
      rcases h1 with ((((h | h) | h) | h) | h) | h
      · exact absurd h g1
      · exact absurd h g2
      · rw [h]; exact k6.ref
      · rw [h]; exact k7.ref
      · rw [h]; exact k6.lays
      · rw [h]; exact k7.lays
theorem pm_throw {cc : ByteArray} {pc : Nat} {H : Heap} {locs : List Loc} {cells slots : Nat} {ls : Array Slot} {rest : List Value} {D : va_G} {dA : Nat → ClassId} {S : pm_S} {b : Nat} {A : Nat → Prop} {ad ad0 : Nat → Nat} {M M0 : pm_M} {mc ms : Nat} {own cls text : String} {names : List String} {ik is ic : Nat}
    (hexec : p.tables.exec = Jvm.exec) (hb : c.code = cc) (hl : l.stackTraces = false) (hown : s.vm.findClass own = some m.cls) (hgw : ∀ w ∈ pm_gw, w.before args s = true) (hK : pm_K D dA S b A s) (hcls : Bundle.fit cls = true) (hnames : ∀ n ∈ names, Bundle.fit n = true)
    (hk : Cond.classLink own ik cls ∈ pm_gw) (hini : Cond.initialized cls ∈ pm_gw) (hstr : (own, is, text) ∈ pm_strs) (hat : ∀ w ∈ Bundle.ownAtoms own ic cls names, pm_tw w = true ∧ (goodWord w = true → w ∈ pm_gw) ∧ (pm_isN w = true → w ∈ pm_nw))
    (hS : va_S A s.heap H locs) (hsize : ls.size = c.maxLocals) (d0 : decode cc pc = .ok (.new ik, 3)) (d3 : decode cc (pc + 3) = .ok (.dup, 1)) (d4 : decode cc (pc + 4) = .ok (.ldc is, 2)) (d6 : decode cc (pc + 6) = .ok (.invokespecial ic, 3)) (d9 : decode cc (pc + 9) = .ok (.athrow, 1))
    (hout : ∀ x ∈ c.exceptionTable.toList, covers x (pc + 9) = false) (hRf : names.length + 3 < R.frames) (hRl : (rest.map fun v => v.category).sum + (13 * (names.length + 1) + 43) ≤ R.locals) (hRc : cells + 1 ≤ R.cells) (hRs : slots + 6 ≤ R.slots) (hlocks : meth.locks = false)
    (hWd : pm_W D dA b A ad M H) (hN : ∀ q, pm_b M0 q → pm_b M q ∧ ad q = ad0 q) (hmc : cells + 1 = mc) (hms : slots + 6 = ms) :
    W p l e R s m args below meth c H locs cells slots (pm_MQ below (pm_Qo D dA b A ad0 M0 (.inr cls) (pm_thr M) mc ms) args s) (F0 m pc ls rest) := by
  intro T hT X
  have htr : e.platform.stackTraces = false := (show e.platform.stackTraces = l.stackTraces by rw [X.admits.platform]).trans hl
  have Y := pm_reb X hRc hRs
  generalize hs' : (T.setVm s.vm).setFrames (.invoking m args :: below) = s' at Y
  have hvm : s'.vm = s.vm := by rw [← hs']; rfl
  have hhp : s'.heap = H := by rw [← hs']; exact hT
  have hW0 : s.WarmedH s'.vm := by rw [hvm]; exact State.WarmedH.refl s
  have hK' : pm_K D dA S b A s' := hK.next hS hW0 hhp (fun _ _ z => z) (fun q hq => hK.2.2.2.2.2.2.2 q (Nat.le_trans hS.1 hq))
  have hgw' : ∀ w ∈ pm_gw, w.before args s' = true := fun w hw => word_at hW0 (good_of_word (List.mem_filter.mp hw).2) (hgw w hw)
  have hatoms : ∀ w ∈ Bundle.ownAtoms own ic cls names, w.before args s' = true := fun w hw => pm_tw_at hgw' hK' (hat w hw).1 (hat w hw).2.1 (hat w hw).2.2
  have hown' : s'.vm.findClass own = some m.cls := by rw [hvm]; exact hown
  have hins : (Cond.instantiable cls 6).before args s' = true := hatoms _ (by simp [Bundle.ownAtoms])
  obtain ⟨vm₁, cX, kX, hfX, hkX, -, -, X₁, st1⟩ := Y.newCold hexec (own := own) (C := cls) (index := ik) (n := 6) hown' (hgw' _ hk) hins (hgw' _ hini) (g := F0 m pc ls rest) rfl (by rw [hb]; exact d0) (Nat.le_refl _) (Nat.le_refl _)
  obtain ⟨sa, hsa⟩ := hK'.2.2.2.1 _ hstr
  generalize hT1 : (T.setVm vm₁).pushCell { cls := cX, slots := kX.instanceTypes.map defaultValue, vm := .none } = T1 at X₁ st1
  have hcellA : T1.heap[T.heap.size]? = some (freshCell cX kX) := by rw [← hT1]; exact State.heap_pushCell_size _ _
  obtain ⟨U, hsteps, hrun, hend, hWU, hsame, ce, hce, hO⟩ := X₁.ctorThrowS hexec htr (own := own) (cls := cls) (names := names) (ic := ic) hown' hcls hnames hatoms (fun x hx => nomatch hx) hfX hkX hcellA (by rw [hhp, hT]; exact Nat.le_refl _) (msg := .ref sa) rfl
    (g := { method := m, pc := pc + 6, locals := ls, stack := .ref sa :: .ref T.heap.size :: .ref T.heap.size :: rest, locked := none }) rfl hsize rfl rfl (rest := rest) rfl
    (by rw [hb]; exact d6) (by rw [hb]; exact d9) hout hRf (by
      have hm0 : ({ method := m, pc := pc + 6, locals := ls, stack := .ref sa :: .ref T.heap.size :: .ref T.heap.size :: rest, locked := none } : JFrame).monitorRoom = 0 := rfl
      have hc1 : (Value.ref T.heap.size).category = 1 := rfl
      simp only [List.map_cons, List.sum_cons, hc1, hm0]
      have hR9 : (({ frames := R.frames, locals := R.locals, cells := 1, slots := 6 } : Room)).locals = R.locals := rfl
      rw [hR9]
      omega) hlocks
  have hWs : s.WarmedH U.vm := State.WarmedH.trans hW0 hWU
  obtain ⟨f1, f2⟩ := pm_same_heap hsame
  rw [hhp] at f1 f2
  have hall : s.sameButNew ({ U with vm := s.vm } : State) locs mc ms := by
    subst hs'
    obtain ⟨e1, e2⟩ := hsame
    rw [State.setFrames_setFrames] at e1
    have h2 : (T.setVm s.vm).sameButNew ({ U with vm := s.vm } : State) [] (0 + 1) (0 + 6) := ⟨e1, e2⟩
    have h3 := X.same.trans h2
    rw [List.append_nil] at h3
    exact h3.mono (by omega) (by omega)
  have hclE : s.vm.findClass cls = some ce.cls := by
    have h9 := hO.cls
    rw [hvm] at h9
    exact h9
  have hWd' : pm_W D dA b A ad (pm_thr M) U.heap := ⟨hWd.1, hWd.2.1, fun q c9 h9 => by
    obtain ⟨g1, g2, g3, g4, g5⟩ := hWd.2.2.1 q c9 h9
    exact ⟨g1, g2, g3, g4.kept (f2 _ g4.lt), g5⟩, hWd.2.2.2⟩
  refine ⟨U, ?_, .threw T.heap.size, hrun, hend, ad, locs, hWs, hall, hS.2.2, hN, hWd', ⟨Nat.le_trans hS.1 f1, fun q h1 h2 => ?_⟩, T.heap.size, ce, rfl, hce, hO.vm, hclE⟩
  · refine st1 _ ?_
    show Steps p.tables e below (T1.setTop { method := m, pc := pc + 3, locals := ls, stack := .ref T.heap.size :: rest, locked := none }) _
    have d3' : decode c.code (pc + 3) = .ok (.dup, 1) := by rw [hb]; exact d3
    have d4' : decode c.code (pc + 4) = .ok (.ldc is, 2) := by rw [hb]; exact d4
    jvm_step X₁.here [X₁.here.top, hexec, d3', Value.category]
    exact X₁.ldcString hexec (own := own) (text := text) (index := is) (a := sa) hown' hsa.1 hsa.2
      (g := { method := m, pc := pc + 4, locals := ls, stack := .ref T.heap.size :: .ref T.heap.size :: rest, locked := none }) rfl d4' _ hsteps
  · rw [f2 q (Nat.lt_of_lt_of_le h1 hS.1)]
    exact hS.2.1 q h1 h2
end PMTHROW
