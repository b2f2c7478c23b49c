/-! The claim out of what the pure machine says of the law. Behind the skeleton's words. -/
def pm_M0 : pm_M := (((0, fun _ => none), (1, fun _ => none)), (0, 0))
theorem pm_M0_get (q : Nat) : pm_get pm_M0 q = none := by
  unfold pm_get pm_M0
  split <;> rfl
def pm_whole : Prop := ∀ S : pm_S, S.1 ≤ 2563 → ∃ M' : pm_M, fr S 1000 (9, 0, [.ref 1, pm_U, pm_U, pm_U, pm_U, pm_U, pm_U], []) pm_M0 = some (.inl (some (.int 1)), M') ∧ M'.2.1 ≤ 601024 ∧ M'.2.2 ≤ 7293000
theorem pm_arr {s : State} {args : Array Value} {ty : FieldType} (h : (Cond.arrayClass ty).before args s = true) (hty : ∀ C, ty ≠ .object C) : ∃ cA, ArrOfT s cA ty ∧ va_RA s cA ty := by
  obtain ⟨c, k, comp, h1, h2, h3⟩ := Cond.arrayClass_spec h
  refine ⟨c, fun N z => ⟨(fun k h => by cases h), k, h2, comp, h3⟩, ?_⟩
  cases ty <;> first | exact h1 | exact absurd rfl (hty _)
theorem pm_arrO {s : State} {args : Array Value} {C : String} (h : (Cond.arrayOver (.object C)).before args s = true) : ∃ cA, ArrOfT s cA (.object C) ∧ va_RA s cA (.object C) := by
  obtain ⟨comp, c, k, h1, h2, h3, h4, h5⟩ := Cond.arrayOver_spec h
  exact ⟨c, fun N z => ⟨(fun k h => by cases h), k, h3, comp, h4⟩, k, comp, h3, h4, h1, h5⟩
theorem pm_inst_ok : (pm_inT (.instantiable "StowPlan" 12) && pm_inT (.instantiable "StowPlan$Box" 9) && pm_inT (.instantiable "StowPlan$Way" 4) && pm_inT (.instantiable "StowPlanModel" 17)) = true := by decide +kernel
theorem pm_tb_ok : (decide (Cond.arrayOver (.object "StowPlan$Box") ∈ lw_tbl) && decide (Cond.laysStatic "java/lang/Throwable" "UNASSIGNED_STACK" "[Ljava/lang/StackTraceElement;" ∈ lw_tbl) && decide (Cond.laysStatic "java/lang/Throwable" "SUPPRESSED_SENTINEL" "Ljava/util/List;" ∈ lw_tbl) && pm_strs.all (fun q => decide (Cond.stringRef q.1 q.2.1 q.2.2 ∈ lw_tbl) && decide (q.1 = "StowPlan"))) = true := by decide +kernel
theorem pm_nar_ok : Cond.isRef (.static "java/lang/Throwable" "UNASSIGNED_STACK" "[Ljava/lang/StackTraceElement;") ∈ flatC (Jvm.Cond.and given_1 narrow_1) ∧ Cond.isRef (.static "java/lang/Throwable" "SUPPRESSED_SENTINEL" "Ljava/util/List;") ∈ flatC (Jvm.Cond.and given_1 narrow_1) ∧ Cond.not (.castable "java/lang/IllegalStateException" "java/lang/IllegalArgumentException") ∈ flatC (Jvm.Cond.and given_1 narrow_1) := by decide +kernel
theorem pm_nt {l : Launch} (h : l.flags = flags0) : l.stackTraces = false := by
  unfold Launch.stackTraces
  rw [h]
  decide +kernel
theorem pm_start_K {s : State} {b L : Nat} {xs : Nat → Int32} (hts : ∀ w ∈ lw_tbl, w.before #[Value.ref b] s = true) (hX : va_X b L xs s s.heap) (hbl : b < s.heap.size) (hgv : (Jvm.Cond.and given_1 narrow_1).before #[Value.ref b] s = true) : ∃ (D : va_G) (dA : Nat → ClassId), pm_K D dA (L, xs) b (fun q => s.heap.size ≤ q) s := by
  have hgw : ∀ w ∈ pm_gw, w.before #[Value.ref b] s = true := fun w hw => hts w (List.mem_filter.mp hw).1
  have hi := pm_inst_ok
  simp only [Bool.and_eq_true] at hi
  obtain ⟨⟨⟨i0, i1⟩, i2⟩, i3⟩ := hi
  have ht := pm_tb_ok
  simp only [Bool.and_eq_true, decide_eq_true_eq] at ht
  obtain ⟨⟨⟨t1, t2⟩, t3⟩, t4⟩ := ht
  obtain ⟨c0, S0, k0⟩ := u_known hgw (pm_cl_in (ci := 0) rfl).1 (hgw _ (pm_inT_mem i0))
  obtain ⟨c1, S1, k1⟩ := u_known hgw (pm_cl_in (ci := 1) rfl).1 (hgw _ (pm_inT_mem i1))
  obtain ⟨c2, S2, k2⟩ := u_known hgw (pm_cl_in (ci := 2) rfl).1 (hgw _ (pm_inT_mem i2))
  obtain ⟨c3, S3, k3⟩ := u_known hgw (pm_cl_in (ci := 3) rfl).1 (hgw _ (pm_inT_mem i3))
  have hlib := pm_lib_ok
  simp only [Bool.and_eq_true] at hlib
  obtain ⟨a0, A0⟩ := pm_arr (hgw _ (pm_inT_mem hlib.1.1.2)) (fun C h => nomatch h)
  obtain ⟨a1, A1⟩ := pm_arr (hgw _ (pm_inT_mem hlib.1.2)) (fun C h => nomatch h)
  obtain ⟨a2, A2⟩ := pm_arr (hgw _ (pm_inT_mem hlib.2)) (fun C h => nomatch h)
  obtain ⟨a3, A3⟩ := pm_arrO (hts _ t1)
  have hn := flat_of_before _ hgv
  refine ⟨(fun c => match c with | 0 => c0 | 1 => c1 | 2 => c2 | _ => c3, fun c => match c with | 0 => S0 | 1 => S1 | 2 => S2 | _ => S3), (fun t => match t with | 0 => a0 | 1 => a1 | 2 => a2 | _ => a3), ⟨?_, ?_⟩, fun w hw => ?_, va_AO.of (hts _ t1), fun q hq => ?_, fun q hq => ?_, ⟨?_, ?_⟩, ⟨hbl, ?_, hX⟩, fun q hq => hq⟩
  · intro c q hq
    match c, hq with
    | 0, hq => cases hq; exact k0
    | 1, hq => cases hq; exact k1
    | 2, hq => cases hq; exact k2
    | 3, hq => cases hq; exact k3
    | k + 4, hq => simp [pm_cl] at hq
  · intro k q hq
    match k, hq with
    | 0, hq => cases hq; exact A0
    | 1, hq => cases hq; exact A1
    | 2, hq => cases hq; exact A2
    | 3, hq => cases hq; exact A3
    | k + 4, hq => simp [pm_tys] at hq
  · obtain ⟨h1, h2⟩ := List.mem_filter.mp hw
    refine va_Nw.of ?_ (hts w (List.mem_append_right _ h1))
    cases w <;> first | rfl | (simp [pm_isN] at h2)
  · have h1 := List.all_eq_true.mp t4 q hq
    simp only [Bool.and_eq_true, decide_eq_true_eq] at h1
    have h2 := hts _ h1.1
    obtain ⟨cur, kk, hfc, -⟩ := Cond.instantiable_spec (hgw _ (pm_inT_mem i0))
    rw [← h1.2] at hfc
    obtain ⟨k, cf, i, a, -, -, -, -, -, h3⟩ := Cond.stringRef_spec hfc h2
    exact ⟨a, vk_R.of h2 h3⟩
  · rcases List.mem_singleton.mp hq with rfl
    exact va_Nc.of (hn _ pm_nar_ok.2.2)
  · exact pm_Zs.of (hts _ t2) (hn _ pm_nar_ok.1) (fun a ha h => absurd ha (by omega))
  · exact pm_Zs.of (hts _ t3) (hn _ pm_nar_ok.2.1) (fun a ha h => absurd ha (by omega))
  · intro h
    exact absurd hbl (by omega)
def R_law : String := "StowPlanLaw"
def lw_P (b : Addr) (xs : List Int32) (args : Array Value) (s : State) : Prop := args = #[.ref b] ∧ s.IntsAt b xs ∧ xs.length ≤ 2563 ∧ (Jvm.Cond.and given_1 narrow_1).before args s = true
def lw_Q (_ : Array Value) (s : State) (o : Outcome) (t : State) : Prop := o = .returned (some (.int 1)) ∧ Framed s o t [] 601024 7293000
def lw_Z (below : List Frame) (a : Array Value) (s : State) : State → Prop := fun t => ∃ o, t.status = .running ∧ Ended t below o ∧ lw_Q a s o t
theorem whole_start (hw : pm_whole) {p : Program} {e : Env} {s : State} {m : MethodId} {below : List Frame} {meth : Method} {c : Code} (l : Launch) (hl : l.stackTraces = false) {b L : Nat} {xs : Nat → Int32} (hL : L ≤ 2563) (hx : p.tables.exec = Jvm.exec) (hb : c.code = code) (hr : meth.sig.returnType = ret) (hml : c.maxLocals = 7) (hown : s.vm.findClass R_law = some m.cls) (hts : ∀ w ∈ lw_tbl, w.before #[Value.ref b] s = true) (hX : va_X b L xs s s.heap) (hbl : b < s.heap.size) (hlocks : meth.locks = false) (hgv : (Jvm.Cond.and given_1 narrow_1).before #[Value.ref b] s = true) (hnm : meth.name = "law") (hexc : c.exceptionTable = #[]) : W p l e room_1 s m #[Value.ref b] below meth c s.heap [] 0 0 (lw_Z below #[Value.ref b] s) (entryFrame m ([Value.ref b] : List Value).toArray 7) := by
  obtain ⟨M', hfr, hc1, hc2⟩ := hw (L, xs) hL
  obtain ⟨n, hrun⟩ := (pm_fr_iff (pm_pl (L, xs))).mp hfr
  obtain ⟨D, dA, hK⟩ := pm_start_K hts hX hbl hgv
  have cx : pm_Cx p l room_1 s m #[Value.ref b] meth c D dA (L, xs) b (fun q => s.heap.size ≤ q) 9 1000 pm_y9 pm_c9 7 (some .boolean) 3 :=
    ⟨hx, hb, hml, hown, fun w hw => hts w (List.mem_filter.mp hw).1, hlocks, hr, hnm, hK, rfl, ⟨by decide, by decide⟩, hl, by rw [hexc]; rfl⟩
  have g := (pm_all (S := (L, xs)) hl n).1 p e room_1 s m #[Value.ref b] below meth c D dA b (fun q => s.heap.size ≤ q) 9 1000 pm_y9 pm_c9 7 (some .boolean) 3 (fun _ => b) pm_M0 (.inl (some (.int 1))) M' M'.2.1 M'.2.2 cx ⟨hc1, hc2⟩ 0 _ [] pm_M0 (fun _ => b) s.heap [] _ 0 0 hrun
    ⟨⟨Nat.le_refl 1, rfl, fun q c9 hq => (pm_no ((pm_M0_get q).symm.trans hq)).elim, fun q q' c9 c9' hq => (pm_no ((pm_M0_get q).symm.trans hq)).elim⟩, va_S.rf, pm_Lo.entry (a := [.ref 1]) (nL := 7) (by decide) (fun v hv => by rcases List.mem_singleton.mp hv with rfl; exact ⟨by decide, by decide⟩) (fun v hv q hq => by rcases List.mem_singleton.mp hv with rfl; cases hq; exact Or.inl rfl), fun v hv => (nomatch hv), fun q hq => ⟨hq, rfl⟩⟩ (by show 0 + _ = _ + 0; omega) (by show 0 + _ = _ + 0; omega)
  rw [lg_entry_eq]
  refine W.mono ?_ g
  rintro t ⟨o, h1, h2, ad', Ls, h3, h4, h5, -, -, -, h6, -⟩
  have h6 : o = .returned (some (.int 1)) := h6
  refine ⟨o, h1, h2, h6, ⟨_, h6⟩, h3, ?_⟩
  exact State.sameButNew.drop_fresh (L := []) (h4.mono hc1 hc2) h5
set_option maxHeartbeats 4000000 in
theorem lw_walk (hw : pm_whole) (l : Launch) (hl : l.stackTraces = false) (b : Addr) (xs : List Int32) : MetFree l x (headSpec (Jvm.Cond.code x code maxLocals ret :: tables_1) room_1) (lw_P b xs) (fun _ _ _ _ _ => True) lw_Q := by
  refine MetFree.of_bodyS (code := code) (maxLocals := maxLocals) (ret := ret) (by decide) ?_ ?_
  · intro args s m h hn
    obtain ⟨meth, c, h1, h2, h3, h4, h5, h6, -, -⟩ := Cond.code_spec hn (atoms_spec (ws := Jvm.Cond.code x code maxLocals ret :: tables_1) h _ List.mem_cons_self)
    exact ⟨meth, c, h1, h2, h3, h4, h5, h6⟩
  · intro p e s m args below meth c s₁ B hml0 hP _
    obtain ⟨rfl, hx, hbd, hgv⟩ := hP
    obtain ⟨scr, harrAt, hlist, hof, hsmall⟩ := hx
    obtain ⟨hcb, hkn, -, -⟩ := State.arrayAt?_spec harrAt
    have hown : s.vm.findClass R_law = some m.cls := findClass_of_methodNamed B.named
    have hts0 : ∀ c ∈ (Jvm.Cond.code x code maxLocals ret :: tables_1), c.before #[Value.ref b] s = true := atoms_spec (ws := Jvm.Cond.code x code maxLocals ret :: tables_1) B.pre
    have hts : ∀ w ∈ lw_tbl, w.before #[Value.ref b] s = true := k2_hts_sels lw_privs (fun w hw => hts0 w (List.mem_cons_of_mem _ hw)) lw_privs_ok
    have hml : c.maxLocals = 7 := B.maxLocals_eq (hts0 _ List.mem_cons_self)
    have X₀ : Stand p l e room_1 s m #[Value.ref b] below meth c s₁ [] 0 0 := Stand.of_body B
    have hh0 : s₁.heap = s.heap := by rw [B.state]; rfl
    have hsz : scr.slots.size = xs.length := by rw [← Array.length_toList, hlist, List.length_map]
    have hval : ∀ j : Nat, j < xs.length → scr.slots[j]? = some (.int (xs.getD j 0)) := fun j hj => by
      rw [← Array.getElem?_toList, hlist]
      simp [hj]
    have hbl : b < s.heap.size := (Array.getElem?_eq_some_iff.mp hcb).1
    have hX : va_X b xs.length (fun j => xs.getD j 0) s s.heap := ⟨scr, hcb, hof, hkn, hsz, hval⟩
    have hexc : c.exceptionTable = #[] := by
      obtain ⟨meth', c', h1, h2, -, -, -, -, h7, -⟩ := Cond.code_spec B.named (hts0 _ List.mem_cons_self)
      cases B.method.symm.trans h1
      cases X₀.code.symm.trans h2
      simpa using h7
    have K : W p l e room_1 s m #[Value.ref b] below meth c s₁.heap [] 0 0 (lw_Z below #[Value.ref b] s) (entryFrame m ([Value.ref b] : List Value).toArray 7) := by
      rw [hh0]
      exact whole_start hw l hl hbd B.exec B.bytes B.returns hml hown hts hX hbl B.notSynchronized hgv (name_of_methodNamed B.named B.method).1 hexc
    obtain ⟨t, a1, o, b1, b2, b3⟩ := K s₁ rfl X₀
    exact ⟨t, o, a1, b1, b2, b3⟩
theorem lw_pre_spec {args : Array Value} {s : State} (h : (Jvm.Cond.and given_1 narrow_1).before args s = true) (hr : rest_1_c.before args s = true) : ∃ (b : Addr) (xs : List Int32), lw_P b xs args s := by
  have hs := flat_of_before _ h
  have hq := flat_of_before _ hr
  have hc : (Cond.count 1).before args s = true := hs _ (by decide +kernel)
  have harr : (Cond.arrayOf (.arg 0) .int).before args s = true := hs _ (by decide +kernel)
  have hle : (Cond.le (.length (.arg 0)) (.int 2563)).before args s = true := hs _ (by decide +kernel)
  have hlen : (Cond.isInt (.length (.arg 0))).before args s = true := hq _ (by decide +kernel)
  have hall : (Cond.all (.arg 0) (.isInt (.elem (.arg 0) (.index 0)))).before args s = true := hq _ (by decide +kernel)
  obtain ⟨b, xs, hb, hx⟩ := State.ints_of_pre rfl harr hlen hall
  have hsm : xs.length < 2 ^ 31 := hx.choose_spec.2.2.2
  have hev : (Term.length (.arg 0)).eval args s none [] s = some (.int xs.length.toInt32) := hx.length_eval hb
  have hv := Cond.le_ints hev (show (Term.int 2563).eval args s none [] s = some (.int 2563) from rfl)
  have hd : xs.length.toInt32 ≤ 2563 := by
    simpa [Cond.before, Cond.holds, hv] using hle
  have hN : xs.length ≤ 2563 := (Int32.ofNat_le_ofNat hsm (by decide)).mp (show Int32.ofNat xs.length ≤ Int32.ofNat 2563 from hd)
  exact ⟨b, xs, Cond.one_arg hc (show args[0]? = some (.ref b) from hb), hx, hN, h⟩
theorem lw_comes (hw : pm_whole) (l : Launch) (hl : l.stackTraces = false) : Comes l x (Jvm.Cond.code x code maxLocals ret :: tables_1) room_1 (fun tb e args s => Calls_1 tb e args s ∧ rest_1 tb e args s ∧ Pre_1 tb e args s)
    (fun _ _ args s o t => lw_Q args s o t) := by
  intro p e ha hc hk s m args below hf hfit hheap happ hpre
  obtain ⟨b, xs, hP⟩ := lw_pre_spec hpre.2.2 hpre.2.1
  obtain ⟨k, o, h1, h2, h3, hQ⟩ := lw_walk hw l hl b xs p e ha hc hk s m args below hf ((Spec.applies_iff_loose hf).mp happ).1 hP trivial
  exact ⟨k, o, h1, h2, h3, hQ⟩
theorem lw_frame {s t : State} {o : Outcome} {args : Array Value} (h : Framed s o t [] 601024 7293000) :
    Framed s o t (fieldLocs frame_1_writes args s ++ arrayLocs frame_1_arrays args s ++ staticLocs frame_1_statics s) 601024 7293000 := h
theorem lw_limb (hw : pm_whole) (L : Cond) (hL : ∀ (args : Array Value) (s t : State), L.after args s (.returned (some (.int 1))) t = true) :
    ArmFor flags0 classFile x code maxLocals ret World_1 tables_1 room_1 Calls_1 rest_1 Pre_1
      (fun tb e a s o t => postC L tb e a s o t ∧ Framed s o t (fieldLocs frame_1_writes a s ++ arrayLocs frame_1_arrays a s ++ staticLocs frame_1_statics s) 601024 7293000) := by
  intro l hfl _ _ p e ha hc hk s m args below hf hfit hheap happ hpre
  obtain ⟨k, o, h1, h2, h3, rfl, hF⟩ := lw_comes hw l (pm_nt hfl) p e ha hc hk s m args below hf hfit hheap happ hpre
  exact ⟨k, _, h1, h2, h3, hL args s _, lw_frame hF⟩
theorem pm_vc (hw : pm_whole) : Claimed_1_1 ∧ Claimed_1_2 := ⟨lw_limb hw limb_1_1 (fun args s t => by simp [limb_1_1, Cond.after, Cond.holds, Cond.value]), lw_limb hw limb_1_2 (fun args s t => Cond.after_iff.mpr (by
  first | (rw [show limb_1_2 = Cond.eq .result (.int 1) from rfl, Cond.eq_ints (x := 1) (y := 1) rfl rfl]; simp; done) | (simp [limb_1_2, Cond.value, Term.eval]; done)))⟩
