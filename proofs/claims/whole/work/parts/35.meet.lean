/-! Methods of the JVM do what the pure machine's do. -/
theorem pm_sl {vs : List Value} (h : ∀ v ∈ vs, v.category = 1) : lg_sl vs = vs.map Slot.val := by
  induction vs with
  | nil => rfl
  | cons v vs ih =>
    have h1 := h v List.mem_cons_self
    have h2 := ih (fun w hw => h w (List.mem_cons_of_mem _ hw))
    simp only [lg_sl, List.flatMap_cons] at h2 ⊢
    rw [h2, if_neg (by rw [h1]; decide)]
    rfl
theorem pm_args_at {vs : List Value} (h : ∀ v ∈ vs, v.category = 1) : ∀ (i k : Nat) (v : Value), vs[k]? = some v → (i + k, v) ∈ lv_args i vs := by
  induction vs with
  | nil => intro i k v hk; cases hk
  | cons u vs ih =>
    intro i k v hk
    have h1 := h u List.mem_cons_self
    unfold lv_args
    rw [if_neg (by rw [h1]; decide)]
    cases k with
    | zero =>
      cases hk
      exact List.mem_cons_self
    | succ k =>
      have h2 := ih (fun w hw => h w (List.mem_cons_of_mem _ hw)) (i + 1) k v hk
      rw [show i + 1 + k = i + (k + 1) by omega] at h2
      exact List.mem_cons_of_mem _ h2
theorem pm_Lo.entry {nL : Nat} {ad : Nat → Nat} {M : pm_M} {a : List Value} (hlen : a.length ≤ nL) (hcat : ∀ v ∈ a, ¬ pm_ty v = 1 ∧ ¬ pm_ty v = 9) (hvb : ∀ v ∈ a, pm_vb M v) : pm_Lo nL ad M (a ++ List.replicate (nL - a.length) pm_U) ((lg_sl (a.map (pm_ren ad)) ++ List.replicate (nL - (lg_sl (a.map (pm_ren ad))).length) Slot.unset).toArray) := by
  have hc : ∀ v ∈ a.map (pm_ren ad), v.category = 1 := by
    intro v hv
    obtain ⟨w, hw, rfl⟩ := List.mem_map.mp hv
    rw [pm_ren_cat]
    exact pm_ty_cat (hcat w hw).1 (hcat w hw).2
  have hl : (lg_sl (a.map (pm_ren ad))).length = a.length := by rw [pm_sl hc, List.length_map, List.length_map]
  obtain ⟨h1, h2, h3⟩ := lv_entry (a.map (pm_ren ad)) (n := nL) (by rw [hl]; exact hlen)
  refine ⟨h1, by rw [List.length_append, List.length_replicate]; omega, h2, fun v hv => ?_, fun i v hi hv => ?_⟩
  · rcases List.mem_append.mp hv with z | z
    · exact hvb v z
    · rw [(List.mem_replicate.mp z).2]
      exact fun q hq => nomatch hq
  · by_cases hia : i < a.length
    · rw [List.getElem?_append_left hia] at hi
      have h4 := pm_args_at hc 0 i (pm_ren ad v) (by rw [List.getElem?_map, hi]; rfl)
      rw [Nat.zero_add] at h4
      exact h3 _ h4
    · rw [List.getElem?_append_right (by omega)] at hi
      have h5 := List.mem_replicate.mp (List.mem_of_getElem? hi)
      rw [h5.2] at hv
      exact absurd rfl hv
theorem pm_Ct_of {l : Launch} {S : pm_S} {n : Nat} (hl : l.stackTraces = false) (hfg : pm_FG l S n) : pm_Ct l S n := by
  intro d j x a M o M' hms hj hlen hcat hrun D dA b A ad sz hvb
  obtain ⟨y, cc, nL, ret, rk⟩ := x
  have hown := List.all_eq_true.mp pm_own_ok _ (pm_lk_mem _ _ _ hms)
  simp only [Bool.and_eq_true, decide_eq_true_eq] at hown
  have hle := pm_run_le _ _ _ _ _ _ hrun
  have hle1 := hle.1
  have hle2 := hle.2
  refine MetFree.of_bodyS (code := cc) (maxLocals := nL) (ret := ret) hown.2 ?_ ?_
  · intro args s m h hn
    have h9 := atoms_spec (ws := pm_hd j (y, cc, nL, ret, rk) :: pm_gw) h _ List.mem_cons_self
    unfold pm_hd at h9
    split at h9
    · obtain ⟨meth, c, h1, h2, h3, h4, h5, h6, -, -⟩ := Cond.code_spec hn h9
      exact ⟨meth, c, h1, h2, h3, h4, h5, h6⟩
    · obtain ⟨m9, meth, c, hn9, h1, h2, h3, h4, -, h5, h6, -⟩ := Cond.codeWith_spec h9
      cases hn.symm.trans hn9
      exact ⟨meth, c, h1, h2, h3, h4, h5, h6⟩
  · intro p e s m args below meth c s₁ B hml hP _
    have hh0 : s₁.heap = s.heap := by rw [B.state]; rfl
    obtain ⟨hargs, -, h3, h4⟩ := hP
    have X0 := Stand.of_body B
    have hexc : c.exceptionTable.toList.map (fun x => (x.startPc, x.endPc, x.handlerPc, x.catchType)) = pm_hh j := by
      have h9 := atoms_spec (ws := pm_hd j (y, cc, nL, ret, rk) :: pm_gw) B.pre _ List.mem_cons_self
      unfold pm_hd at h9
      split at h9
      · rename_i hnil
        obtain ⟨meth', c', h1, h2, -, -, -, -, h7, -⟩ := Cond.code_spec B.named h9
        cases B.method.symm.trans h1
        cases X0.code.symm.trans h2
        rw [hnil]
        have h8 : c.exceptionTable = #[] := by simpa using h7
        rw [h8]
        rfl
      · obtain ⟨m9, meth', c', hn9, h1, h2, -, -, h7, -⟩ := Cond.codeWith_spec h9
        cases B.named.symm.trans hn9
        cases B.method.symm.trans h1
        cases X0.code.symm.trans h2
        exact h7
    have cx : pm_Cx p l (headSpec (pm_hd j (y, cc, nL, ret, rk) :: pm_gw) (pm_rm d (M'.2.1 - M.2.1) (M'.2.2 - M.2.2))).room s m args meth c D dA S b A j d y cc nL ret rk :=
      ⟨B.exec, B.bytes, hml, by rw [← hown.1]; exact findClass_of_methodNamed B.named, fun w hw => atoms_spec B.pre w (List.mem_cons_of_mem _ hw), B.notSynchronized, B.returns, (name_of_methodNamed B.named B.method).1, h4, hms, ⟨Nat.le_refl _, Nat.le_refl _⟩, hl, hexc⟩
    have g := hfg p e _ s m args below meth c D dA b A j d y cc nL ret rk ad M o M' (M'.2.1 - M.2.1) (M'.2.2 - M.2.2) cx ⟨Nat.le_refl _, Nat.le_refl _⟩ 0 _ [] M ad s.heap [] _ 0 0 hrun ⟨h3, va_S.rf, pm_Lo.entry hlen hcat hvb, fun v hv => (nomatch hv), fun q hq => ⟨hq, rfl⟩⟩ (by omega) (by omega)
    obtain ⟨t, a1, o1, b1, b2, b3⟩ := g s₁ hh0 X0
    refine ⟨t, o1, ?_, b1, b2, b3⟩
    rw [hargs, lg_entry_eq]
    exact a1
theorem pm_all {l : Launch} {S : pm_S} (hl : l.stackTraces = false) : ∀ n, pm_FG l S n ∧ pm_Ct l S n
  | 0 => by
    have h : pm_FG l S 0 := by
      intro p e R s m args below meth c D dA b A j d y cc nL ret rk ad0 M0 o M' mc ms cx hR pc L st M ad H locs ls k ks h
      cases h
    exact ⟨h, pm_Ct_of hl h⟩
  | n + 1 => by
    obtain ⟨h1, h2⟩ := pm_all hl n
    have h := pm_FG_succ h2 h1
    exact ⟨h, pm_Ct_of hl h⟩
