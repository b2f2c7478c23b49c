/-! Ends of methods, and the library's few. -/
def pm_rtk : Option FieldType → Nat
  | none => 9
  | some .int => 0
  | some .boolean => 3
  | some .long => 1
  | some (.object _) => 2
  | some (.array _) => 2
  | _ => 8
theorem pm_rk_ok : pm_ms.all (fun q => decide (pm_rtk q.2.2.2.2.1 = q.2.2.2.2.2)) = true := by decide +kernel
def pm_xst : List (Nat × Nat × String × Nat) := [(110011, (59, "no box has such numbers", 61)), (110033, (69, "there are 40 boxes", 71)), (120039, (93, "no such cell", 95)), (150015, (93, "no such cell", 95)), (180013, (133, "no such fault, or nothing such of it", 95)), (180113, (148, "no such fault", 95)), (190010, (150, "no such port", 61)), (200008, (158, "no such bay", 95)), (210010, (93, "no such cell", 95)), (220020, (190, "no such box, or nothing such of it", 95))]
def pm_xcs : List (Nat × Nat × String) := [(0, 61, "java/lang/IllegalArgumentException"), (0, 71, "java/lang/IllegalStateException"), (0, 95, "java/lang/IndexOutOfBoundsException")]
def pm_xk (j pc : Nat) (i : Instr) : Bool := match i with
  | .new x => (match pm_lk pm_xtab (1000 * pm_own j + x) with
    | none => true
    | some E => (match pm_lk pm_xst (10000 * j + pc) with
      | none => false
      | some (is, text, ic) => decide (pm_ins j (pc + 3) = some (.dup, pc + 4, 0)) && decide (pm_ins j (pc + 4) = some (.ldc is, pc + 6, 0)) && decide (pm_ins j (pc + 6) = some (.invokespecial ic, pc + 9, 0)) && decide (pm_ins j (pc + 9) = some (.athrow, pc + 10, 0)) && decide ((pm_cn (pm_own j), is, text) ∈ pm_strs) && pm_inT (.classLink (pm_cn (pm_own j)) x E) && pm_inT (.initialized E) && decide (pm_hh j = []) && decide ((pm_own j, ic, E) ∈ pm_xcs)))
  | _ => true
theorem pm_x_ok : pm_tabs.all (fun q => q.2.all (fun r => pm_xk q.1 r.1 r.2.1)) = true := by decide +kernel
def pm_xn : List String := ["java/lang/RuntimeException", "java/lang/Exception"]
def pm_twk (w : Cond) : Bool := pm_tw w && (!goodWord w || pm_inT w) && (!pm_isN w || pm_inN w)
theorem pm_twk_of {w : Cond} (h : pm_twk w = true) : pm_tw w = true ∧ (goodWord w = true → w ∈ pm_gw) ∧ (pm_isN w = true → w ∈ pm_nw) := by
  simp only [pm_twk, Bool.and_eq_true, Bool.or_eq_true, Bool.not_eq_true'] at h
  exact ⟨h.1.1, fun z => pm_inT_mem (h.1.2.resolve_left (by rw [z]; decide)), fun z => pm_inN_mem (h.2.resolve_left (by rw [z]; decide))⟩
theorem pm_at61 : (Bundle.ownAtoms "StowPlan" 61 "java/lang/IllegalArgumentException" pm_xn).all pm_twk = true := by decide +kernel
theorem pm_at71 : (Bundle.ownAtoms "StowPlan" 71 "java/lang/IllegalStateException" pm_xn).all pm_twk = true := by decide +kernel
theorem pm_at95 : (Bundle.ownAtoms "StowPlan" 95 "java/lang/IndexOutOfBoundsException" pm_xn).all pm_twk = true := by decide +kernel
theorem pm_at_ok : ∀ q ∈ pm_xcs, (Bundle.ownAtoms (pm_cn q.1) q.2.1 q.2.2 pm_xn).all pm_twk = true ∧ Bundle.fit q.2.2 = true := by
  unfold pm_xcs
  exact List.forall_mem_cons.mpr ⟨⟨pm_at61, by decide +kernel⟩, List.forall_mem_cons.mpr ⟨⟨pm_at71, by decide +kernel⟩, List.forall_mem_cons.mpr ⟨⟨pm_at95, by decide +kernel⟩, fun _ h => absurd h List.not_mem_nil⟩⟩⟩
theorem pm_xn_fit : ∀ n ∈ pm_xn, Bundle.fit n = true := by decide +kernel
theorem pm_cat_sum (l : List Value) : (l.map fun v => v.category).sum ≤ 2 * l.length := by
  induction l with
  | nil => exact Nat.le_refl _
  | cons v l ih =>
    have := lv_cat v
    simp only [List.map_cons, List.sum_cons, List.length_cons]
    omega
theorem pm_cat_ren (ad : Nat → Nat) (l : List Value) : ((l.map (pm_ren ad)).map fun v => v.category).sum ≤ 2 * l.length := by
  have := pm_cat_sum (l.map (pm_ren ad))
  rwa [List.length_map] at this
section PMSTEP5
variable {p : Program} {l : Launch} {e : Env} {R : Room} {s : State} {m : MethodId} {args : Array Value} {below : List Frame} {meth : Method} {c : Code} {D : va_G} {dA : Nat → ClassId} {S : pm_S} {b : Nat} {A : Nat → Prop} {j d : Nat} {y : MethodName} {cc : ByteArray} {nL : Nat} {ret : Option FieldType} {rk : Nat} {ad0 : Nat → Nat} {M0 : pm_M} {o : pm_O} {M' : pm_M} {mc ms n pc nx tg : Nat} {L st : List Value} {M : pm_M} {ad : Nat → Nat} {H : Heap} {locs : List Loc} {ls : Array Slot} {k ks : Nat}
theorem pm_link {j x : Nat} (hx9 : x < 1000) : (1000 * pm_own j + x) / 1000 = pm_own j ∧ (1000 * pm_own j + x) % 1000 = x := by omega
theorem s_ooi {x j' n' ci : Nat} {pad : List Value} (cx : pm_Cx p l R s m args meth c D dA S b A j d y cc nL ret rk) (ih : pm_Ih p l e R s m args below meth c D dA S b A j d nL ad0 M0 o M' mc ms n) (dy : pm_Dy D dA b A ad0 M0 s nL L st M ad H locs ls) (hk : k + M'.2.1 = mc + M.2.1) (hks : ks + M'.2.2 = ms + M.2.2) (hf : pm_lk pm_ctab (1000 * pm_own j + x) = some (3, j', n', ci, pad)) (hx9 : x < 1000) (h : pm_ex (pm_run (pm_pl S) n) d (pm_ooi j (pc + 3) L st M) = some (o, M')) (hdg : decode cc pc = .ok (.invokespecial x, 3)) : W p l e R s m args below meth c H locs k ks (pm_MQ below (pm_Qo D dA b A ad0 M0 o M' mc ms) args s) (F0 m pc ls (st.map (pm_ren ad))) := by
  have hchk := pm_ctab_ok _ (pm_lk_mem _ _ _ hf)
  obtain ⟨e1, e2⟩ := pm_link (j := j) hx9
  have hln : pm_inT (.methodLink (pm_cn (pm_own j)) x Lib.objectInit) = true := by
    unfold pm_cchk at hchk
    dsimp only at hchk
    rw [if_pos rfl, e1, e2] at hchk
    exact hchk
  have hlib := pm_lib_ok
  simp only [Bool.and_eq_true] at hlib
  obtain ⟨hx, hb, hml, hown, hgw, -, -, -, hK, -, hRR, -⟩ := cx
  rcases st with _ | ⟨v, r⟩
  · exact (pm_no h).elim
  · cases v with
    | ref q =>
      rw [x_ooi] at h
      split at h
      · rename_i hr4
        have hs := pm_cat_ren ad r
        refine W.objInit (a := ad q) hx hb hown (hgw _ (pm_inT_mem hln)) (hgw _ (pm_inT_mem hlib.1.1.1.1.1.1.1)) (hgw _ pm_lib_code.1) rfl (by rw [hml]; exact dy.2.2.1.1) rfl hdg (by omega) (by show 2 * 0 + _ + 12 ≤ _; omega) ?_
        exact ih _ _ _ _ _ _ _ _ _ _ h ⟨dy.1, dy.2.1, dy.2.2.1, pm_all_tl dy.2.2.2.1, dy.2.2.2.2⟩ hk hks
      · cases h
    | _ => exact (pm_no h).elim
theorem s_max {x j' n' ci : Nat} {pad : List Value} (cx : pm_Cx p l R s m args meth c D dA S b A j d y cc nL ret rk) (ih : pm_Ih p l e R s m args below meth c D dA S b A j d nL ad0 M0 o M' mc ms n) (dy : pm_Dy D dA b A ad0 M0 s nL L st M ad H locs ls) (hk : k + M'.2.1 = mc + M.2.1) (hks : ks + M'.2.2 = ms + M.2.2) (hR : mc ≤ R.cells ∧ ms ≤ R.slots) (hf : pm_lk pm_ctab (1000 * pm_own j + x) = some (4, j', n', ci, pad)) (hx9 : x < 1000) (h : pm_ex (pm_run (pm_pl S) n) d (pm_omx (fun x y => if x < y then y else x) j (pc + 3) L st M) = some (o, M')) (hdg : decode cc pc = .ok (.invokestatic x, 3)) : W p l e R s m args below meth c H locs k ks (pm_MQ below (pm_Qo D dA b A ad0 M0 o M' mc ms) args s) (F0 m pc ls (st.map (pm_ren ad))) := by
  have hchk := pm_ctab_ok _ (pm_lk_mem _ _ _ hf)
  obtain ⟨e1, e2⟩ := pm_link (j := j) hx9
  have hln : pm_inT (.methodLink (pm_cn (pm_own j)) x Lib.Math.max.name) = true := by
    unfold pm_cchk at hchk
    dsimp only at hchk
    rw [if_neg (by decide), if_pos rfl, e1, e2] at hchk
    exact hchk
  have hlib := pm_lib_ok
  simp only [Bool.and_eq_true] at hlib
  obtain ⟨hx, hb, hml, hown, hgw, -, -, -, hK, -, hRR, -⟩ := cx
  rcases st with _ | ⟨v, _ | ⟨u, r⟩⟩
  · exact (pm_no h).elim
  · cases v <;> exact (pm_no h).elim
  · cases v with
    | int y0 =>
      cases u with
      | int x0 =>
        rw [x_omx] at h
        split at h
        · rename_i hr4
          have hs := pm_cat_ren ad r
          simp only [List.length_cons] at hr4
          have hle := pm_run_le _ _ _ _ _ _ h
          have hle1 := hle.1
          have hle2 := hle.2
          refine va_mmax hx hb (by rw [hml]; exact dy.2.2.1.1.symm) hown (hgw _ (pm_inT_mem hln)) (hgw _ (pm_inT_mem hlib.1.1.1.1.1.1.2)) (hgw _ (pm_inT_mem hlib.1.1.1.2)) (hgw _ pm_lib_code.2.1) (by omega) (by omega) (by omega) (by omega) hdg ?_
          exact ih _ _ _ _ _ _ _ _ _ _ h ⟨dy.1, dy.2.1, dy.2.2.1, pm_all_cons (fun q hq => nomatch hq) (pm_all_tl (pm_all_tl dy.2.2.2.1)), dy.2.2.2.2⟩ hk hks
        · cases h
      | _ => unfold pm_omx at h; split at h <;> exact (pm_no h).elim
    | _ => unfold pm_omx at h; split at h <;> (cases u <;> exact (pm_no h).elim)
theorem s_min {x j' n' ci : Nat} {pad : List Value} (cx : pm_Cx p l R s m args meth c D dA S b A j d y cc nL ret rk) (ih : pm_Ih p l e R s m args below meth c D dA S b A j d nL ad0 M0 o M' mc ms n) (dy : pm_Dy D dA b A ad0 M0 s nL L st M ad H locs ls) (hk : k + M'.2.1 = mc + M.2.1) (hks : ks + M'.2.2 = ms + M.2.2) (hR : mc ≤ R.cells ∧ ms ≤ R.slots) (hf : pm_lk pm_ctab (1000 * pm_own j + x) = some (5, j', n', ci, pad)) (hx9 : x < 1000) (h : pm_ex (pm_run (pm_pl S) n) d (pm_omx (fun x y => if y < x then y else x) j (pc + 3) L st M) = some (o, M')) (hdg : decode cc pc = .ok (.invokestatic x, 3)) : W p l e R s m args below meth c H locs k ks (pm_MQ below (pm_Qo D dA b A ad0 M0 o M' mc ms) args s) (F0 m pc ls (st.map (pm_ren ad))) := by
  have hchk := pm_ctab_ok _ (pm_lk_mem _ _ _ hf)
  obtain ⟨e1, e2⟩ := pm_link (j := j) hx9
  have hln : pm_inT (.methodLink (pm_cn (pm_own j)) x Lib.Math.min.name) = true := by
    unfold pm_cchk at hchk
    dsimp only at hchk
    rw [if_neg (by decide), if_neg (by decide), if_pos rfl, e1, e2] at hchk
    exact hchk
  have hlib := pm_lib_ok
  simp only [Bool.and_eq_true] at hlib
  obtain ⟨hx, hb, hml, hown, hgw, -, -, -, hK, -, hRR, -⟩ := cx
  rcases st with _ | ⟨v, _ | ⟨u, r⟩⟩
  · exact (pm_no h).elim
  · cases v <;> exact (pm_no h).elim
  · cases v with
    | int y0 =>
      cases u with
      | int x0 =>
        rw [x_omx] at h
        split at h
        · rename_i hr4
          have hs := pm_cat_ren ad r
          simp only [List.length_cons] at hr4
          have hle := pm_run_le _ _ _ _ _ _ h
          have hle1 := hle.1
          have hle2 := hle.2
          refine va_mmin hx hb (by rw [hml]; exact dy.2.2.1.1.symm) hown (hgw _ (pm_inT_mem hln)) (hgw _ (pm_inT_mem hlib.1.1.1.1.1.2)) (hgw _ (pm_inT_mem hlib.1.1.1.2)) (hgw _ pm_lib_code.2.2.1) (by omega) (by omega) (by omega) (by omega) hdg ?_
          exact ih _ _ _ _ _ _ _ _ _ _ h ⟨dy.1, dy.2.1, dy.2.2.1, pm_all_cons (fun q hq => nomatch hq) (pm_all_tl (pm_all_tl dy.2.2.2.1)), dy.2.2.2.2⟩ hk hks
        · cases h
      | _ => unfold pm_omx at h; split at h <;> exact (pm_no h).elim
    | _ => unfold pm_omx at h; split at h <;> (cases u <;> exact (pm_no h).elim)
theorem s_abs {x j' n' ci : Nat} {pad : List Value} (cx : pm_Cx p l R s m args meth c D dA S b A j d y cc nL ret rk) (ih : pm_Ih p l e R s m args below meth c D dA S b A j d nL ad0 M0 o M' mc ms n) (dy : pm_Dy D dA b A ad0 M0 s nL L st M ad H locs ls) (hk : k + M'.2.1 = mc + M.2.1) (hks : ks + M'.2.2 = ms + M.2.2) (hR : mc ≤ R.cells ∧ ms ≤ R.slots) (hf : pm_lk pm_ctab (1000 * pm_own j + x) = some (6, j', n', ci, pad)) (hx9 : x < 1000) (h : pm_ex (pm_run (pm_pl S) n) d (pm_oab (fun x => .int (if 0 ≤ x then x else 0 - x)) j (pc + 3) L st M) = some (o, M')) (hdg : decode cc pc = .ok (.invokestatic x, 3)) : W p l e R s m args below meth c H locs k ks (pm_MQ below (pm_Qo D dA b A ad0 M0 o M' mc ms) args s) (F0 m pc ls (st.map (pm_ren ad))) := by
  have hchk := pm_ctab_ok _ (pm_lk_mem _ _ _ hf)
  obtain ⟨e1, e2⟩ := pm_link (j := j) hx9
  have hln : pm_inT (.methodLink (pm_cn (pm_own j)) x Lib.Math.abs.name) = true := by
    unfold pm_cchk at hchk
    dsimp only at hchk
    rw [if_neg (by decide), if_neg (by decide), if_neg (by decide), if_pos rfl, e1, e2] at hchk
    exact hchk
  have hlib := pm_lib_ok
  simp only [Bool.and_eq_true] at hlib
  obtain ⟨hx, hb, hml, hown, hgw, -, -, -, hK, -, hRR, -⟩ := cx
  rcases st with _ | ⟨v, r⟩
  · unfold pm_oab at h; split at h <;> exact (pm_no h).elim
  · cases v with
    | int x0 =>
      rw [x_oab] at h
      split at h
      · rename_i hr4
        have hs := pm_cat_ren ad r
        simp only [List.length_cons] at hr4
        have hle := pm_run_le _ _ _ _ _ _ h
        have hle1 := hle.1
        have hle2 := hle.2
        refine va_mabs hx hb (by rw [hml]; exact dy.2.2.1.1.symm) hown (hgw _ (pm_inT_mem hln)) (hgw _ (pm_inT_mem hlib.1.1.1.1.2)) (hgw _ (pm_inT_mem hlib.1.1.1.2)) (hgw _ pm_lib_code.2.2.2) (by omega) (by omega) (by omega) (by omega) hdg ?_
        exact ih _ _ _ _ _ _ _ _ _ _ h ⟨dy.1, dy.2.1, dy.2.2.1, pm_all_cons (fun q hq => nomatch hq) (pm_all_tl dy.2.2.2.1), dy.2.2.2.2⟩ hk hks
      · cases h
    | _ => unfold pm_oab at h; split at h <;> exact (pm_no h).elim
theorem s_end {v : Option Value} {stk : List Value} (dy : pm_Dy D dA b A ad0 M0 s nL L st M' ad H locs ls) (ho : o = .inl v) (hv : ∀ w, v = some w → pm_vb M' w) (hk : k = mc) (hks : ks = ms) (row : ∀ Qc : Array Value → State → Outcome → State → Prop, (∀ t : State, t.heap = H → s.WarmedH t.vm → Qc args s (.returned (v.map (pm_ren ad))) t) → W p l e R s m args below meth c H locs k ks (MQ below Qc args s k ks A) (F0 m pc ls stk)) : W p l e R s m args below meth c H locs k ks (pm_MQ below (pm_Qo D dA b A ad0 M0 o M' mc ms) args s) (F0 m pc ls (stk)) := by
  refine W.mono ?_ (row (fun _ _ oc t => oc = .returned (v.map (pm_ren ad)) ∧ t.heap = H) (fun t ht _ => ⟨rfl, ht⟩))
  rintro t ⟨oc, h1, h2, ⟨h3, h4⟩, Ls, ⟨-, h5, h6⟩, h7⟩
  subst ho hk hks
  exact ⟨oc, h1, h2, ad, Ls, h5, h6, h7, dy.2.2.2.2, by rw [h4]; exact dy.1, dy.2.1.F h4, h3, hv⟩
theorem s_ort {t : Nat} (cx : pm_Cx p l R s m args meth c D dA S b A j d y cc nL ret rk) (ih : pm_Ih p l e R s m args below meth c D dA S b A j d nL ad0 M0 o M' mc ms n) (dy : pm_Dy D dA b A ad0 M0 s nL L st M ad H locs ls) (hk : k + M'.2.1 = mc + M.2.1) (hks : ks + M'.2.2 = ms + M.2.2) (h : pm_ex (pm_run (pm_pl S) n) d (pm_ort t st M) = some (o, M')) (hrow : ∀ v : Value, pm_fit t v = true → t ≠ 9 → ∀ Qc : Array Value → State → Outcome → State → Prop, (∀ t : State, t.heap = H → s.WarmedH t.vm → Qc args s (.returned (some (pm_ren ad v))) t) → W p l e R s m args below meth c H locs k ks (MQ below Qc args s k ks A) (F0 m pc ls [pm_ren ad v])) (hrow9 : t = 9 → ∀ Qc : Array Value → State → Outcome → State → Prop, (∀ t : State, t.heap = H → s.WarmedH t.vm → Qc args s (.returned none) t) → W p l e R s m args below meth c H locs k ks (MQ below Qc args s k ks A) (F0 m pc ls [])) : W p l e R s m args below meth c H locs k ks (pm_MQ below (pm_Qo D dA b A ad0 M0 o M' mc ms) args s) (F0 m pc ls (st.map (pm_ren ad))) := by
  rcases st with _ | ⟨v, _ | ⟨u, r⟩⟩
  · unfold pm_ort at h
    dsimp only at h
    split at h
    · rename_i e9
      have h : some ((.inl none : pm_O), M) = some (o, M') := h
      cases h
      exact s_end (v := none) dy rfl (fun w hw => nomatch hw) (by omega) (by omega) (hrow9 e9)
    · exact (pm_no h).elim
  · rw [x_ort] at h
    split at h
    · rename_i hfit
      cases h
      refine s_end (v := some v) dy rfl (fun w hw => by cases hw; exact dy.2.2.2.1 v List.mem_cons_self) (by omega) (by omega) (hrow v hfit (fun e9 => ?_))
      rw [e9] at hfit
      unfold pm_fit at hfit
      simp at hfit
    · cases h
  · exact (pm_no h).elim
theorem s_iret (cx : pm_Cx p l R s m args meth c D dA S b A j d y cc nL ret rk) (ih : pm_Ih p l e R s m args below meth c D dA S b A j d nL ad0 M0 o M' mc ms n) (dy : pm_Dy D dA b A ad0 M0 s nL L st M ad H locs ls) (hk : k + M'.2.1 = mc + M.2.1) (hks : ks + M'.2.2 = ms + M.2.2) (hret : ret = some .int) (h : pm_ex (pm_run (pm_pl S) n) d (pm_ort 0 st M) = some (o, M')) (hdg : decode cc pc = .ok (.ireturn, 1)) : W p l e R s m args below meth c H locs k ks (pm_MQ below (pm_Qo D dA b A ad0 M0 o M' mc ms) args s) (F0 m pc ls (st.map (pm_ren ad))) := by
  obtain ⟨hx, hb, hml, hown, hgw, hlk, hrt, -⟩ := id cx
  refine s_ort cx ih dy hk hks h (fun v hv _ Qc hq => ?_) (fun e => by cases e)
  cases v with
  | int x => exact W.zret (ty := .int) hx hb (hrt.trans hret) rfl hq dy.2.1.2.2 hdg hlk
  | _ => cases hv
theorem s_zret (cx : pm_Cx p l R s m args meth c D dA S b A j d y cc nL ret rk) (ih : pm_Ih p l e R s m args below meth c D dA S b A j d nL ad0 M0 o M' mc ms n) (dy : pm_Dy D dA b A ad0 M0 s nL L st M ad H locs ls) (hk : k + M'.2.1 = mc + M.2.1) (hks : ks + M'.2.2 = ms + M.2.2) (hret : ret = some .boolean) (h : pm_ex (pm_run (pm_pl S) n) d (pm_ort 3 st M) = some (o, M')) (hdg : decode cc pc = .ok (.ireturn, 1)) : W p l e R s m args below meth c H locs k ks (pm_MQ below (pm_Qo D dA b A ad0 M0 o M' mc ms) args s) (F0 m pc ls (st.map (pm_ren ad))) := by
  obtain ⟨hx, hb, hml, hown, hgw, hlk, hrt, -⟩ := id cx
  refine s_ort cx ih dy hk hks h (fun v hv _ Qc hq => ?_) (fun e => by cases e)
  cases v with
  | int x =>
    have hx01 : x = 0 ∨ x = 1 := by simpa [pm_fit] using hv
    exact W.zret (ty := .boolean) hx hb (hrt.trans hret) (by rcases hx01 with rfl | rfl <;> decide +kernel) hq dy.2.1.2.2 hdg hlk
  | _ => exact absurd hv (by simp [pm_fit])
theorem s_aret {rt : FieldType} (cx : pm_Cx p l R s m args meth c D dA S b A j d y cc nL ret rk) (ih : pm_Ih p l e R s m args below meth c D dA S b A j d nL ad0 M0 o M' mc ms n) (dy : pm_Dy D dA b A ad0 M0 s nL L st M ad H locs ls) (hk : k + M'.2.1 = mc + M.2.1) (hks : ks + M'.2.2 = ms + M.2.2) (hret : ret = some rt) (hrt9 : (∃ n, rt = .object n) ∨ ∃ t, rt = .array t) (h : pm_ex (pm_run (pm_pl S) n) d (pm_ort 2 st M) = some (o, M')) (hdg : decode cc pc = .ok (.areturn, 1)) : W p l e R s m args below meth c H locs k ks (pm_MQ below (pm_Qo D dA b A ad0 M0 o M' mc ms) args s) (F0 m pc ls (st.map (pm_ren ad))) := by
  obtain ⟨hx, hb, hml, hown, hgw, hlk, hrt, -⟩ := id cx
  refine s_ort cx ih dy hk hks h (fun v hv _ Qc hq => ?_) (fun e => by cases e)
  exact W.aret hx hb (hrt.trans hret) hrt9 (by cases v <;> first | exact Or.inl rfl | exact Or.inr ⟨_, rfl⟩ | cases hv) hq dy.2.1.2.2 hdg hlk
theorem s_vret (cx : pm_Cx p l R s m args meth c D dA S b A j d y cc nL ret rk) (ih : pm_Ih p l e R s m args below meth c D dA S b A j d nL ad0 M0 o M' mc ms n) (dy : pm_Dy D dA b A ad0 M0 s nL L st M ad H locs ls) (hk : k + M'.2.1 = mc + M.2.1) (hks : ks + M'.2.2 = ms + M.2.2) (hret : ret = none) (h : pm_ex (pm_run (pm_pl S) n) d (pm_ort 9 st M) = some (o, M')) (hdg : decode cc pc = .ok (.return_, 1)) : W p l e R s m args below meth c H locs k ks (pm_MQ below (pm_Qo D dA b A ad0 M0 o M' mc ms) args s) (F0 m pc ls (st.map (pm_ren ad))) := by
  obtain ⟨hx, hb, hml, hown, hgw, hlk, hrt, -⟩ := id cx
  refine s_ort cx ih dy hk hks h (fun v hv e => absurd rfl e) (fun _ Qc hq => ?_)
  exact W.vret hx hb (hrt.trans hret) hq dy.2.1.2.2 hdg hlk
theorem s_oth {x : Nat} {E : String} (cx : pm_Cx p l R s m args meth c D dA S b A j d y cc nL ret rk) (ih : pm_Ih p l e R s m args below meth c D dA S b A j d nL ad0 M0 o M' mc ms n) (dy : pm_Dy D dA b A ad0 M0 s nL L st M ad H locs ls) (hk : k + M'.2.1 = mc + M.2.1) (hks : ks + M'.2.2 = ms + M.2.2) (hR : mc ≤ R.cells ∧ ms ≤ R.slots) (hins : pm_ins j pc = some (.new x, nx, tg)) (hf : pm_lk pm_xtab (1000 * pm_own j + x) = some E) (h : pm_ex (pm_run (pm_pl S) n) d (pm_oth E st M) = some (o, M')) : W p l e R s m args below meth c H locs k ks (pm_MQ below (pm_Qo D dA b A ad0 M0 o M' mc ms) args s) (F0 m pc ls (st.map (pm_ren ad))) := by
  rw [x_oth] at h
  split at h
  · rename_i hlen
    cases h
    obtain ⟨t, h1, h2⟩ := pm_ins_mem hins
    have hxk := List.all_eq_true.mp (List.all_eq_true.mp pm_x_ok _ h1) _ h2
    have hxk : pm_xk j pc (.new x) = true := hxk
    unfold pm_xk at hxk
    dsimp only at hxk
    rw [hf] at hxk
    dsimp only at hxk
    cases hx9 : pm_lk pm_xst (10000 * j + pc) with
    | none => rw [hx9] at hxk; cases hxk
    | some q9 =>
      obtain ⟨is, text, ic⟩ := q9
      rw [hx9] at hxk
      simp only [Bool.and_eq_true, decide_eq_true_eq] at hxk
      obtain ⟨⟨⟨⟨⟨⟨⟨⟨c1, c2⟩, c3⟩, c4⟩, c5⟩, c6⟩, c7⟩, c8⟩, c9⟩ := hxk
      obtain ⟨a1, a2⟩ := pm_at_ok _ c9
      obtain ⟨hx, hb, hml, hown, hgw, hlk, hrt, hnm, hK, hms, hRR, hl, hh⟩ := cx
      have hd : ∀ {pc' : Nat} {q : Instr × Nat × Nat}, pm_ins j pc' = some q → decode cc pc' = .ok (q.1, q.2.1 - pc') := by
        intro pc' q hq
        obtain ⟨x9, g1, g2, -⟩ := pm_ins_ok hq
        cases hms.symm.trans g1
        exact g2
      have d0 := hd hins
      have hn3 := pm_ins_len hins (Nat.succ_ne_zero _)
      have d3 := hd c1
      have d4 := hd c2
      have d6 := hd c3
      have d9 := hd c4
      dsimp only at d0 d3 d4 d6 d9
      rw [hn3, show pc + pm_len (.new x) - pc = 3 by show pc + 3 - pc = 3; omega] at d0
      rw [show pc + 4 - (pc + 3) = 1 by omega] at d3
      rw [show pc + 6 - (pc + 4) = 2 by omega] at d4
      rw [show pc + 9 - (pc + 6) = 3 by omega] at d6
      rw [show pc + 10 - (pc + 9) = 1 by omega] at d9
      have hempty : c.exceptionTable.toList = [] := by
        rw [c8] at hh
        exact List.map_eq_nil_iff.mp hh
      have hs := pm_cat_ren ad st
      have hxl : pm_xn.length = 2 := rfl
      have e1 : (pm_thr M).2.1 = M.2.1 + 1 := rfl
      have e2 : (pm_thr M).2.2 = M.2.2 + 6 := rfl
      rw [e1] at hk
      rw [e2] at hks
      exact pm_throw (names := pm_xn) (ik := x) hx hb hl hown hgw hK a2 pm_xn_fit (pm_inT_mem c6) (pm_inT_mem c7) c5 (fun w hw => pm_twk_of (List.all_eq_true.mp a1 w hw)) dy.2.1 (by rw [hml]; exact dy.2.2.1.1) d0 d3 d4 d6 d9 (by rw [hempty]; intro z hz; cases hz) (by omega) (by omega) (by omega) (by omega) hlk dy.1 dy.2.2.2.2 (by omega) (by omega)
  · cases h
end PMSTEP5
