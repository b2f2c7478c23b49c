/-! The pure machine is the JVM's: frames, then methods, by the number of steps. -/
theorem pm_hd_good {j : Nat} {x : pm_I} : goodWord (pm_hd j x) = true := by unfold pm_hd; split <;> rfl
theorem pm_hd_gw {j : Nat} {x : pm_I} (hj : j ∈ pm_hjs) (hx : pm_lk pm_ms j = some x) : pm_hd j x ∈ pm_gw := pm_tbl_gw (pm_hd_ok j hj x hx) pm_hd_good
theorem pm_cd {s : State} {args : Array Value} {j : Nat} {x : pm_I} (h : (pm_hd j x).before args s = true) : pm_Cd s x.1 x.2.2.1 := by
  unfold pm_hd at h
  split at h
  · obtain ⟨mk, hn⟩ := Cond.code_named h
    obtain ⟨meth, c, h1, h2, h3, h4, h5, h6, h7, h8⟩ := Cond.code_spec hn h
    exact ⟨mk, meth, c, hn, h1, h2, h4, h8⟩
  · obtain ⟨mk, meth, c, hn, h1, h2, h3, h4, -, h5, h6, h8⟩ := Cond.codeWith_spec h
    exact ⟨mk, meth, c, hn, h1, h2, h4, h8⟩
def pm_ixk (i : Instr) : Bool := match i with
  | .getfield x => decide (x < 1000)
  | .putfield x => decide (x < 1000)
  | .invokestatic x => decide (x < 1000)
  | .invokevirtual x => decide (x < 1000)
  | .invokespecial x => decide (x < 1000)
  | .new x => decide (x < 1000)
  | .ldc2_w x => decide (x < 1000)
  | _ => true
theorem pm_ix_ok : pm_tabs.all (fun q => q.2.all (fun r => pm_ixk r.2.1)) = true := by decide +kernel
theorem pm_own_ok : pm_ms.all (fun q => decide (q.2.1.cls = pm_cn (pm_own q.1)) && plainName q.2.1.cls) = true := by decide +kernel
section PMSTEP7
variable {p : Program} {l : Launch} {e : Env} {R : Room} {s : State} {m : MethodId} {args : Array Value} {below : List Frame} {meth : Method} {c : Code} {D : va_G} {dA : Nat → ClassId} {S : pm_S} {b : Nat} {A : Nat → Prop} {j d : Nat} {y : MethodName} {cc : ByteArray} {nL : Nat} {ret : Option FieldType} {rk : Nat} {ad0 : Nat → Nat} {M0 : pm_M} {o : pm_O} {M' : pm_M} {mc ms n pc nx tg : Nat} {L st : List Value} {M : pm_M} {ad : Nat → Nat} {H : Heap} {locs : List Loc} {ls : Array Slot} {k ks : Nat}
theorem s_call {x vi j' n' ci : Nat} {pad : List Value} {hl : List (String × Nat × Nat)} (cx : pm_Cx p l R s m args meth c D dA S b A j d y cc nL ret rk) (ih : pm_Ih p l e R s m args below meth c D dA S b A j d nL ad0 M0 o M' mc ms n) (dy : pm_Dy D dA b A ad0 M0 s nL L st M ad H locs ls) (hk : k + M'.2.1 = mc + M.2.1) (hks : ks + M'.2.2 = ms + M.2.2) (hR : mc ≤ R.cells ∧ ms ≤ R.slots) (hct : pm_Ct l S n) (hf : pm_lk pm_ctab (1000 * pm_own j + x) = some (vi, j', n', ci, pad)) (hx9 : x < 1000) (hhl : hl = (pm_lk pm_htab (10000 * j + pc)).getD []) (hHk : pm_Hk j pc) (h : pm_ex (pm_run (pm_pl S) n) d (pm_ocl vi j' n' ci pad hl j (pc + 3) L st M) = some (o, M')) (hdg : (vi = 0 ∧ decode cc pc = .ok (.invokestatic x, 3)) ∨ (vi = 1 ∧ decode cc pc = .ok (.invokevirtual x, 3)) ∨ (vi = 2 ∧ decode cc pc = .ok (.invokespecial x, 3))) : W p l e R s m args below meth c H locs k ks (pm_MQ below (pm_Qo D dA b A ad0 M0 o M' mc ms) args s) (F0 m pc ls (st.map (pm_ren ad))) := by
  unfold pm_ocl at h
  cases hag : pm_ag n' [] st with
  | none => rw [hag] at h; exact (pm_no h).elim
  | some ar =>
    obtain ⟨a, r⟩ := ar
    rw [hag] at h
    dsimp only at h
    split at h
    · rename_i hcond
      obtain ⟨hr4, hobj, hall⟩ := hcond
      cases d with
      | zero => exact (pm_no h).elim
      | succ d' =>
        simp only [pm_ex] at h
        cases hrun : pm_run (pm_pl S) n d' (j', 0, a ++ pad, []) M with
        | none => rw [hrun] at h; exact (pm_no h).elim
        | some q1 =>
          obtain ⟨o1, M1⟩ := q1
          rw [hrun] at h
          have hle := pm_run_le _ _ _ _ _ _ hrun
          have h2 : (match (generalizing := false) o1 with
            | .inl v => pm_run (pm_pl S) n (d' + 1) (j, pc + 3, L, v.toList ++ r) M1
            | .inr E => (match (if hl = [] then some none else (hl.lookup E).map (fun q => some (j, q.1, L.set q.2 pm_U, []))) with
              | some (some f') => pm_run (pm_pl S) n (d' + 1) f' M1
              | some none => some (.inr E, M1)
              | none => none)) = some (o, M') := by cases o1 <;> exact h
          have hle2 : pm_le M1 M' := by
            cases o1 with
            | inl v => exact pm_run_le _ _ _ _ _ _ h2
            | inr E =>
              simp only at h2
              split at h2
              · exact pm_run_le _ _ _ _ _ _ h2
              · cases h2; exact pm_le.rf
              · cases h2
          have l1 := hle.1
          have l2 := hle.2
          have l3 := hle2.1
          have l4 := hle2.2
          obtain ⟨t, hst, ha, htl, hcat⟩ := pm_ag_spec _ _ _ _ _ hag
          rw [List.append_nil] at ha
          have halen : a.length = n' := by rw [ha, List.length_reverse, htl]
          have hcata : ∀ v ∈ a, ¬ pm_ty v = 1 ∧ ¬ pm_ty v = 9 := fun v hv => hcat v (by rw [ha] at hv; exact List.mem_reverse.mp hv)
          have hvba : ∀ v ∈ a, pm_vb M v := fun v hv => dy.2.2.2.1 v (by rw [hst]; rw [ha] at hv; exact List.mem_append_left _ (List.mem_reverse.mp hv))
          have hvbr : ∀ v ∈ r, pm_vb M v := fun v hv => dy.2.2.2.1 v (by rw [hst]; exact List.mem_append_right _ hv)
          have hstk : st.map (pm_ren ad) = (a.map (pm_ren ad)).reverse ++ r.map (pm_ren ad) := by
            rw [hst, ha, List.map_append, List.map_reverse, List.reverse_reverse]
          obtain ⟨hx, hb, hml, hown, hgw, hlk, hrt, hnm, hK, hms, hRR, hl9, hh⟩ := id cx
          have hchk := pm_ctab_ok _ (pm_lk_mem _ _ _ hf)
          obtain ⟨e1, e2⟩ := pm_link (j := j) hx9
          have hvi3 : ¬ vi = 3 ∧ ¬ vi = 4 ∧ ¬ vi = 5 ∧ ¬ vi = 6 := by rcases hdg with ⟨z, -⟩ | ⟨z, -⟩ | ⟨z, -⟩ <;> omega
          unfold pm_cchk at hchk
          dsimp only at hchk
          rw [if_neg hvi3.1, if_neg hvi3.2.1, if_neg hvi3.2.2.1, if_neg hvi3.2.2.2, e1, e2] at hchk
          cases hms' : pm_lk pm_ms j' with
          | none => rw [hms'] at hchk; cases hchk
          | some x1 =>
            rw [hms'] at hchk
            simp only [Bool.and_eq_true, decide_eq_true_eq] at hchk
            obtain ⟨⟨⟨⟨⟨⟨⟨⟨⟨q1, q2⟩, q3⟩, q4⟩, q5⟩, q6⟩, q7⟩, q8⟩, q9⟩, q10⟩ := hchk
            have hA1 : ∀ q, pm_A1 M ad H q → A q := by
              intro q hq
              rcases hq with ⟨z, c9, h1, rfl⟩ | hq
              · exact (dy.1.2.2.1 z c9 h1).2.2.2.2
              · exact hK.2.2.2.2.2.2.2 q (Nat.le_trans dy.2.1.1 hq)
            have hM := hct d' j' x1 a M o1 M1 hms' q1 (by omega) hcata (by rw [halen, ← q3]; exact hrun) D dA b (pm_A1 M ad H) ad H.size hvba
            have hP : ∀ (T : State), T.heap = H → ∀ vm₁, s.WarmedH vm₁ → pm_Pc D dA S b (pm_A1 M ad H) ad M H.size a (a.map (pm_ren ad)).toArray (T.setVm vm₁) := by
              intro T hT vm₁ hW
              refine ⟨rfl, by rw [← hT]; rfl, ?_, ?_⟩
              · have h9 : pm_W D dA b (pm_A1 M ad H) ad M H := dy.1.to (fun q c9 hq _ => Or.inl ⟨q, c9, hq, rfl⟩)
                show pm_W D dA b (pm_A1 M ad H) ad M T.heap
                rw [hT]; exact h9
              · exact hK.next dy.2.1 hW hT (fun q _ z => hA1 q z) (fun q hq => Or.inr hq)
            have hwsC : ∀ w ∈ pm_hd j' x1 :: pm_gw, w.before args s = true ∧ goodWord w = true := by
              intro w hw
              rcases List.mem_cons.mp hw with rfl | hw
              · exact ⟨hgw _ (pm_hd_gw q1 hms'), pm_hd_good⟩
              · exact ⟨hgw w hw, (List.mem_filter.mp hw).2⟩
            have hsz : ls.size = c.maxLocals := by rw [hml]; exact dy.2.2.1.1
            have hcs : 2 * (F0 m pc ls ([] : List Value)).monitorRoom + ((r.map (pm_ren ad)).map fun v => v.category).sum ≤ 8 := by
              have := pm_cat_ren ad r
              show 2 * 0 + _ ≤ 8
              omega
            have hcd := pm_cd (hgw _ (pm_hd_gw q1 hms'))
            have hnp : ∀ sig, parseMethodDescriptor x1.1.desc = some sig → pm_np x1.1 = sig.parameters.length := fun sig hs => by unfold pm_np; rw [hs]
            rw [hstk]
            refine s_aft (r := r) (o1 := o1) (M1 := M1) cx ih dy hk hks hR hle hvbr (fun T hT X => ?_) hhl hHk hall h2
            rcases hdg with ⟨rfl, hd0⟩ | ⟨rfl, hd1⟩ | ⟨rfl, hd2⟩
            · rw [if_pos rfl] at q10
              simp only [Bool.and_eq_true, decide_eq_true_eq] at q10
              exact pm_callS (g := F0 m pc ls ((a.map (pm_ren ad)).reverse ++ r.map (pm_ren ad))) (argsL := a.map (pm_ren ad)) X hx hown (hgw _ (pm_inT_mem q10.1.1)) (hgw _ (pm_inT_mem q10.1.2)) hcd (hgw _ (pm_inT_mem q2)) ⟨q7, q8⟩ hM pm_blind hwsC rfl hsz (fun sig hs => by rw [List.length_map, halen, ← hnp sig hs]; exact q10.2) rfl hcs (by rw [hb]; exact hd0) (hP T hT) rfl rfl (by show d' + 8 + 1 ≤ R.frames; omega) (by show 8 + (x1.2.2.1 + 11) + (60 * d' + 200) ≤ R.locals; omega) (by omega) (by omega)
            · rw [if_neg (by decide), if_pos rfl] at q10
              simp only [Bool.and_eq_true, decide_eq_true_eq] at q10
              obtain ⟨⟨⟨⟨⟨u1, u2⟩, u3⟩, u4⟩, u5⟩, u6⟩ := q10
              have hobj : pm_obj M ci (a.headD pm_U) = true := hobj.resolve_left (by decide)
              rcases a with _ | ⟨v0, As⟩
              · cases hobj
              · cases v0 with
                | ref q0 =>
                  have hobj : pm_obj M ci (.ref q0) = true := hobj
                  unfold pm_obj at hobj
                  dsimp only at hobj
                  cases hg : pm_get M q0 with
                  | none => rw [hg] at hobj; cases hobj
                  | some c2 =>
                    rw [hg] at hobj
                    rcases c2 with c2 | ⟨c2, fs2⟩
                    · cases hobj
                    · have hc2 : c2 = ci := of_decide_eq_true hobj
                      subst hc2
                      obtain ⟨g1, g2, g3, g4, g5⟩ := dy.1.2.2.1 q0 _ hg
                      cases hcl : pm_cl[c2]? with
                      | none => rw [hcl] at u5; cases u5
                      | some r9 =>
                        rw [hcl] at u5
                        have u5 : r9.1 = x1.1.cls := Option.some.inj u5
                        obtain ⟨cellB, w1, w2, w3⟩ := va_recv hK.1 (r_one g4) hcl (q0 := 0) rfl
                        rw [u5] at w3
                        have e9 : ((Value.ref q0 :: As).map (pm_ren ad)).reverse ++ r.map (pm_ren ad) = (As.map (pm_ren ad)).reverse ++ .ref (ad q0) :: r.map (pm_ren ad) := by
                          rw [List.map_cons, List.reverse_cons, List.append_assoc]; rfl
                        rw [e9]
                        exact pm_callV (C := x1.1.cls) (g := F0 m pc ls ((As.map (pm_ren ad)).reverse ++ .ref (ad q0) :: r.map (pm_ren ad))) (argsL := As.map (pm_ren ad)) (q := ad q0) (cellB := cellB) X hx hown (hgw _ (pm_inT_mem u1)) (hgw _ (pm_inT_mem u2)) (hgw _ (pm_inT_mem u3)) hcd (hgw _ (pm_inT_mem q2)) ⟨q7, q8⟩ (by rw [hT]; exact w1) w2 w3 hM pm_blind hwsC rfl hsz (fun sig hs => by rw [List.length_map, ← hnp sig hs]; rw [List.length_cons] at halen; omega) rfl hcs (by rw [hb]; exact hd1) (hP T hT) rfl rfl (by show d' + 8 + 1 ≤ R.frames; omega) (by show 8 + (x1.2.2.1 + 11) + (60 * d' + 200) ≤ R.locals; omega) (by omega) (by omega)
                | _ => cases hobj
            · rw [if_neg (by decide), if_neg (by decide), if_pos rfl] at q10
              simp only [Bool.and_eq_true, Bool.or_eq_true, decide_eq_true_eq] at q10
              obtain ⟨⟨⟨⟨⟨⟨u1, u2⟩, u3⟩, u4⟩, u5⟩, u6⟩, u7⟩ := q10
              have hobj : pm_obj M ci (a.headD pm_U) = true := hobj.resolve_left (by decide)
              have hcw : (Cond.code x1.1 x1.2.1 x1.2.2.1 none).before args s = true := by
                have h9 := hgw _ (pm_hd_gw q1 hms')
                unfold pm_hd at h9
                rw [if_pos u6, u4] at h9
                exact h9
              rcases a with _ | ⟨v0, As⟩
              · cases hobj
              · cases v0 with
                | ref q0 =>
                  have e9 : ((Value.ref q0 :: As).map (pm_ren ad)).reverse ++ r.map (pm_ren ad) = (As.map (pm_ren ad)).reverse ++ .ref (ad q0) :: r.map (pm_ren ad) := by
                    rw [List.map_cons, List.reverse_cons, List.append_assoc]; rfl
                  rw [e9]
                  exact pm_callI (bytes := x1.2.1) (g := F0 m pc ls ((As.map (pm_ren ad)).reverse ++ .ref (ad q0) :: r.map (pm_ren ad))) (argsL := As.map (pm_ren ad)) (q := ad q0) X hx hown u3 (by
                    rcases u1 with z | z
                    · exact Or.inl (hgw _ (pm_inT_mem z))
                    · exact Or.inr ⟨_, va_Nw.use rfl (hK.2.1 _ (pm_inN_mem z))⟩) (hgw _ (pm_inT_mem u2)) hcw (hgw _ (pm_inT_mem q2)) ⟨q7, q8⟩ hM pm_blind hwsC rfl hsz (fun sig hs => by rw [List.length_map, ← hnp sig hs]; rw [List.length_cons] at halen; omega) rfl hcs (by rw [hb]; exact hd2) (hP T hT) rfl rfl (by show d' + 8 + 1 ≤ R.frames; omega) (by show 8 + (x1.2.2.1 + 11) + (60 * d' + 200) ≤ R.locals; omega) (by omega) (by omega)
                | _ => cases hobj
    · exact (pm_no h).elim
end PMSTEP7
