/-! Calls in the pure machine and in the JVM. -/
/-- what the callee may change: the cells of the memory, and new ones -/
def pm_A1 (M : pm_M) (ad : Nat → Nat) (H : Heap) : Nat → Prop := fun q => (∃ z c, pm_get M z = some c ∧ ad z = q) ∨ H.size ≤ q
theorem pm_W.to {D : va_G} {dA : Nat → ClassId} {b : Nat} {A B : Nat → Prop} {ad : Nat → Nat} {M : pm_M} {H : Heap} (h : pm_W D dA b A ad M H) (hAB : ∀ q c, pm_get M q = some c → A (ad q) → B (ad q)) : pm_W D dA b B ad M H :=
  ⟨h.1, h.2.1, fun q c hq => by
    obtain ⟨g1, g2, g3, g4, g5⟩ := h.2.2.1 q c hq
    exact ⟨g1, g2, g3, g4, hAB q c hq g5⟩, h.2.2.2⟩
/-- the contracts of all methods, over n steps of the pure machine -/
def pm_Ct (l : Launch) (S : pm_S) (n : Nat) : Prop := ∀ (d j : Nat) (x : pm_I) (a : List Value) (M : pm_M) (o : pm_O) (M' : pm_M), pm_lk pm_ms j = some x → j ∈ pm_hjs → a.length ≤ x.2.2.1 → (∀ v ∈ a, ¬ pm_ty v = 1 ∧ ¬ pm_ty v = 9) → pm_run (pm_pl S) n d (j, 0, a ++ List.replicate (x.2.2.1 - a.length) pm_U, []) M = some (o, M') →
  ∀ (D : va_G) (dA : Nat → ClassId) (b : Nat) (A : Nat → Prop) (ad : Nat → Nat) (sz : Nat), (∀ v ∈ a, pm_vb M v) → MetFree l x.1 (headSpec (pm_hd j x :: pm_gw) (pm_rm d (M'.2.1 - M.2.1) (M'.2.2 - M.2.2))) (pm_Pc D dA S b A ad M sz a) (fun _ _ _ _ _ => True) (pm_Qo D dA b A ad M o M' (M'.2.1 - M.2.1) (M'.2.2 - M.2.2))
theorem pm_ag_spec : ∀ (n : Nat) (acc st a r : List Value), pm_ag n acc st = some (a, r) → ∃ t, st = t ++ r ∧ a = t.reverse ++ acc ∧ t.length = n ∧ ∀ v ∈ t, ¬ pm_ty v = 1 ∧ ¬ pm_ty v = 9
  | 0, acc, st, a, r, h => by cases h; exact ⟨[], rfl, rfl, rfl, fun v hv => nomatch hv⟩
  | n + 1, acc, [], a, r, h => by cases h
  | n + 1, acc, v :: st, a, r, h => by
    unfold pm_ag at h
    split at h
    · cases h
    · rename_i hc
      obtain ⟨t, h1, h2, h3, h4⟩ := pm_ag_spec n (v :: acc) st a r h
      refine ⟨v :: t, by rw [h1]; rfl, by rw [h2, List.reverse_cons, List.append_assoc]; rfl, by rw [List.length_cons, h3], fun w hw => ?_⟩
      rcases List.mem_cons.mp hw with rfl | hw
      · exact ⟨fun z => hc (Or.inl z), fun z => hc (Or.inr z)⟩
      · exact h4 w hw
/-- the rows of the exception tables at the calls -/
def pm_hrow (j pc : Nat) (q : (String × Nat × Nat) × (Nat × Nat × Nat × Nat)) : Bool := decide (q.2.1 ≤ pc) && decide (pc < q.2.2.1) && decide (q.2.2.2.2 ≠ 0) && pm_inT (.classLink (pm_cn (pm_own j)) q.2.2.2.2 q.1.1) && pm_inN (.castable q.1.1 q.1.1) && (match pm_ins j q.2.2.2.1 with
  | some (.astore k, nx, _) => decide (k = q.1.2.2) && decide (nx = q.1.2.1)
  | some (.astore_n k, nx, _) => decide (k.val = q.1.2.2) && decide (nx = q.1.2.1)
  | _ => false)
def pm_hpair : List (String × Nat × Nat) → Bool
  | [_] => true
  | [a, b] => decide ((b.1, a.1) ∈ pm_ncs)
  | _ => false
def pm_hk (j pc : Nat) (i : Instr) : Bool := match i with
  | .invokevirtual _ => (match pm_lk pm_htab (10000 * j + pc) with
    | none => (pm_hh j).all (fun q => !(decide (q.1 ≤ pc) && decide (pc < q.2.1)))
    | some hl => decide (hl.length = (pm_hh j).length) && pm_hpair hl && (hl.zip (pm_hh j)).all (pm_hrow j pc))
  | .invokestatic _ => (match pm_lk pm_htab (10000 * j + pc) with
    | none => (pm_hh j).all (fun q => !(decide (q.1 ≤ pc) && decide (pc < q.2.1)))
    | some hl => decide (hl.length = (pm_hh j).length) && pm_hpair hl && (hl.zip (pm_hh j)).all (pm_hrow j pc))
  | .invokespecial _ => (match pm_lk pm_htab (10000 * j + pc) with
    | none => (pm_hh j).all (fun q => !(decide (q.1 ≤ pc) && decide (pc < q.2.1)))
    | some hl => decide (hl.length = (pm_hh j).length) && pm_hpair hl && (hl.zip (pm_hh j)).all (pm_hrow j pc))
  | _ => true
theorem pm_h_ok : pm_tabs.all (fun q => q.2.all (fun r => pm_hk q.1 r.1 r.2.1)) = true := by decide +kernel
def pm_Hk (j pc : Nat) : Prop := (match pm_lk pm_htab (10000 * j + pc) with
    | none => (pm_hh j).all (fun q => !(decide (q.1 ≤ pc) && decide (pc < q.2.1)))
    | some hl => decide (hl.length = (pm_hh j).length) && pm_hpair hl && (hl.zip (pm_hh j)).all (pm_hrow j pc)) = true
section PMSTEP6
variable {p : Program} {l : Launch} {e : Env} {R : Room} {s : State} {m : MethodId} {args : Array Value} {below : List Frame} {meth : Method} {c : Code} {D : va_G} {dA : Nat → ClassId} {S : pm_S} {b : Nat} {A : Nat → Prop} {j d : Nat} {y : MethodName} {cc : ByteArray} {nL : Nat} {ret : Option FieldType} {rk : Nat} {ad0 : Nat → Nat} {M0 : pm_M} {o : pm_O} {M' : pm_M} {mc ms n pc nx tg : Nat} {L st : List Value} {M : pm_M} {ad : Nat → Nat} {H : Heap} {locs : List Loc} {ls : Array Slot} {k ks : Nat}
theorem pm_in_d (cx : pm_Cx p l R s m args meth c D dA S b A j d y cc nL ret rk) {pc9 : Nat} {q : Instr × Nat × Nat} (hq : pm_ins j pc9 = some q) : decode cc pc9 = .ok (q.1, q.2.1 - pc9) := by
  obtain ⟨x9, g1, g2, -⟩ := pm_ins_ok hq
  cases cx.2.2.2.2.2.2.2.2.2.1.symm.trans g1
  exact g2
/-- a handler's start: the exception is stored away -/
theorem s_hand {hp lk nx9 : Nat} {q : Addr} (cx : pm_Cx p l R s m args meth c D dA S b A j d y cc nL ret rk) (ih : pm_Ih p l e R s m args below meth c D dA S b A j d nL ad0 M0 o M' mc ms n) (dy : pm_Dy D dA b A ad0 M0 s nL L st M ad H locs ls) (hk : k + M'.2.1 = mc + M.2.1) (hks : ks + M'.2.2 = ms + M.2.2) (hrun : pm_run (pm_pl S) n d (j, nx9, L.set lk pm_U, []) M = some (o, M')) (hins : (match pm_ins j hp with
  | some (.astore k, nx, _) => decide (k = lk) && decide (nx = nx9)
  | some (.astore_n k, nx, _) => decide (k.val = lk) && decide (nx = nx9)
  | _ => false) = true) (hlk : lk < L.length) (hlp : ¬ pm_ty (L.getD (lk - 1) pm_U) = 1) : W p l e R s m args below meth c H locs k ks (pm_MQ below (pm_Qo D dA b A ad0 M0 o M' mc ms) args s) (F0 m hp ls ([.ref q])) := by
  obtain ⟨ls', e1, e2⟩ := dy.2.2.1.set1 (v := pm_U) (w := .ref q) hlk hlp rfl (fun z hz => nomatch hz) (fun z => absurd rfl z)
  have g := ih nx9 (L.set lk pm_U) [] M ad H locs ls' k ks hrun ⟨dy.1, dy.2.1, e2, fun v hv => (nomatch hv), dy.2.2.2.2⟩ hk hks
  cases hi : pm_ins j hp with
  | none => rw [hi] at hins; cases hins
  | some q9 =>
    obtain ⟨i9, n9, t9⟩ := q9
    have hd := pm_in_d cx hi
    dsimp only at hd
    rw [hi] at hins
    cases i9 with
    | astore k9 =>
      simp only [Bool.and_eq_true, decide_eq_true_eq] at hins
      obtain ⟨rfl, rfl⟩ := hins
      have hn := pm_ins_len hi (Nat.succ_ne_zero _)
      rw [show n9 = hp + 2 from hn] at hd g
      rw [show hp + 2 - hp = 2 by omega] at hd
      exact r_astore cx.1 cx.2.1 rfl hd e1 g
    | astore_n k9 =>
      simp only [Bool.and_eq_true, decide_eq_true_eq] at hins
      obtain ⟨rfl, rfl⟩ := hins
      have hn := pm_ins_len hi (Nat.succ_ne_zero _)
      rw [show n9 = hp + 1 from hn] at hd g
      rw [show hp + 1 - hp = 1 by omega] at hd
      exact r_astore_n cx.1 cx.2.1 rfl hd e1 g
    | _ => cases hins
/-- behind a call -/
theorem s_aft {o1 : pm_O} {M1 : pm_M} {r stk : List Value} {hl : List (String × Nat × Nat)} (cx : pm_Cx p l R s m args meth c D dA S b A j d y cc nL ret rk) (ih : pm_Ih p l e R s m args below meth c D dA S b A j d nL ad0 M0 o M' mc ms n) (dy : pm_Dy D dA b A ad0 M0 s nL L st M ad H locs ls) (hk : k + M'.2.1 = mc + M.2.1) (hks : ks + M'.2.2 = ms + M.2.2) (hR : mc ≤ R.cells ∧ ms ≤ R.slots) (hle : pm_le M M1) (hr : ∀ v ∈ r, pm_vb M v)
    (haft : ∀ T : State, T.heap = H → Stand p l e R s m args below meth c T locs k ks → pm_Aft p l e R s m args below meth c D dA b (pm_A1 M ad H) ad M o1 M1 T locs (k + (M1.2.1 - M.2.1)) (ks + (M1.2.2 - M.2.2)) (F0 m pc ls stk) (r.map (pm_ren ad)) (T.setTop (F0 m pc ls stk)))
    (hhl : hl = (pm_lk pm_htab (10000 * j + pc)).getD []) (hHk : pm_Hk j pc) (hall : hl.all (fun q => decide (q.2.2 < L.length) && !(pm_ty (L.getD (q.2.2 - 1) pm_U) == 1)) = true)
    (h : (match (generalizing := false) o1 with
      | .inl v => pm_run (pm_pl S) n d (j, pc + 3, L, v.toList ++ r) M1
      | .inr E => (match (if hl = [] then some none else (hl.lookup E).map (fun q => some (j, q.1, L.set q.2 pm_U, []))) with
        | some (some f') => pm_run (pm_pl S) n d f' M1
        | some none => some (.inr E, M1)
        | none => none)) = some (o, M')) : W p l e R s m args below meth c H locs k ks (pm_MQ below (pm_Qo D dA b A ad0 M0 o M' mc ms) args s) (F0 m pc ls (stk)) := by
  intro T hT X
  have hK := cx.2.2.2.2.2.2.2.2.1
  have hA1 : ∀ q, pm_A1 M ad H q → A q := by
    intro q hq
    rcases hq with ⟨z, c9, h1, rfl⟩ | hq
    · exact (dy.1.2.2.1 z c9 h1).2.2.2.2
    · exact hK.2.2.2.2.2.2.2 q (Nat.le_trans dy.2.1.1 hq)
  obtain ⟨ad', U, Ls, XU, hL, hN, hWd, ⟨hF1, hF2⟩, hst⟩ := haft T hT X
  rw [hT] at hF1 hF2
  have hWd' : pm_W D dA b A ad' M1 U.heap := hWd.to (fun q c9 _ z => hA1 _ z)
  have hS' : va_S A s.heap U.heap (locs ++ Ls) := ⟨Nat.le_trans dy.2.1.1 hF1, fun q h1 h2 => (hF2 q (Nat.lt_of_lt_of_le h1 dy.2.1.1) (fun z => h2 (hA1 q z))).trans (dy.2.1.2.1 q h1 h2), fun q hq => by
    rcases List.mem_append.mp hq with z | z
    · exact dy.2.1.2.2 q z
    · exact hA1 _ (hL q z)⟩
  have hN' : ∀ q, pm_b M0 q → pm_b M1 q ∧ ad' q = ad0 q := fun q hq => ⟨(hN q (dy.2.2.2.2 q hq).1).1, (hN q (dy.2.2.2.2 q hq).1).2.trans (dy.2.2.2.2 q hq).2⟩
  have hLo' : pm_Lo nL ad' M1 L ls := dy.2.2.1.to (fun q hq => (hN q hq).1) (fun q hq => (hN q hq).2)
  have hr' : ∀ v ∈ r, pm_vb M1 v := fun v hv q hq => (hN q (hr v hv q hq)).1
  have hrr : r.map (pm_ren ad') = r.map (pm_ren ad) := pm_rens_eq (fun q hq => (hN q hq).2) hr
  have hle1 := hle.1
  have hle2 := hle.2
  cases o1 with
  | inl v =>
    obtain ⟨hv, hst⟩ := hst
    have hb9 : ∀ w ∈ v.toList ++ r, pm_vb M1 w := by
      intro w hw
      rcases List.mem_append.mp hw with z | z
      · exact hv w (Option.mem_toList.mp z)
      · exact hr' w z
    have g := ih (pc + 3) L (v.toList ++ r) M1 ad' U.heap (locs ++ Ls) ls (k + (M1.2.1 - M.2.1)) (ks + (M1.2.2 - M.2.2)) h ⟨hWd', hS', hLo', hb9, hN'⟩ (by omega) (by omega)
    have e9 : (v.toList ++ r).map (pm_ren ad') = (v.map (pm_ren ad')).toList ++ r.map (pm_ren ad) := by
      rw [List.map_append, hrr]
      cases v <;> rfl
    rw [e9] at g
    obtain ⟨t, a1, b1⟩ := g U rfl XU
    exact ⟨t, hst.trans a1, b1⟩
  | inr E =>
    obtain ⟨q, ce, hce, hcv, hcl, hst⟩ := hst
    obtain ⟨hx, hb, hml, hown, hgw, hlk, hrt, hnm, -, hms, hRR, hl9, hh⟩ := id cx
    unfold pm_Hk at hHk
    dsimp only at h
    by_cases hnil : hl = []
    · rw [if_pos hnil] at h
      have h : some ((.inr E : pm_O), M1) = some (o, M') := h
      cases h
      have hout : ∀ x ∈ c.exceptionTable.toList, covers x pc = false := by
        intro x hx9
        have hm : (x.startPc, x.endPc, x.handlerPc, x.catchType) ∈ pm_hh j := by rw [← hh]; exact List.mem_map.mpr ⟨x, hx9, rfl⟩
        cases hq9 : pm_lk pm_htab (10000 * j + pc) with
        | none =>
          rw [hq9] at hHk
          have := List.all_eq_true.mp hHk _ hm
          simp [covers] at this ⊢
          omega
        | some hl2 =>
          rw [hq9] at hHk hhl
          have hl2e : hl2 = [] := by rw [hnil] at hhl; exact hhl.symm
          rw [hl2e] at hHk
          simp [pm_hpair] at hHk
      obtain ⟨st1, hrun, hend, hW9, hsm⟩ := XU.leaveThrown q (g := F0 m pc ls (r.map (pm_ren ad))) rfl rfl rfl hout hlk
      refine ⟨_, hst.trans st1, .threw q, hrun, hend, ad', locs ++ Ls, hW9, hsm.mono (by omega) (by omega), hS'.2.2, hN', hWd', ⟨hS'.1, hS'.2.1⟩, q, ce, rfl, hce, hcv, hcl⟩
    · rw [if_neg hnil] at h
      cases hq9 : pm_lk pm_htab (10000 * j + pc) with
      | none => rw [hq9] at hhl; exact absurd hhl hnil
      | some hl2 =>
        rw [hq9] at hHk hhl
        have hhl : hl = hl2 := hhl
        subst hhl
        simp only [Bool.and_eq_true, decide_eq_true_eq] at hHk
        obtain ⟨⟨hlen, hpair⟩, hrows⟩ := hHk
        have dy1 : pm_Dy D dA b A ad0 M0 s nL L [] M1 ad' U.heap (locs ++ Ls) ls := ⟨hWd', hS', hLo', fun v hv => (nomatch hv), hN'⟩
        have fin : ∀ (pre suf : List ExceptionTableEntry) (x : ExceptionTableEntry) (E1 : String) (n1 k1 : Nat), c.exceptionTable.toList = pre ++ x :: suf → E1 = E → pm_hrow j pc ((E1, (n1, k1)), (x.startPc, x.endPc, x.handlerPc, x.catchType)) = true → (E1, (n1, k1)) ∈ hl → pm_run (pm_pl S) n d (j, n1, L.set k1 pm_U, []) M1 = some (o, M') → (∀ z ∈ pre, covers z pc = true ∧ z.catchType ≠ 0 ∧ ∃ nm : String, (Cond.classLink (pm_cn (pm_own j)) z.catchType nm).before args s = true ∧ va_Nc E nm s) → ∃ t, Steps p.tables e below (T.setTop (F0 m pc ls stk)) t ∧ pm_MQ below (pm_Qo D dA b A ad0 M0 o M' mc ms) args s t := by
          intro pre suf x E1 n1 k1 hsp hE hrow hmem hrun hpass
          subst hE
          unfold pm_hrow at hrow
          simp only [Bool.and_eq_true, decide_eq_true_eq] at hrow
          obtain ⟨⟨⟨⟨⟨r1, r2⟩, r3⟩, r4⟩, r5⟩, r6⟩ := hrow
          have hl1 := List.all_eq_true.mp hall _ hmem
          simp only [Bool.and_eq_true, decide_eq_true_eq, Bool.not_eq_true', beq_eq_false_iff_ne, ne_eq] at hl1
          have hcov : covers x pc = true := by simp [covers, r1, r2]
          obtain ⟨vm', X2, hsteps⟩ := pm_catch XU (g := F0 m pc ls (r.map (pm_ren ad))) rfl hown pre x suf hsp hpass hcov r3 (hgw _ (pm_inT_mem r4)) (va_Nw.use rfl (hK.2.1 _ (pm_inN_mem r5))) hce hcv hcl
          have g := s_hand (hp := x.handlerPc) (q := q) (st := []) (k := k + (M1.2.1 - M.2.1)) (ks := ks + (M1.2.2 - M.2.2)) cx ih dy1 (by omega) (by omega) hrun r6 hl1.1 hl1.2
          obtain ⟨t, a1, b1⟩ := g (U.setVm vm') rfl X2
          exact ⟨t, hst.trans (hsteps t a1), b1⟩
        have htl : c.exceptionTable.toList.length = hl.length := by
          rw [hlen, ← hh, List.length_map]
        match hl, hpair, htl, hrows, h, fin with
        | [(E1, (n1, k1))], _, htl, hrows, h, fin =>
          match htab : c.exceptionTable.toList, htl with
          | [x1], _ =>
            rw [htab] at hh
            rw [← hh] at hrows
            simp only [List.map_cons, List.map_nil, List.zip_cons_cons, List.zip_nil_right, List.all_cons, List.all_nil, Bool.and_true] at hrows
            by_cases hE : E = E1
            · subst hE
              rw [show List.lookup E [(E, (n1, k1))] = some (n1, k1) by simp [List.lookup]] at h
              exact fin [] [] x1 E n1 k1 htab rfl hrows List.mem_cons_self h (fun z hz => nomatch hz)
            · rw [show List.lookup E [(E1, (n1, k1))] = none by simp [List.lookup, beq_eq_false_iff_ne.mpr hE]] at h
              exact (pm_no h).elim
        | [(E1, (n1, k1)), (E2, (n2, k2))], hpair, htl, hrows, h, fin =>
          match htab : c.exceptionTable.toList, htl with
          | [x1, x2], _ =>
            rw [htab] at hh
            rw [← hh] at hrows
            simp only [List.map_cons, List.map_nil, List.zip_cons_cons, List.zip_nil_right, List.all_cons, List.all_nil, Bool.and_true, Bool.and_eq_true] at hrows
            by_cases hE : E = E1
            · subst hE
              rw [show List.lookup E [(E, (n1, k1)), (E2, (n2, k2))] = some (n1, k1) by simp [List.lookup]] at h
              exact fin [] [x2] x1 E n1 k1 htab rfl hrows.1 List.mem_cons_self h (fun z hz => nomatch hz)
            · by_cases hE2 : E = E2
              · subst hE2
                rw [show List.lookup E [(E1, (n1, k1)), (E, (n2, k2))] = some (n2, k2) by simp [List.lookup, beq_eq_false_iff_ne.mpr hE]] at h
                refine fin [x1] [] x2 E n2 k2 htab rfl hrows.2 (List.mem_cons_of_mem _ List.mem_cons_self) h (fun z hz => ?_)
                rcases List.mem_singleton.mp hz with rfl
                have hrow := hrows.1
                unfold pm_hrow at hrow
                simp only [Bool.and_eq_true, decide_eq_true_eq] at hrow
                obtain ⟨⟨⟨⟨⟨r1, r2⟩, r3⟩, r4⟩, r5⟩, r6⟩ := hrow
                have hnc : (E, E1) ∈ pm_ncs := of_decide_eq_true hpair
                exact ⟨by simp [covers, r1, r2], r3, E1, hgw _ (pm_inT_mem r4), hK.2.2.2.2.1 _ hnc⟩
              · rw [show List.lookup E [(E1, (n1, k1)), (E2, (n2, k2))] = none by simp [List.lookup, beq_eq_false_iff_ne.mpr hE, beq_eq_false_iff_ne.mpr hE2]] at h
                exact (pm_no h).elim
end PMSTEP6
