/-! Arrays, and what is made. -/
theorem pm_el_in {t' t n : Nat} {f : (Nat → Int32) ⊕ (Nat → Int64) ⊕ (Nat → UInt32) ⊕ (Nat → UInt64) ⊕ (Nat → Option Nat)} {i : Int32} (h : t' = t ∧ ¬ (i < 0 ∨ n ≤ i.toNatClampNeg)) : pm_el t (.inl (t', (n, f))) i = (match f with
    | .inl f => some (.int (f i.toNatClampNeg))
    | .inr (.inl f) => some (.long (f i.toNatClampNeg))
    | .inr (.inr (.inr (.inr f))) => some (va_rf (f i.toNatClampNeg))
    | _ => none) := by
  unfold pm_el
  exact if_pos h
theorem pm_el_out {t' t n : Nat} {f : (Nat → Int32) ⊕ (Nat → Int64) ⊕ (Nat → UInt32) ⊕ (Nat → UInt64) ⊕ (Nat → Option Nat)} {i : Int32} (h : ¬ (t' = t ∧ ¬ (i < 0 ∨ n ≤ i.toNatClampNeg))) : pm_el t (.inl (t', (n, f))) i = none := by
  unfold pm_el
  exact if_neg h
section PMROW3
variable {p : Program} {l : Launch} {e : Env} {R : Room} {s : State} {m : MethodId} {args : Array Value} {below : List Frame} {meth : Method} {c : Code} {H : Heap} {locs : List Loc} {cells slots : Nat} {Q : State → Prop} {cc : ByteArray} {pc : Nat} {ls : Array Slot} {rest : List Value} {D : va_G} {dA : Nat → ClassId} {a : Nat}
theorem pm_ty_at (dA : Nat → ClassId) (t : Nat) (ht : t < 4) : ∃ ty, (pm_tys dA)[t]? = some (dA t, ty) := by
  match t, ht with
  | 0, _ => exact ⟨_, rfl⟩
  | 1, _ => exact ⟨_, rfl⟩
  | 2, _ => exact ⟨_, rfl⟩
  | 3, _ => exact ⟨_, rfl⟩
theorem r_iast (hx : p.tables.exec = Jvm.exec) (hb : c.code = cc) (hK : va_K D pm_cl (pm_tys dA) s) {n : Nat} {f : Nat → Int32} (ha : va_at D pm_cl (a, .inl (dA 0, (n, .inl f))) H) {i x : Int32} (hin : vp_in i n) (hdg : decode cc pc = .ok (.iastore, 1))
    (kk : ∀ H1 : Heap, H1.size = H.size → (∀ q : Nat, q ≠ a → H1[q]? = H[q]?) → va_at D pm_cl (a, .inl (dA 0, (n, .inl (upd f i.toNatClampNeg x)))) H1 → W p l e R s m args below meth c H1 (locs ++ [⟨a, i.toNatClampNeg⟩]) cells slots Q (F0 m (pc + 1) ls rest)) : W p l e R s m args below meth c H locs cells slots Q (F0 m pc ls (.int x :: .int i :: .ref a :: rest)) := by
  have ha : H[a]? = some (vp_cell (dA 0) (n, .inl f)) := ha
  refine W.iast hx hb ha ((hK.2 0 _ rfl).1 n (fun j => .int (f j))) (fun q => by cases q) (by show ¬ (i < 0 ∨ (arrV _ _ _).slots.size ≤ _); rw [arrV_size]; exact hin) rfl rfl hdg fun H1 e z oq => ?_
  refine kk H1 z oq ?_
  show H1[a]? = some (vp_cell _ _)
  rw [e, vp_cell_i, vp_cell_i, arrV_store]
  congr 2
  funext q
  by_cases hq : q = i.toNatClampNeg <;> simp [updV, upd, hq]
theorem r_zast (hx : p.tables.exec = Jvm.exec) (hb : c.code = cc) (hK : va_K D pm_cl (pm_tys dA) s) {n : Nat} {f : Nat → Int32} (ha : va_at D pm_cl (a, .inl (dA 1, (n, .inl f))) H) {i x : Int32} (hx01 : x = 0 ∨ x = 1) (hin : vp_in i n) (hdg : decode cc pc = .ok (.bastore, 1))
    (kk : ∀ H1 : Heap, H1.size = H.size → (∀ q : Nat, q ≠ a → H1[q]? = H[q]?) → va_at D pm_cl (a, .inl (dA 1, (n, .inl (upd f i.toNatClampNeg x)))) H1 → W p l e R s m args below meth c H1 (locs ++ [⟨a, i.toNatClampNeg⟩]) cells slots Q (F0 m (pc + 1) ls rest)) : W p l e R s m args below meth c H locs cells slots Q (F0 m pc ls (.int x :: .int i :: .ref a :: rest)) := by
  have ha : H[a]? = some (vp_cell (dA 1) (n, .inl f)) := ha
  have hn : narrow .boolean (.int x) = .int x := by rcases hx01 with rfl | rfl <;> decide +kernel
  refine W.zast hx hb ha ((hK.2 1 _ rfl).1 n (fun j => .int (f j))) (fun q => by cases q) (by show ¬ (i < 0 ∨ (arrV _ _ _).slots.size ≤ _); rw [arrV_size]; exact hin) rfl rfl hdg fun H1 e z oq => ?_
  refine kk H1 z oq ?_
  show H1[a]? = some (vp_cell _ _)
  rw [e, hn, vp_cell_i, vp_cell_i, arrV_store]
  congr 2
  funext q
  by_cases hq : q = i.toNatClampNeg <;> simp [updV, upd, hq]
theorem r_last (hx : p.tables.exec = Jvm.exec) (hb : c.code = cc) (hK : va_K D pm_cl (pm_tys dA) s) {n : Nat} {f : Nat → Int64} (ha : va_at D pm_cl (a, .inl (dA 2, (n, .inr (.inl f)))) H) {i : Int32} {x : Int64} (hin : vp_in i n) (hdg : decode cc pc = .ok (.lastore, 1))
    (kk : ∀ H1 : Heap, H1.size = H.size → (∀ q : Nat, q ≠ a → H1[q]? = H[q]?) → va_at D pm_cl (a, .inl (dA 2, (n, .inr (.inl (vp_updL f i.toNatClampNeg x))))) H1 → W p l e R s m args below meth c H1 (locs ++ [⟨a, i.toNatClampNeg⟩]) cells slots Q (F0 m (pc + 1) ls rest)) : W p l e R s m args below meth c H locs cells slots Q (F0 m pc ls (.long x :: .int i :: .ref a :: rest)) := by
  have ha : H[a]? = some (vp_cell (dA 2) (n, .inr (.inl f))) := ha
  refine W.last hx hb ha ((hK.2 2 _ rfl).1 n (fun j => .long (f j))) (fun q => by cases q) (by show ¬ (i < 0 ∨ (arrV _ _ _).slots.size ≤ _); rw [arrV_size]; exact hin) rfl rfl hdg fun H1 e z oq => ?_
  refine kk H1 z oq ?_
  show H1[a]? = some (vp_cell _ _)
  rw [e, vp_cell_l, vp_cell_l, arrV_store]
  congr 2
  funext q
  by_cases hq : q = i.toNatClampNeg <;> simp [updV, vp_updL, hq]
theorem r_aast (hx : p.tables.exec = Jvm.exec) (hb : c.code = cc) (hK : va_K D pm_cl (pm_tys dA) s) {n v : Nat} {vs : List Value} {f : Nat → Option Nat} (ha : va_at D pm_cl (a, .inl (dA 3, (n, .inr (.inr (.inr (.inr f)))))) H) (hv : va_at D pm_cl (v, .inr (1, vs)) H) {i : Int32} (hin : vp_in i n) (hdg : decode cc pc = .ok (.aastore, 1))
    (kk : ∀ H1 : Heap, H1.size = H.size → (∀ q : Nat, q ≠ a → H1[q]? = H[q]?) → va_at D pm_cl (a, .inl (dA 3, (n, .inr (.inr (.inr (.inr (va_up f i.toNatClampNeg (some v)))))))) H1 → W p l e R s m args below meth c H1 (locs ++ [⟨a, i.toNatClampNeg⟩]) cells slots Q (F0 m (pc + 1) ls rest)) : W p l e R s m args below meth c H locs cells slots Q (F0 m pc ls (.ref v :: .int i :: .ref a :: rest)) := by
  have ha : H[a]? = some (vp_cell (dA 3) (n, .inr (.inr (.inr (.inr f))))) := ha
  have hlt : i.toNatClampNeg < n := Nat.not_le.mp fun q => hin (Or.inr q)
  have h0 : ¬ i < 0 := fun q => hin (Or.inl q)
  obtain ⟨r', hr', cellV, g1, g2, g3, -⟩ := hv
  have g1 : H[v]? = some cellV := g1
  have hcls := (hK.1 1 _ rfl).2
  obtain ⟨kA, comp, k1, k2, k3, -⟩ := (hK.2 3 _ rfl).2
  have hcomp : comp = D.1 1 := Option.some.inj (k3.symm.trans hcls.1)
  subst hcomp
  obtain ⟨kC, hkC, -⟩ := hcls.2
  refine W.aast hx hb ha (fun q h => by cases h) (fun h => by cases h) k1 k2 rfl hkC ⟨h0, by show _ < (arrV _ _ _).slots.size; rw [arrV_size]; exact hlt⟩ g1 (fun q h => by rw [g3] at h; cases h) (by rw [g2]; exact hkC) (by rw [g2]; exact va_assign hcls) rfl rfl hdg fun H1 e z oq => ?_
  refine kk H1 z oq ?_
  show H1[a]? = some (vp_cell _ _)
  rw [e, vp_cell_q, vp_cell_q, arrV_store]
  congr 2
  funext q
  by_cases hq : q = i.toNatClampNeg <;> simp [updV, va_up, va_rf, hq]
theorem r_aastN (hx : p.tables.exec = Jvm.exec) (hb : c.code = cc) (hK : va_K D pm_cl (pm_tys dA) s) {n : Nat} {f : Nat → Option Nat} (ha : va_at D pm_cl (a, .inl (dA 3, (n, .inr (.inr (.inr (.inr f)))))) H) {i : Int32} (hin : vp_in i n) (hdg : decode cc pc = .ok (.aastore, 1))
    (kk : ∀ H1 : Heap, H1.size = H.size → (∀ q : Nat, q ≠ a → H1[q]? = H[q]?) → va_at D pm_cl (a, .inl (dA 3, (n, .inr (.inr (.inr (.inr (va_up f i.toNatClampNeg none))))))) H1 → W p l e R s m args below meth c H1 (locs ++ [⟨a, i.toNatClampNeg⟩]) cells slots Q (F0 m (pc + 1) ls rest)) : W p l e R s m args below meth c H locs cells slots Q (F0 m pc ls (.null :: .int i :: .ref a :: rest)) := by
  have ha : H[a]? = some (vp_cell (dA 3) (n, .inr (.inr (.inr (.inr f))))) := ha
  refine va_WaastN (C := "StowPlan$Box") hx hb ha ((hK.2 3 _ rfl).1 n (fun j => va_rf (f j))) (fun h => by cases h) (by show ¬ (i < 0 ∨ (arrV _ _ _).slots.size ≤ _); rw [arrV_size]; exact hin) rfl rfl hdg fun H1 e z oq => ?_
  refine kk H1 z oq ?_
  show H1[a]? = some (vp_cell _ _)
  rw [e, vp_cell_q, vp_cell_q, arrV_store]
  congr 2
  funext q
  by_cases hq : q = i.toNatClampNeg <;> simp [updV, va_up, va_rf, hq]
end PMROW3
section PMSTEP3
variable {p : Program} {l : Launch} {e : Env} {R : Room} {s : State} {m : MethodId} {args : Array Value} {below : List Frame} {meth : Method} {c : Code} {D : va_G} {dA : Nat → ClassId} {S : pm_S} {b : Nat} {A : Nat → Prop} {j d : Nat} {y : MethodName} {cc : ByteArray} {nL : Nat} {ret : Option FieldType} {rk : Nat} {ad0 : Nat → Nat} {M0 : pm_M} {o : pm_O} {M' : pm_M} {mc ms n pc nx tg : Nat} {L st : List Value} {M : pm_M} {ad : Nat → Nat} {H : Heap} {locs : List Loc} {ls : Array Slot} {k ks : Nat}
theorem s_iald (cx : pm_Cx p l R s m args meth c D dA S b A j d y cc nL ret rk) (ih : pm_Ih p l e R s m args below meth c D dA S b A j d nL ad0 M0 o M' mc ms n) (dy : pm_Dy D dA b A ad0 M0 s nL L st M ad H locs ls) (hk : k + M'.2.1 = mc + M.2.1) (hks : ks + M'.2.2 = ms + M.2.2) (h : pm_ex (pm_run (pm_pl S) n) d (pm_oal S 0 j (pc + 1) L st M) = some (o, M')) (hdg : decode cc pc = .ok (.iaload, 1)) : W p l e R s m args below meth c H locs k ks (pm_MQ below (pm_Qo D dA b A ad0 M0 o M' mc ms) args s) (F0 m pc ls (st.map (pm_ren ad))) := by
  obtain ⟨hx, hb, hml, hown, hgw, -, -, -, hK, -⟩ := cx
  rcases st with _ | ⟨v, _ | ⟨u, r⟩⟩
  · exact (pm_no h).elim
  · cases v <;> exact (pm_no h).elim
  · cases v with
    | int i =>
      cases u with
      | ref q =>
        by_cases hq1 : q = 1
        · subst hq1
          rw [x_oal1] at h
          split at h
          · rename_i hin
            have hb1 : ad 1 = b := dy.1.2.1
            show W p l e R s m args below meth c H locs k ks (pm_MQ below (pm_Qo D dA b A ad0 M0 o M' mc ms) args s) (F0 m pc ls (.int i :: .ref (ad 1) :: r.map (pm_ren ad)))
            rw [hb1]
            exact va_sld hx hb hK.2.2.2.2.2.2.1.2.2 hK.2.2.2.2.2.2.1.1 hK.2.2.2.2.2.2.1.2.1 dy.2.1 hin hdg (ih _ _ _ _ _ _ _ _ _ _ h ⟨dy.1, dy.2.1, dy.2.2.1, pm_all_cons (fun q hq => nomatch hq) (pm_all_tl (pm_all_tl dy.2.2.2.1)), dy.2.2.2.2⟩ hk hks)
          · cases h
        · rw [x_oal _ _ _ _ _ _ _ _ _ _ hq1] at h
          cases hg : pm_get M q with
          | none => rw [hg] at h; exact (pm_no h).elim
          | some c1 =>
            obtain ⟨g1, g2, g3, g4, g5⟩ := dy.1.2.2.1 q _ hg
            rw [hg, Option.bind_some] at h
            rcases c1 with ⟨t1, n1, f1⟩ | c1
            · by_cases hcnd : t1 = 0 ∧ ¬ (i < 0 ∨ n1 ≤ i.toNatClampNeg)
              · rw [pm_el_in (t := 0) hcnd] at h
                obtain ⟨rfl, hin⟩ := hcnd
                rcases f1 with f1 | f1 | f1 | f1 | f1
                · exact va_iald (D := D) (cl := pm_cl) (tys := pm_tys dA) hx hb hK.1 (r_one g4) 0 0 rfl rfl hin hdg (ih _ _ _ _ _ _ _ _ _ _ h ⟨dy.1, dy.2.1, dy.2.2.1, pm_all_cons (fun q hq => nomatch hq) (pm_all_tl (pm_all_tl dy.2.2.2.1)), dy.2.2.2.2⟩ hk hks)
                · exact absurd g3 (by simp [pm_cb])
                · exact absurd g3 (by simp [pm_cb])
                · exact absurd g3 (by simp [pm_cb])
                · exact absurd g3 (by simp [pm_cb])
              · rw [pm_el_out (t := 0) hcnd] at h
                exact (pm_no h).elim
            · exact (pm_no h).elim
      | _ => exact (pm_no h).elim
    | _ => cases u <;> exact (pm_no h).elim
theorem s_zald (cx : pm_Cx p l R s m args meth c D dA S b A j d y cc nL ret rk) (ih : pm_Ih p l e R s m args below meth c D dA S b A j d nL ad0 M0 o M' mc ms n) (dy : pm_Dy D dA b A ad0 M0 s nL L st M ad H locs ls) (hk : k + M'.2.1 = mc + M.2.1) (hks : ks + M'.2.2 = ms + M.2.2) (h : pm_ex (pm_run (pm_pl S) n) d (pm_oal S 1 j (pc + 1) L st M) = some (o, M')) (hdg : decode cc pc = .ok (.baload, 1)) : W p l e R s m args below meth c H locs k ks (pm_MQ below (pm_Qo D dA b A ad0 M0 o M' mc ms) args s) (F0 m pc ls (st.map (pm_ren ad))) := by
  obtain ⟨hx, hb, hml, hown, hgw, -, -, -, hK, -⟩ := cx
  rcases st with _ | ⟨v, _ | ⟨u, r⟩⟩
  · exact (pm_no h).elim
  · cases v <;> exact (pm_no h).elim
  · cases v with
    | int i =>
      cases u with
      | ref q =>
        by_cases hq1 : q = 1
        · subst hq1
          cases hg : pm_get M 1 with
          | none =>
            have h : pm_ex (pm_run (pm_pl S) n) d (match (pm_get M 1).bind (fun c => pm_el 1 c i) with | some v => pm_J j (pc + 1) L (v :: r) M | none => pm_X) = some (o, M') := by
              unfold pm_oal at h; dsimp only at h; rw [if_neg (by decide)] at h; exact h
            rw [hg] at h
            exact (pm_no h).elim
          | some c1 => exact absurd rfl (dy.1.2.2.1 1 _ hg).1
        · rw [x_oal _ _ _ _ _ _ _ _ _ _ hq1] at h
          cases hg : pm_get M q with
          | none => rw [hg] at h; exact (pm_no h).elim
          | some c1 =>
            obtain ⟨g1, g2, g3, g4, g5⟩ := dy.1.2.2.1 q _ hg
            rw [hg, Option.bind_some] at h
            rcases c1 with ⟨t1, n1, f1⟩ | c1
            · by_cases hcnd : t1 = 1 ∧ ¬ (i < 0 ∨ n1 ≤ i.toNatClampNeg)
              · rw [pm_el_in (t := 1) hcnd] at h
                obtain ⟨rfl, hin⟩ := hcnd
                rcases f1 with f1 | f1 | f1 | f1 | f1
                · exact va_zald (D := D) (cl := pm_cl) (tys := pm_tys dA) hx hb hK.1 (r_one g4) 0 1 rfl rfl hin hdg (ih _ _ _ _ _ _ _ _ _ _ h ⟨dy.1, dy.2.1, dy.2.2.1, pm_all_cons (fun q hq => nomatch hq) (pm_all_tl (pm_all_tl dy.2.2.2.1)), dy.2.2.2.2⟩ hk hks)
                · exact absurd g3 (by simp [pm_cb])
                · exact absurd g3 (by simp [pm_cb])
                · exact absurd g3 (by simp [pm_cb])
                · exact absurd g3 (by simp [pm_cb])
              · rw [pm_el_out (t := 1) hcnd] at h
                exact (pm_no h).elim
            · exact (pm_no h).elim
      | _ => exact (pm_no h).elim
    | _ => cases u <;> exact (pm_no h).elim
theorem s_lald (cx : pm_Cx p l R s m args meth c D dA S b A j d y cc nL ret rk) (ih : pm_Ih p l e R s m args below meth c D dA S b A j d nL ad0 M0 o M' mc ms n) (dy : pm_Dy D dA b A ad0 M0 s nL L st M ad H locs ls) (hk : k + M'.2.1 = mc + M.2.1) (hks : ks + M'.2.2 = ms + M.2.2) (h : pm_ex (pm_run (pm_pl S) n) d (pm_oal S 2 j (pc + 1) L st M) = some (o, M')) (hdg : decode cc pc = .ok (.laload, 1)) : W p l e R s m args below meth c H locs k ks (pm_MQ below (pm_Qo D dA b A ad0 M0 o M' mc ms) args s) (F0 m pc ls (st.map (pm_ren ad))) := by
  obtain ⟨hx, hb, hml, hown, hgw, -, -, -, hK, -⟩ := cx
  rcases st with _ | ⟨v, _ | ⟨u, r⟩⟩
  · exact (pm_no h).elim
  · cases v <;> exact (pm_no h).elim
  · cases v with
    | int i =>
      cases u with
      | ref q =>
        by_cases hq1 : q = 1
        · subst hq1
          cases hg : pm_get M 1 with
          | none =>
            have h : pm_ex (pm_run (pm_pl S) n) d (match (pm_get M 1).bind (fun c => pm_el 2 c i) with | some v => pm_J j (pc + 1) L (v :: r) M | none => pm_X) = some (o, M') := by
              unfold pm_oal at h; dsimp only at h; rw [if_neg (by decide)] at h; exact h
            rw [hg] at h
            exact (pm_no h).elim
          | some c1 => exact absurd rfl (dy.1.2.2.1 1 _ hg).1
        · rw [x_oal _ _ _ _ _ _ _ _ _ _ hq1] at h
          cases hg : pm_get M q with
          | none => rw [hg] at h; exact (pm_no h).elim
          | some c1 =>
            obtain ⟨g1, g2, g3, g4, g5⟩ := dy.1.2.2.1 q _ hg
            rw [hg, Option.bind_some] at h
            rcases c1 with ⟨t1, n1, f1⟩ | c1
            · by_cases hcnd : t1 = 2 ∧ ¬ (i < 0 ∨ n1 ≤ i.toNatClampNeg)
              · rw [pm_el_in (t := 2) hcnd] at h
                obtain ⟨rfl, hin⟩ := hcnd
                rcases f1 with f1 | f1 | f1 | f1 | f1
                · exact absurd g3 (by simp [pm_cb])
                · exact va_lald (D := D) (cl := pm_cl) (tys := pm_tys dA) hx hb hK.1 (r_one g4) 0 2 rfl rfl hin hdg (ih _ _ _ _ _ _ _ _ _ _ h ⟨dy.1, dy.2.1, dy.2.2.1, pm_all_cons (fun q hq => nomatch hq) (pm_all_tl (pm_all_tl dy.2.2.2.1)), dy.2.2.2.2⟩ hk hks)
                · exact absurd g3 (by simp [pm_cb])
                · exact absurd g3 (by simp [pm_cb])
                · exact absurd g3 (by simp [pm_cb])
              · rw [pm_el_out (t := 2) hcnd] at h
                exact (pm_no h).elim
            · exact (pm_no h).elim
      | _ => exact (pm_no h).elim
    | _ => cases u <;> exact (pm_no h).elim
theorem s_aald (cx : pm_Cx p l R s m args meth c D dA S b A j d y cc nL ret rk) (ih : pm_Ih p l e R s m args below meth c D dA S b A j d nL ad0 M0 o M' mc ms n) (dy : pm_Dy D dA b A ad0 M0 s nL L st M ad H locs ls) (hk : k + M'.2.1 = mc + M.2.1) (hks : ks + M'.2.2 = ms + M.2.2) (h : pm_ex (pm_run (pm_pl S) n) d (pm_oal S 3 j (pc + 1) L st M) = some (o, M')) (hdg : decode cc pc = .ok (.aaload, 1)) : W p l e R s m args below meth c H locs k ks (pm_MQ below (pm_Qo D dA b A ad0 M0 o M' mc ms) args s) (F0 m pc ls (st.map (pm_ren ad))) := by
  obtain ⟨hx, hb, hml, hown, hgw, -, -, -, hK, -⟩ := cx
  rcases st with _ | ⟨v, _ | ⟨u, r⟩⟩
  · exact (pm_no h).elim
  · cases v <;> exact (pm_no h).elim
  · cases v with
    | int i =>
      cases u with
      | ref q =>
        by_cases hq1 : q = 1
        · subst hq1
          cases hg : pm_get M 1 with
          | none =>
            have h : pm_ex (pm_run (pm_pl S) n) d (match (pm_get M 1).bind (fun c => pm_el 3 c i) with | some v => pm_J j (pc + 1) L (v :: r) M | none => pm_X) = some (o, M') := by
              unfold pm_oal at h; dsimp only at h; rw [if_neg (by decide)] at h; exact h
            rw [hg] at h
            exact (pm_no h).elim
          | some c1 => exact absurd rfl (dy.1.2.2.1 1 _ hg).1
        · rw [x_oal _ _ _ _ _ _ _ _ _ _ hq1] at h
          cases hg : pm_get M q with
          | none => rw [hg] at h; exact (pm_no h).elim
          | some c1 =>
            obtain ⟨g1, g2, g3, g4, g5⟩ := dy.1.2.2.1 q _ hg
            rw [hg, Option.bind_some] at h
            rcases c1 with ⟨t1, n1, f1⟩ | c1
            · by_cases hcnd : t1 = 3 ∧ ¬ (i < 0 ∨ n1 ≤ i.toNatClampNeg)
              · rw [pm_el_in (t := 3) hcnd] at h
                obtain ⟨rfl, hin⟩ := hcnd
                rcases f1 with f1 | f1 | f1 | f1 | f1
                · exact absurd g3 (by simp [pm_cb])
                · exact absurd g3 (by simp [pm_cb])
                · exact absurd g3 (by simp [pm_cb])
                · exact absurd g3 (by simp [pm_cb])
                · have g := ih _ _ _ _ _ _ _ _ _ _ h ⟨dy.1, dy.2.1, dy.2.2.1, pm_all_cons (fun q hq => g3.2 _ q (by cases hz : f1 i.toNatClampNeg with | none => rw [hz] at hq; cases hq | some z => rw [hz] at hq; cases hq; rfl)) (pm_all_tl (pm_all_tl dy.2.2.2.1)), dy.2.2.2.2⟩ hk hks
                  have er : pm_ren ad (va_rf (f1 i.toNatClampNeg)) = va_rf ((f1 i.toNatClampNeg).map ad) := by cases f1 i.toNatClampNeg <;> rfl
                  rw [List.map_cons, er] at g
                  exact va_aldq (D := D) (cl := pm_cl) (tys := pm_tys dA) (C := "StowPlan$Box") (f := fun z => (f1 z).map ad) hx hb hK.1 (r_one g4) 0 3 rfl rfl hin hdg g
              · rw [pm_el_out (t := 3) hcnd] at h
                exact (pm_no h).elim
            · exact (pm_no h).elim
      | _ => exact (pm_no h).elim
    | _ => cases u <;> exact (pm_no h).elim
theorem s_oln (cx : pm_Cx p l R s m args meth c D dA S b A j d y cc nL ret rk) (ih : pm_Ih p l e R s m args below meth c D dA S b A j d nL ad0 M0 o M' mc ms n) (dy : pm_Dy D dA b A ad0 M0 s nL L st M ad H locs ls) (hk : k + M'.2.1 = mc + M.2.1) (hks : ks + M'.2.2 = ms + M.2.2) (h : pm_ex (pm_run (pm_pl S) n) d (pm_oln S j (pc + 1) L st M) = some (o, M')) (hdg : decode cc pc = .ok (.arraylength, 1)) : W p l e R s m args below meth c H locs k ks (pm_MQ below (pm_Qo D dA b A ad0 M0 o M' mc ms) args s) (F0 m pc ls (st.map (pm_ren ad))) := by
  obtain ⟨hx, hb, hml, hown, hgw, -, -, -, hK, -⟩ := cx
  rcases st with _ | ⟨v, r⟩
  · exact (pm_no h).elim
  · cases v with
    | ref q =>
      by_cases hq1 : q = 1
      · subst hq1
        rw [x_oln1] at h
        have hb1 : ad 1 = b := dy.1.2.1
        show W p l e R s m args below meth c H locs k ks (pm_MQ below (pm_Qo D dA b A ad0 M0 o M' mc ms) args s) (F0 m pc ls (.ref (ad 1) :: r.map (pm_ren ad)))
        rw [hb1]
        exact va_slen hx hb hK.2.2.2.2.2.2.1.2.2 hK.2.2.2.2.2.2.1.1 hK.2.2.2.2.2.2.1.2.1 dy.2.1 hdg (ih _ _ _ _ _ _ _ _ _ _ h ⟨dy.1, dy.2.1, dy.2.2.1, pm_all_cons (fun q hq => nomatch hq) (pm_all_tl dy.2.2.2.1), dy.2.2.2.2⟩ hk hks)
      · rw [x_oln _ _ _ _ _ _ _ _ hq1] at h
        cases hg : pm_get M q with
        | none => rw [hg] at h; exact (pm_no h).elim
        | some c1 =>
          obtain ⟨g1, g2, g3, g4, g5⟩ := dy.1.2.2.1 q _ hg
          rw [hg] at h
          rcases c1 with ⟨t1, n1, f1⟩ | c1
          · have ht4 : t1 < 4 := by
              rcases f1 with f1 | f1 | f1 | f1 | f1
              · rcases g3 with z | z <;> omega
              · have z : t1 = 2 := g3
                omega
              · exact absurd g3 (by simp [pm_cb])
              · exact absurd g3 (by simp [pm_cb])
              · have z : t1 = 3 := g3.1
                omega
            obtain ⟨ty, hty⟩ := pm_ty_at dA t1 ht4
            exact va_alen (D := D) (cl := pm_cl) (tys := pm_tys dA) hx hb hK.1 (r_one g4) 0 t1 rfl hty rfl hdg (ih _ _ _ _ _ _ _ _ _ _ h ⟨dy.1, dy.2.1, dy.2.2.1, pm_all_cons (fun q hq => nomatch hq) (pm_all_tl dy.2.2.2.1), dy.2.2.2.2⟩ hk hks)
          · exact (pm_no h).elim
    | _ => exact (pm_no h).elim
end PMSTEP3
