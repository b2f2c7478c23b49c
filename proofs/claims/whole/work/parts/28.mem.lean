/-! Steps that read and write the memory. -/
def pm_tk : FieldType → Nat
  | .int => 0
  | .long => 1
  | .boolean => 3
  | .object _ => 2
  | .array _ => 2
  | _ => 8
theorem pm_tk_P : ∀ k, k < 12 → pm_tk (t_P k) = pm_fk (T_P k).2.2.1 := by decide +kernel
theorem pm_tk_B : ∀ k, k < 9 → pm_tk (t_B k) = pm_fk (T_B k).2.2.1 := by decide +kernel
theorem pm_tk_Y : ∀ k, k < 4 → pm_tk (t_Y k) = pm_fk (T_Y k).2.2.1 := by decide +kernel
theorem pm_tk_M : ∀ k, k < 17 → pm_tk (t_M k) = pm_fk (T_M k).2.2.1 := by decide +kernel
theorem pm_lay_good {C : String} {T : u_T} {N : Nat} : ∀ w ∈ u_ws C T N, goodWord w = true := by
  intro w hw
  obtain ⟨k, -, rfl⟩ := List.mem_map.mp hw
  unfold u_lay
  split <;> rfl
theorem pm_tbl_gw {w : Cond} (h : w ∈ tables_1) (hg : goodWord w = true) : w ∈ pm_gw := List.mem_filter.mpr ⟨List.mem_append_right _ h, hg⟩
theorem pm_cl_in {ci : Nat} {C : String} {T : u_T} {N : Nat} (h : pm_cl[ci]? = some (C, T, N)) : (∀ w ∈ u_ws C T N, w ∈ pm_gw) ∧ (∃ ty : Nat → FieldType, (∀ k, k < N → parseFieldDescriptor (T k).2.2.1 = some (ty k)) ∧ ∀ k, k < N → pm_tk (ty k) = pm_fk (T k).2.2.1) ∧ (∀ a, a < N → ∀ b, b < N → a ≠ b → (T a).2.1 ≠ (T b).2.1) := by
  match ci, h with
  | 0, h => cases h; exact ⟨fun w hw => pm_tbl_gw (i_P w hw) (pm_lay_good w hw), ⟨t_P, t_P_ok, pm_tk_P⟩, n_P⟩
  | 1, h => cases h; exact ⟨fun w hw => pm_tbl_gw (i_B w hw) (pm_lay_good w hw), ⟨t_B, t_B_ok, pm_tk_B⟩, n_B⟩
  | 2, h => cases h; exact ⟨fun w hw => pm_tbl_gw (i_Y w hw) (pm_lay_good w hw), ⟨t_Y, t_Y_ok, pm_tk_Y⟩, n_Y⟩
  | 3, h => cases h; exact ⟨fun w hw => pm_tbl_gw (i_M w hw) (pm_lay_good w hw), ⟨t_M, t_M_ok, pm_tk_M⟩, n_M⟩
  | k + 4, h => simp [pm_cl] at h
theorem pm_fits {ty : FieldType} {t : Nat} {v : Value} (h1 : pm_tk ty = t) (h2 : pm_fit t v = true) (h8 : t ≠ 8) : narrow ty v = v ∧ fits ty v = true := by
  subst h1
  cases ty <;> simp only [pm_tk, ne_eq, not_true_eq_false] at h8 <;> cases v <;> simp [pm_fit, pm_tk, pm_ty] at h2 <;> first | exact ⟨rfl, rfl⟩ | (rcases h2 with rfl | rfl <;> exact ⟨by decide +kernel, by decide +kernel⟩)
theorem pm_fit_ren {t : Nat} {ad : Nat → Nat} {v : Value} (h : pm_fit t v = true) : pm_fit t (pm_ren ad v) = true := by
  unfold pm_fit at *
  rw [pm_ty_ren]
  split at h
  · rename_i e
    rw [if_pos e]
    cases v <;> first | exact h | (simp at h)
  · rename_i e
    rw [if_neg e]
    exact h
section PMROW2
variable {p : Program} {l : Launch} {e : Env} {R : Room} {s : State} {m : MethodId} {args : Array Value} {below : List Frame} {meth : Method} {c : Code} {H : Heap} {locs : List Loc} {cells slots : Nat} {Q : State → Prop} {cc : ByteArray} {pc : Nat} {ls : Array Slot} {rest : List Value} {D : va_G} {tys : List (ClassId × FieldType)} {a : Nat}
theorem r_one {x : Nat × va_E} (h : va_at D pm_cl x H) : va_P D pm_cl [x] H := by
  intro k q hq
  match k, hq with
  | 0, hq => cases hq; exact h
  | k + 1, hq => simp at hq
theorem r_put (hexec : p.tables.exec = Jvm.exec) (hb : c.code = cc) {own C : String} {T : u_T} {N ci index : Nat} (hts : ∀ w ∈ pm_gw, w.before args s = true) (hown : s.vm.findClass own = some m.cls) (hK : va_K D pm_cl tys s) {fs : List Value} (hat : va_at D pm_cl (a, .inr (ci, fs)) H) (hc : pm_cl[ci]? = some (C, T, N)) {k : Nat} (hk : k < N) (hlink : (Cond.fieldLink own index (T k).1 (T k).2.1 (T k).2.2.1).before args s = true) (hfin : (T k).2.2.2 = false ∨ ((T k).2.2.2 = true ∧ meth.name = "<init>" ∧ (T k).1 = own)) {t : Nat} {v : Value} (ht : pm_fk (T k).2.2.1 = t) (hfit : pm_fit t v = true) (hl : k < fs.length)
    (hdg : decode cc pc = .ok (.putfield index, 3)) (kk : ∀ H1 : Heap, H1.size = H.size → (∀ q : Nat, q ≠ a → H1[q]? = H[q]?) → va_at D pm_cl (a, .inr (ci, fs.set k v)) H1 → W p l e R s m args below meth c H1 (locs ++ [⟨a, (D.2 ci) k⟩]) cells slots Q (F0 m (pc + 3) ls rest)) : W p l e R s m args below meth c H locs cells slots Q (F0 m pc ls (v :: .ref a :: rest)) := by
  obtain ⟨hin, ⟨ty, hty, htk⟩, hnm⟩ := pm_cl_in hc
  have hap := va_apart (own := own) hts hin ty hty hnm hK hc
  obtain ⟨r, h1, cell, q1, q2, q3, q4⟩ := hat
  have hr : r = (C, T, N) := Option.some.inj (h1.symm.trans hc)
  subst hr
  have q1 : H[a]? = some cell := q1
  obtain ⟨hS, hfc, kC, hkC, hkind⟩ := hK.1 ci _ hc
  obtain ⟨cf, kf, fi, f, hi, hsl⟩ := hS k hk
  have h8 : t ≠ 8 := by
    rw [← ht]; unfold pm_fk; repeat' split
    all_goals decide
  obtain ⟨hn, hf2⟩ := pm_fits ((htk k hk).trans ht) hfit h8
  have hst := (u_facts hfc hkC (u_lays hts hin hk) hi).1
  have hlay := hts _ (hin _ (u_in_lay hk))
  have hend : ∀ H' : Heap, H'[a]? = some (cell.setSlot f.slot v) → va_at D pm_cl (a, .inr (ci, fs.set k v)) H' := by
    intro H' e1
    rw [hsl] at e1
    exact ⟨_, hc, t_OB.to (V := updV (vp_V fs) k v) ⟨_, e1, q2, q3, t_set q4 hap hk v⟩ (fun j _ => vp_updV_set hl v j)⟩
  rcases hfin with hfin | ⟨hfin, hin2, hdecl⟩
  · unfold u_lay at hlay
    rw [if_neg (by rw [hfin]; decide)] at hlay
    have h6 := u_store hfc hkC hkind hlay hi (hty k hk) hn hf2
    refine W.putK hexec hb (f := f) ⟨hown, hlink, ⟨_, _, _, hi⟩, hst⟩ (by rw [q2]; exact h6) q1 q3 (by rw [hsl]; exact k2_hasslot (q4 k hk)) rfl rfl hdg fun H' e1 e2 e3 => ?_
    have := kk H' e2 e3 (hend H' e1)
    rw [← hsl] at this
    exact this
  · unfold u_lay at hlay
    rw [if_pos hfin] at hlay
    have hcf : m.cls = cf := by
      obtain ⟨_, _, c', _, _, _, -, -, hf', -, -, -, hown2, -⟩ := Cond.laysFinal_spec hlay
      have e1 : c' = cf := by have := hi.symm.trans hf'; simp at this; exact this.1.symm
      rw [hdecl] at hown2
      rw [← e1]; exact Option.some.inj (hown.symm.trans hown2)
    have h6 := u_fits hfc hkC hkind (Or.inr hlay) hi (hty k hk) hn hf2
    refine W.putFinK hexec hb hown hlink hi hst hcf hin2 (by rw [q2]; exact h6) q1 q3 (by rw [hsl]; exact k2_hasslot (q4 k hk)) rfl rfl hdg fun H' e1 e2 e3 => ?_
    have := kk H' e2 e3 (hend H' e1)
    rw [← hsl] at this
    exact this
end PMROW2
section PMSTEP2
variable {p : Program} {l : Launch} {e : Env} {R : Room} {s : State} {m : MethodId} {args : Array Value} {below : List Frame} {meth : Method} {c : Code} {D : va_G} {dA : Nat → ClassId} {S : pm_S} {b : Nat} {A : Nat → Prop} {j d : Nat} {y : MethodName} {cc : ByteArray} {nL : Nat} {ret : Option FieldType} {rk : Nat} {ad0 : Nat → Nat} {M0 : pm_M} {o : pm_O} {M' : pm_M} {mc ms n pc nx tg : Nat} {L st : List Value} {M : pm_M} {ad : Nat → Nat} {H : Heap} {locs : List Loc} {ls : Array Slot} {k ks : Nat}
theorem s_ogf {x ci i t : Nat} (cx : pm_Cx p l R s m args meth c D dA S b A j d y cc nL ret rk) (ih : pm_Ih p l e R s m args below meth c D dA S b A j d nL ad0 M0 o M' mc ms n) (dy : pm_Dy D dA b A ad0 M0 s nL L st M ad H locs ls) (hk : k + M'.2.1 = mc + M.2.1) (hks : ks + M'.2.2 = ms + M.2.2) (hf : pm_lk pm_ftab (1000 * pm_own j + x) = some (ci, i, t)) (hx9 : x < 1000) (h : pm_ex (pm_run (pm_pl S) n) d (pm_ogf ci i j (pc + 3) L st M) = some (o, M')) (hdg : decode cc pc = .ok (.getfield x, 3)) : W p l e R s m args below meth c H locs k ks (pm_MQ below (pm_Qo D dA b A ad0 M0 o M' mc ms) args s) (F0 m pc ls (st.map (pm_ren ad))) := by
  have hchk := List.all_eq_true.mp pm_ftab_ok _ (pm_lk_mem _ _ _ hf)
  have e1 : (1000 * pm_own j + x) / 1000 = pm_own j := by omega
  have e2 : (1000 * pm_own j + x) % 1000 = x := by omega
  unfold pm_fchk at hchk
  dsimp only at hchk
  rw [e1, e2] at hchk
  cases hc : pm_cl[ci]? with
  | none => rw [hc] at hchk; cases hchk
  | some q0 =>
    obtain ⟨C, T, N⟩ := q0
    rw [hc] at hchk
    simp only [Bool.and_eq_true, decide_eq_true_eq] at hchk
    obtain ⟨⟨hiN, hln⟩, -⟩ := hchk
    obtain ⟨hx, hb, hml, hown, hgw, -, -, -, hK, -⟩ := cx
    rcases st with _ | ⟨v, r⟩
    · exact (pm_no h).elim
    · cases v with
      | ref q =>
        rw [x_ogf] at h
        cases hg : pm_get M q with
        | none => rw [hg] at h; exact (pm_no h).elim
        | some c1 =>
          rw [hg] at h
          rcases c1 with c1 | ⟨c1, fs⟩
          · exact (pm_no h).elim
          · simp only at h
            split at h
            · rename_i hcnd
              obtain ⟨rfl, hil⟩ := hcnd
              obtain ⟨g1, g2, g3, g4, g5⟩ := dy.1.2.2.1 q _ hg
              have hv : (fs.map (pm_ren ad))[i]? = some (pm_ren ad (fs.getD i pm_U)) := by
                rw [List.getElem?_map, List.getD_eq_getElem?_getD, List.getElem?_eq_getElem hil]; rfl
              have hmem : fs.getD i pm_U ∈ fs := by
                rw [List.getD_eq_getElem?_getD, List.getElem?_eq_getElem hil]; exact List.getElem_mem hil
              exact va_get (D := D) (own := pm_cn (pm_own j)) (ref := (T i).1) (C := C) (T := T) (N := N) (Ts := pm_gw) hx hb hgw (pm_cl_in hc).1 hown hK.1 (r_one g4) 0 rfl hc i hiN (hgw _ (pm_inT_mem hln)) (fun _ z => z) hv hdg (ih _ _ _ _ _ _ _ _ _ _ h ⟨dy.1, dy.2.1, dy.2.2.1, pm_all_cons (g3 _ hmem) (pm_all_tl dy.2.2.2.1), dy.2.2.2.2⟩ hk hks)
            · cases h
      | _ => exact (pm_no h).elim
theorem s_opf {x ci i t : Nat} (cx : pm_Cx p l R s m args meth c D dA S b A j d y cc nL ret rk) (ih : pm_Ih p l e R s m args below meth c D dA S b A j d nL ad0 M0 o M' mc ms n) (dy : pm_Dy D dA b A ad0 M0 s nL L st M ad H locs ls) (hk : k + M'.2.1 = mc + M.2.1) (hks : ks + M'.2.2 = ms + M.2.2) (hf : pm_lk pm_ftab (1000 * pm_own j + x) = some (ci, i, t)) (hx9 : x < 1000) (hpf : pm_pfk j (.putfield x) = true) (h : pm_ex (pm_run (pm_pl S) n) d (pm_opf ci i t j (pc + 3) L st M) = some (o, M')) (hdg : decode cc pc = .ok (.putfield x, 3)) : W p l e R s m args below meth c H locs k ks (pm_MQ below (pm_Qo D dA b A ad0 M0 o M' mc ms) args s) (F0 m pc ls (st.map (pm_ren ad))) := by
  have hchk := List.all_eq_true.mp pm_ftab_ok _ (pm_lk_mem _ _ _ hf)
  have e1 : (1000 * pm_own j + x) / 1000 = pm_own j := by omega
  have e2 : (1000 * pm_own j + x) % 1000 = x := by omega
  unfold pm_fchk at hchk
  dsimp only at hchk
  rw [e1, e2] at hchk
  unfold pm_pfk at hpf
  dsimp only at hpf
  rw [hf] at hpf
  dsimp only at hpf
  cases hc : pm_cl[ci]? with
  | none => rw [hc] at hchk; cases hchk
  | some q0 =>
    obtain ⟨C, T, N⟩ := q0
    obtain ⟨hx, hb, hml, hown, hgw, -, -, hnm, hK, hms, -⟩ := cx
    rw [hc, hms] at hpf
    rw [hc] at hchk
    simp only [Bool.and_eq_true, Bool.or_eq_true, Bool.not_eq_true', decide_eq_true_eq] at hchk hpf
    obtain ⟨⟨hiN, hln⟩, htk⟩ := hchk
    have hfin : (T i).2.2.2 = false ∨ ((T i).2.2.2 = true ∧ meth.name = "<init>" ∧ (T i).1 = pm_cn (pm_own j)) := by
      rcases hpf with z | ⟨z1, z2⟩
      · exact Or.inl z
      · cases hz : (T i).2.2.2 with
        | false => exact Or.inl rfl
        | true => exact Or.inr ⟨rfl, hnm.trans z1, z2⟩
    rcases st with _ | ⟨v, _ | ⟨u, r⟩⟩
    · exact (pm_no h).elim
    · cases v <;> exact (pm_no h).elim
    · cases u with
      | ref q =>
        rw [x_opf] at h
        cases hg : pm_get M q with
        | none => rw [hg] at h; exact (pm_no h).elim
        | some c1 =>
          rw [hg] at h
          rcases c1 with c1 | ⟨c1, fs⟩
          · exact (pm_no h).elim
          · simp only at h
            split at h
            · rename_i hcnd
              obtain ⟨rfl, hil, hfit⟩ := hcnd
              obtain ⟨g1, g2, g3, g4, g5⟩ := dy.1.2.2.1 q _ hg
              refine r_put (D := D) (own := pm_cn (pm_own j)) (fs := fs.map (pm_ren ad)) hx hb hgw hown hK.1 g4 hc hiN (hgw _ (pm_inT_mem hln)) hfin htk (pm_fit_ren hfit) (by rw [List.length_map]; exact hil) hdg (fun H1 z1 z2 z3 => ?_)
              have hcb : pm_cb M (.inr (c1, fs.set i v)) := fun w0 hw0 => by
                rcases List.mem_or_eq_of_mem_set hw0 with z | z
                · exact g3 w0 z
                · rw [z]; exact dy.2.2.2.1 v List.mem_cons_self
              have hWn := dy.1.put (H1 := H1) hg hcb (by
                show va_at D pm_cl (ad q, .inr (c1, (fs.set i v).map (pm_ren ad))) H1
                rw [List.map_set]; exact z3) z2
              have e0 := (pm_set_b M q (.inr (c1, fs.set i v))).2.2
              refine ih _ _ _ _ _ _ _ _ _ _ h ⟨hWn, dy.2.1.put z1 z2 g5, dy.2.2.1.to (fun z hz => by rw [pm_b_set]; exact hz) (fun _ _ => rfl), fun w0 hw0 => by rw [pm_vb_set]; exact pm_all_tl (pm_all_tl dy.2.2.2.1) w0 hw0, fun z hz => by rw [pm_b_set]; exact dy.2.2.2.2 z hz⟩ (by rw [e0]; exact hk) (by rw [e0]; exact hks)
            · cases h
      | _ => cases v <;> exact (pm_no h).elim
end PMSTEP2
