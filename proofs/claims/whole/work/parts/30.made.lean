/-! Array writes, what is made, and ends. -/
theorem pm_ev_in {w t' t n : Nat} {f : (Nat → Int32) ⊕ (Nat → Int64) ⊕ (Nat → UInt32) ⊕ (Nat → UInt64) ⊕ (Nat → Option Nat)} {i : Int32} {v : Value} {c' : pm_C} (h : pm_ev w t (.inl (t', (n, f))) i v = some c') : t' = t ∧ ¬ (i < 0 ∨ n ≤ i.toNatClampNeg) ∧ pm_fit w v = true ∧ ((∃ f0 x, f = .inl f0 ∧ v = .int x ∧ c' = .inl (t', (n, .inl (upd f0 i.toNatClampNeg x)))) ∨ (∃ f0 x, f = .inr (.inl f0) ∧ v = .long x ∧ c' = .inl (t', (n, .inr (.inl (vp_updL f0 i.toNatClampNeg x))))) ∨ (∃ f0, f = .inr (.inr (.inr (.inr f0))) ∧ v = .null ∧ c' = .inl (t', (n, .inr (.inr (.inr (.inr (va_up f0 i.toNatClampNeg none))))))) ∨ (∃ f0 q, f = .inr (.inr (.inr (.inr f0))) ∧ v = .ref q ∧ c' = .inl (t', (n, .inr (.inr (.inr (.inr (va_up f0 i.toNatClampNeg (some q))))))))) := by
  unfold pm_ev at h
  dsimp only at h
  split at h
  · rename_i hc
    refine ⟨hc.1, hc.2.1, hc.2.2, ?_⟩
    split at h
    · cases h; exact Or.inl ⟨_, _, rfl, rfl, rfl⟩
    · cases h; exact Or.inr (Or.inl ⟨_, _, rfl, rfl, rfl⟩)
    · cases h; exact Or.inr (Or.inr (Or.inl ⟨_, rfl, rfl, rfl⟩))
    · cases h; exact Or.inr (Or.inr (Or.inr ⟨_, _, rfl, rfl, rfl⟩))
    · cases h
  · cases h
section PMSTEP4
variable {p : Program} {l : Launch} {e : Env} {R : Room} {s : State} {m : MethodId} {args : Array Value} {below : List Frame} {meth : Method} {c : Code} {D : va_G} {dA : Nat → ClassId} {S : pm_S} {b : Nat} {A : Nat → Prop} {j d : Nat} {y : MethodName} {cc : ByteArray} {nL : Nat} {ret : Option FieldType} {rk : Nat} {ad0 : Nat → Nat} {M0 : pm_M} {o : pm_O} {M' : pm_M} {mc ms n pc nx tg : Nat} {L st : List Value} {M : pm_M} {ad : Nat → Nat} {H : Heap} {locs : List Loc} {ls : Array Slot} {k ks : Nat}
theorem s_oas {wf t c0 : Nat} (cx : pm_Cx p l R s m args meth c D dA S b A j d y cc nL ret rk) (ih : pm_Ih p l e R s m args below meth c D dA S b A j d nL ad0 M0 o M' mc ms n) (dy : pm_Dy D dA b A ad0 M0 s nL L st M ad H locs ls) (hk : k + M'.2.1 = mc + M.2.1) (hks : ks + M'.2.2 = ms + M.2.2) (h : pm_ex (pm_run (pm_pl S) n) d (pm_oas wf t c0 j (pc + 1) L st M) = some (o, M')) (row : ∀ (q n1 : Nat) (f1 : (Nat → Int32) ⊕ (Nat → Int64) ⊕ (Nat → UInt32) ⊕ (Nat → UInt64) ⊕ (Nat → Option Nat)) (i : Int32) (v : Value) (c' : pm_C) (r : List Value), va_at D pm_cl (ad q, pm_rc dA ad (.inl (t, (n1, f1)))) H → pm_sq M c0 v = true → pm_cb M (.inl (t, (n1, f1))) → pm_ev wf t (.inl (t, (n1, f1))) i v = some c' → (∀ H1 : Heap, H1.size = H.size → (∀ x : Nat, x ≠ ad q → H1[x]? = H[x]?) → va_at D pm_cl (ad q, pm_rc dA ad c') H1 → W p l e R s m args below meth c H1 (locs ++ [⟨ad q, i.toNatClampNeg⟩]) k ks (pm_MQ below (pm_Qo D dA b A ad0 M0 o M' mc ms) args s) (F0 m (pc + 1) ls (r))) → W p l e R s m args below meth c H locs k ks (pm_MQ below (pm_Qo D dA b A ad0 M0 o M' mc ms) args s) (F0 m pc ls (pm_ren ad v :: .int i :: .ref (ad q) :: r))) : W p l e R s m args below meth c H locs k ks (pm_MQ below (pm_Qo D dA b A ad0 M0 o M' mc ms) args s) (F0 m pc ls (st.map (pm_ren ad))) := by
  rcases st with _ | ⟨v, _ | ⟨u, _ | ⟨u2, r⟩⟩⟩
  · exact (pm_no h).elim
  · exact (pm_no h).elim
  · cases u <;> exact (pm_no h).elim
  · cases u with
    | int i =>
      cases u2 with
      | ref q =>
        rw [x_oas] at h
        split at h
        · rename_i hsq
          cases hg : pm_get M q with
          | none => rw [hg] at h; exact (pm_no h).elim
          | some c1 =>
            obtain ⟨g1, g2, g3, g4, g5⟩ := dy.1.2.2.1 q _ hg
            rw [hg, Option.bind_some] at h
            cases hev : pm_ev wf t c1 i v with
            | none => rw [hev] at h; exact (pm_no h).elim
            | some c' =>
              rw [hev] at h
              rcases c1 with ⟨t1, n1, f1⟩ | c1
              · obtain ⟨ht, hin, hfit, hcs⟩ := pm_ev_in hev
                subst ht
                have hcb : pm_cb M c' := by
                  rcases hcs with ⟨f0, x, rfl, rfl, rfl⟩ | ⟨f0, x, rfl, rfl, rfl⟩ | ⟨f0, rfl, rfl, rfl⟩ | ⟨f0, q', rfl, rfl, rfl⟩
                  · exact g3
                  · exact g3
                  · refine ⟨g3.1, fun z q9 hz => ?_⟩
                    unfold va_up at hz
                    split at hz
                    · cases hz
                    · exact g3.2 z q9 hz
                  · refine ⟨g3.1, fun z q9 hz => ?_⟩
                    unfold va_up at hz
                    split at hz
                    · cases hz
                      exact dy.2.2.2.1 (.ref q') List.mem_cons_self q' rfl
                    · exact g3.2 z q9 hz
                refine row q n1 f1 i v c' _ g4 hsq g3 hev (fun H1 z1 z2 z3 => ?_)
                have hWn := dy.1.put (H1 := H1) hg hcb z3 z2
                have e0 := (pm_set_b M q c').2.2
                exact ih _ _ _ _ _ _ _ _ _ _ h ⟨hWn, dy.2.1.put z1 z2 g5, dy.2.2.1.to (fun z hz => by rw [pm_b_set]; exact hz) (fun _ _ => rfl), fun w0 hw0 => by rw [pm_vb_set]; exact pm_all_tl (pm_all_tl (pm_all_tl dy.2.2.2.1)) w0 hw0, fun z hz => by rw [pm_b_set]; exact dy.2.2.2.2 z hz⟩ (by rw [e0]; exact hk) (by rw [e0]; exact hks)
              · cases hev
        · cases h
      | _ => exact (pm_no h).elim
    | _ => cases u2 <;> exact (pm_no h).elim
theorem s_iast (cx : pm_Cx p l R s m args meth c D dA S b A j d y cc nL ret rk) (ih : pm_Ih p l e R s m args below meth c D dA S b A j d nL ad0 M0 o M' mc ms n) (dy : pm_Dy D dA b A ad0 M0 s nL L st M ad H locs ls) (hk : k + M'.2.1 = mc + M.2.1) (hks : ks + M'.2.2 = ms + M.2.2) (h : pm_ex (pm_run (pm_pl S) n) d (pm_oas 0 0 9 j (pc + 1) L st M) = some (o, M')) (hdg : decode cc pc = .ok (.iastore, 1)) : W p l e R s m args below meth c H locs k ks (pm_MQ below (pm_Qo D dA b A ad0 M0 o M' mc ms) args s) (F0 m pc ls (st.map (pm_ren ad))) := by
  refine s_oas cx ih dy hk hks h (fun q n1 f1 i v c' r g4 hsq g3 hev kk => ?_)
  obtain ⟨-, hin, hfit, hcs⟩ := pm_ev_in hev
  rcases hcs with ⟨f0, x, rfl, rfl, rfl⟩ | ⟨f0, x, rfl, rfl, rfl⟩ | ⟨f0, rfl, rfl, rfl⟩ | ⟨f0, q', rfl, rfl, rfl⟩
  · exact r_iast cx.1 cx.2.1 cx.2.2.2.2.2.2.2.2.1.1 g4 hin hdg kk
  · cases hfit
  · cases hfit
  · cases hfit
theorem s_zast (cx : pm_Cx p l R s m args meth c D dA S b A j d y cc nL ret rk) (ih : pm_Ih p l e R s m args below meth c D dA S b A j d nL ad0 M0 o M' mc ms n) (dy : pm_Dy D dA b A ad0 M0 s nL L st M ad H locs ls) (hk : k + M'.2.1 = mc + M.2.1) (hks : ks + M'.2.2 = ms + M.2.2) (h : pm_ex (pm_run (pm_pl S) n) d (pm_oas 3 1 9 j (pc + 1) L st M) = some (o, M')) (hdg : decode cc pc = .ok (.bastore, 1)) : W p l e R s m args below meth c H locs k ks (pm_MQ below (pm_Qo D dA b A ad0 M0 o M' mc ms) args s) (F0 m pc ls (st.map (pm_ren ad))) := by
  refine s_oas cx ih dy hk hks h (fun q n1 f1 i v c' r g4 hsq g3 hev kk => ?_)
  obtain ⟨-, hin, hfit, hcs⟩ := pm_ev_in hev
  rcases hcs with ⟨f0, x, rfl, rfl, rfl⟩ | ⟨f0, x, rfl, rfl, rfl⟩ | ⟨f0, rfl, rfl, rfl⟩ | ⟨f0, q', rfl, rfl, rfl⟩
  · have hx01 : x = 0 ∨ x = 1 := by simpa [pm_fit] using hfit
    exact r_zast cx.1 cx.2.1 cx.2.2.2.2.2.2.2.2.1.1 g4 hx01 hin hdg kk
  · exact absurd hfit (by simp [pm_fit])
  · exact absurd hfit (by simp [pm_fit])
  · exact absurd hfit (by simp [pm_fit])
theorem s_last (cx : pm_Cx p l R s m args meth c D dA S b A j d y cc nL ret rk) (ih : pm_Ih p l e R s m args below meth c D dA S b A j d nL ad0 M0 o M' mc ms n) (dy : pm_Dy D dA b A ad0 M0 s nL L st M ad H locs ls) (hk : k + M'.2.1 = mc + M.2.1) (hks : ks + M'.2.2 = ms + M.2.2) (h : pm_ex (pm_run (pm_pl S) n) d (pm_oas 1 2 9 j (pc + 1) L st M) = some (o, M')) (hdg : decode cc pc = .ok (.lastore, 1)) : W p l e R s m args below meth c H locs k ks (pm_MQ below (pm_Qo D dA b A ad0 M0 o M' mc ms) args s) (F0 m pc ls (st.map (pm_ren ad))) := by
  refine s_oas cx ih dy hk hks h (fun q n1 f1 i v c' r g4 hsq g3 hev kk => ?_)
  obtain ⟨-, hin, hfit, hcs⟩ := pm_ev_in hev
  rcases hcs with ⟨f0, x, rfl, rfl, rfl⟩ | ⟨f0, x, rfl, rfl, rfl⟩ | ⟨f0, rfl, rfl, rfl⟩ | ⟨f0, q', rfl, rfl, rfl⟩
  · cases hfit
  · exact r_last cx.1 cx.2.1 cx.2.2.2.2.2.2.2.2.1.1 g4 hin hdg kk
  · cases hfit
  · cases hfit
theorem s_aast (cx : pm_Cx p l R s m args meth c D dA S b A j d y cc nL ret rk) (ih : pm_Ih p l e R s m args below meth c D dA S b A j d nL ad0 M0 o M' mc ms n) (dy : pm_Dy D dA b A ad0 M0 s nL L st M ad H locs ls) (hk : k + M'.2.1 = mc + M.2.1) (hks : ks + M'.2.2 = ms + M.2.2) (h : pm_ex (pm_run (pm_pl S) n) d (pm_oas 2 3 1 j (pc + 1) L st M) = some (o, M')) (hdg : decode cc pc = .ok (.aastore, 1)) : W p l e R s m args below meth c H locs k ks (pm_MQ below (pm_Qo D dA b A ad0 M0 o M' mc ms) args s) (F0 m pc ls (st.map (pm_ren ad))) := by
  refine s_oas cx ih dy hk hks h (fun q n1 f1 i v c' r g4 hsq g3 hev kk => ?_)
  obtain ⟨-, hin, hfit, hcs⟩ := pm_ev_in hev
  rcases hcs with ⟨f0, x, rfl, rfl, rfl⟩ | ⟨f0, x, rfl, rfl, rfl⟩ | ⟨f0, rfl, rfl, rfl⟩ | ⟨f0, q', rfl, rfl, rfl⟩
  · cases hfit
  · cases hfit
  · refine r_aastN (f := fun z => (f0 z).map ad) cx.1 cx.2.1 cx.2.2.2.2.2.2.2.2.1.1 g4 hin hdg (fun H1 z1 z2 z3 => kk H1 z1 z2 ?_)
    have e9 : (fun z => ((va_up f0 i.toNatClampNeg none) z).map ad) = va_up (fun z => (f0 z).map ad) i.toNatClampNeg none := by
      funext z; unfold va_up; split <;> rfl
    show va_at D pm_cl (ad q, .inl (dA 3, (n1, .inr (.inr (.inr (.inr (fun z => ((va_up f0 i.toNatClampNeg none) z).map ad))))))) H1
    rw [e9]; exact z3
  · have hsq : pm_obj M 1 (.ref q') = true := hsq
    unfold pm_obj at hsq
    dsimp only at hsq
    cases hg' : pm_get M q' with
    | none => rw [hg'] at hsq; cases hsq
    | some c2 =>
      rw [hg'] at hsq
      rcases c2 with c2 | ⟨c2, fs2⟩
      · cases hsq
      · have hc2 : c2 = 1 := by simpa using hsq
        subst hc2
        refine r_aast (f := fun z => (f0 z).map ad) cx.1 cx.2.1 cx.2.2.2.2.2.2.2.2.1.1 g4 (dy.1.2.2.1 q' _ hg').2.2.2.1 hin hdg (fun H1 z1 z2 z3 => kk H1 z1 z2 ?_)
        have e9 : (fun z => ((va_up f0 i.toNatClampNeg (some q')) z).map ad) = va_up (fun z => (f0 z).map ad) i.toNatClampNeg (some (ad q')) := by
          funext z; unfold va_up; split <;> rfl
        show va_at D pm_cl (ad q, .inl (dA 3, (n1, .inr (.inr (.inr (.inr (fun z => ((va_up f0 i.toNatClampNeg (some q')) z).map ad))))))) H1
        rw [e9]; exact z3
theorem pm_new_cnt {M : pm_M} {r : Bool} {c : pm_C} {n : Nat} : (pm_new M r c n).2.1 = M.2.1 + 1 ∧ (pm_new M r c n).2.2 = M.2.2 + n := by
  unfold pm_new
  cases r <;> exact ⟨rfl, rfl⟩
theorem s_new {c1 : pm_C} {n1 : Nat} {rg : Bool} {r : List Value} (cx : pm_Cx p l R s m args meth c D dA S b A j d y cc nL ret rk) (ih : pm_Ih p l e R s m args below meth c D dA S b A j d nL ad0 M0 o M' mc ms n) (dy : pm_Dy D dA b A ad0 M0 s nL L st M ad H locs ls) (hk : k + M'.2.1 = mc + M.2.1) (hks : ks + M'.2.2 = ms + M.2.2) (hR : mc ≤ R.cells ∧ ms ≤ R.slots) (hrun : pm_run (pm_pl S) n d (j, nx, L, .ref (pm_at M rg) :: r) (pm_new M rg c1 n1) = some (o, M')) (hcb : pm_cb M c1) (hr : ∀ v ∈ r, pm_vb M v) (row : k + 1 ≤ R.cells → ks + n1 ≤ R.slots → (∀ H1 : Heap, H1.size = H.size + 1 → (∀ x : Nat, x < H.size → H1[x]? = H[x]?) → (∀ ad' : Nat → Nat, (∀ q, pm_b M q → ad' q = ad q) → va_at D pm_cl (H.size, pm_rc dA ad' c1) H1) → W p l e R s m args below meth c H1 locs (k + 1) (ks + n1) (pm_MQ below (pm_Qo D dA b A ad0 M0 o M' mc ms) args s) (F0 m nx ls (.ref H.size :: r.map (pm_ren ad)))) → W p l e R s m args below meth c H locs k ks (pm_MQ below (pm_Qo D dA b A ad0 M0 o M' mc ms) args s) (F0 m pc ls (st.map (pm_ren ad)))) : W p l e R s m args below meth c H locs k ks (pm_MQ below (pm_Qo D dA b A ad0 M0 o M' mc ms) args s) (F0 m pc ls (st.map (pm_ren ad))) := by
  have hle := pm_run_le _ _ _ _ _ _ hrun
  obtain ⟨hc1, hc2⟩ := pm_new_cnt (M := M) (r := rg) (c := c1) (n := n1)
  have hle1 := hle.1
  have hle2 := hle.2
  rw [hc1] at hle1
  rw [hc2] at hle2
  refine row (by omega) (by omega) (fun H1 z1 z2 z3 => ?_)
  have hK := cx.2.2.2.2.2.2.2.2.1
  have hbH : b < H.size := Nat.lt_of_lt_of_le hK.2.2.2.2.2.2.1.1 dy.2.1.1
  obtain ⟨ad', h1, h2, h3⟩ := dy.1.new rg (n := n1) hcb hbH z3 z2 (hK.2.2.2.2.2.2.2 _ dy.2.1.1)
  have g := ih _ _ _ _ ad' H1 locs ls (k + 1) (ks + n1) hrun ⟨h3, ⟨Nat.le_trans dy.2.1.1 (by omega), fun q hq hA => (z2 q (Nat.lt_of_lt_of_le hq dy.2.1.1)).trans (dy.2.1.2.1 q hq hA), dy.2.1.2.2⟩, dy.2.2.1.to (fun z hz => pm_b_new hz) h1, pm_all_cons (fun q hq => by cases hq; exact pm_b_at dy.1.1) (fun v hv q hq => pm_b_new (hr v hv q hq)), fun q hq => ⟨pm_b_new (dy.2.2.2.2 q hq).1, (h1 q (dy.2.2.2.2 q hq).1).trans (dy.2.2.2.2 q hq).2⟩⟩ (by rw [hc1]; omega) (by rw [hc2]; omega)
  have e1 : (Value.ref (pm_at M rg) :: r).map (pm_ren ad') = .ref H.size :: r.map (pm_ren ad) := by
    rw [List.map_cons, pm_rens_eq h1 hr]
    show Value.ref (ad' (pm_at M rg)) :: _ = _
    rw [h2]
  rw [e1] at g
  exact g
theorem s_one {x ci : Nat} {fs : List Value} (cx : pm_Cx p l R s m args meth c D dA S b A j d y cc nL ret rk) (ih : pm_Ih p l e R s m args below meth c D dA S b A j d nL ad0 M0 o M' mc ms n) (dy : pm_Dy D dA b A ad0 M0 s nL L st M ad H locs ls) (hk : k + M'.2.1 = mc + M.2.1) (hks : ks + M'.2.2 = ms + M.2.2) (hR : mc ≤ R.cells ∧ ms ≤ R.slots) (hf : pm_lk pm_ntab (1000 * pm_own j + x) = some (ci, fs)) (hx9 : x < 1000) (h : pm_ex (pm_run (pm_pl S) n) d (pm_one ci fs (Nat.beq ci 3) j (pc + 3) L st M) = some (o, M')) (hdg : decode cc pc = .ok (.new x, 3)) : W p l e R s m args below meth c H locs k ks (pm_MQ below (pm_Qo D dA b A ad0 M0 o M' mc ms) args s) (F0 m pc ls (st.map (pm_ren ad))) := by
  have hchk := List.all_eq_true.mp pm_ntab_ok _ (pm_lk_mem _ _ _ hf)
  have e1 : (1000 * pm_own j + x) / 1000 = pm_own j := by omega
  have e2 : (1000 * pm_own j + x) % 1000 = x := by omega
  unfold pm_nchk at hchk
  dsimp only at hchk
  rw [e1, e2] at hchk
  cases hc : pm_cl[ci]? with
  | none => rw [hc] at hchk; cases hchk
  | some q0 =>
    obtain ⟨C, T, N⟩ := q0
    rw [hc] at hchk
    simp only [Bool.and_eq_true, decide_eq_true_eq] at hchk
    obtain ⟨⟨⟨⟨⟨k1, k2⟩, k3⟩, k4⟩, k5⟩, k6⟩ := hchk
    have hnr : ∀ v ∈ fs, ∀ q, v ≠ .ref q := fun v hv q hq => by
      have := List.all_eq_true.mp k6 v hv
      rw [hq] at this
      cases this
    obtain ⟨hx, hb, hml, hown, hgw, -, -, -, hK, -⟩ := id cx
    refine s_new (rg := Nat.beq ci 3) (c1 := .inr (ci, fs)) (n1 := fs.length) (nx := pc + 3) (r := st) cx ih dy hk hks hR h (fun v hv q hq => absurd hq (hnr v hv q)) dy.2.2.2.1 (fun hc1 hc2 kk => ?_)
    obtain ⟨hin, ⟨ty, hty, -⟩, -⟩ := pm_cl_in hc
    have hKn := hK.1.1 ci _ hc
    rw [k4] at hc2
    refine W.newcK (C := C) (own := pm_cn (pm_own j)) hx hb hown (hgw _ (pm_inT_mem k1)) (hgw _ (pm_inT_mem k2)) (hgw _ (pm_inT_mem k3)) rfl hdg hc1 hc2 hKn.2.1 rfl fun H1 kC hkC e1 z1 o1 => ?_
    have := kk H1 z1 o1 (fun ad' _ => by
      have er : fs.map (pm_ren ad') = fs := by
        rw [show fs = fs.map id from (List.map_id fs).symm, List.map_map]
        refine List.map_congr_left (fun v hv => ?_)
        cases v <;> first | rfl | exact absurd rfl (hnr _ hv _)
      show va_at D pm_cl (H.size, .inr (ci, fs.map (pm_ren ad'))) H1
      rw [er]
      refine ⟨_, hc, (u_born ty hgw hin hKn hkC e1 hty).to (fun i hi => ?_)⟩
      have h5 := List.all_eq_true.mp k5 i (List.mem_range.mpr hi)
      rw [hty i hi] at h5
      exact of_decide_eq_true h5)
    rw [k4] at this
    exact this
theorem pm_z_at {dA : Nat → ClassId} {ad : Nat → Nat} {t N wz : Nat} {ty : FieldType} {D : va_G} {H : Heap} {a : Nat} (hz : (wz = 0 ∧ defaultValue ty = .int 0) ∨ (wz = 1 ∧ defaultValue ty = .long 0) ∨ (wz = 2 ∧ defaultValue ty = .null)) (h : H[a]? = some (arrV (dA t) N (fun _ => defaultValue ty))) : va_at D pm_cl (a, pm_rc dA ad (.inl (t, (N, pm_z wz)))) H := by
  show H[a]? = some (vp_cell (dA t) (N, pm_ra ad (pm_z wz)))
  rw [h]
  rcases hz with ⟨rfl, e⟩ | ⟨rfl, e⟩ | ⟨rfl, e⟩ <;> rw [e] <;> rfl
theorem s_newI {rg : Bool} (cx : pm_Cx p l R s m args meth c D dA S b A j d y cc nL ret rk) (ih : pm_Ih p l e R s m args below meth c D dA S b A j d nL ad0 M0 o M' mc ms n) (dy : pm_Dy D dA b A ad0 M0 s nL L st M ad H locs ls) (hk : k + M'.2.1 = mc + M.2.1) (hks : ks + M'.2.2 = ms + M.2.2) (hR : mc ≤ R.cells ∧ ms ≤ R.slots) (h : pm_ex (pm_run (pm_pl S) n) d (pm_ona 0 0 rg j (pc + 2) L st M) = some (o, M')) (hdg : decode cc pc = .ok (.newarray .int, 2)) : W p l e R s m args below meth c H locs k ks (pm_MQ below (pm_Qo D dA b A ad0 M0 o M' mc ms) args s) (F0 m pc ls (st.map (pm_ren ad))) := by
  obtain ⟨hx, hb, hml, hown, hgw, -, -, -, hK, -⟩ := id cx
  rcases st with _ | ⟨v, r⟩
  · exact (pm_no h).elim
  · cases v with
    | int n1 =>
      rw [x_ona] at h
      split at h
      · rename_i hcnd
        refine s_new (rg := rg) (c1 := .inl (0, (n1.toNatClampNeg, pm_z 0))) (n1 := n1.toNatClampNeg) (nx := pc + 2) (r := r) cx ih dy hk hks hR h (Or.inl rfl) (pm_all_tl dy.2.2.2.1) (fun hc1 hc2 kk => ?_)
        have hlib := pm_lib_ok
        simp only [Bool.and_eq_true] at hlib
        refine va_newaK (atype := .int) hx hb (hgw _ (pm_inT_mem hlib.1.1.2)) rfl hdg rfl hcnd.1 rfl (by
          have : componentBytes (newarray.typeOf .int) ≤ 8 := by decide
          calc n1.toNatClampNeg * componentBytes (newarray.typeOf .int) ≤ 60000 * 8 := Nat.mul_le_mul hcnd.2 this
            _ ≤ 536870912 := by decide) hc1 hc2 rfl (fun H1 cA e1 z1 o1 hAr hNm => ?_)
        have hcA : cA = dA 0 := by
          have h9 := (hK.1.2 0 _ rfl).2
          exact Option.some.inj (hNm.symm.trans h9)
        subst hcA
        exact kk H1 z1 o1 (fun ad' _ => pm_z_at (ty := .int) (Or.inl ⟨rfl, rfl⟩) e1)
      · cases h
    | _ => exact (pm_no h).elim
theorem s_newZ {rg : Bool} (cx : pm_Cx p l R s m args meth c D dA S b A j d y cc nL ret rk) (ih : pm_Ih p l e R s m args below meth c D dA S b A j d nL ad0 M0 o M' mc ms n) (dy : pm_Dy D dA b A ad0 M0 s nL L st M ad H locs ls) (hk : k + M'.2.1 = mc + M.2.1) (hks : ks + M'.2.2 = ms + M.2.2) (hR : mc ≤ R.cells ∧ ms ≤ R.slots) (h : pm_ex (pm_run (pm_pl S) n) d (pm_ona 0 1 rg j (pc + 2) L st M) = some (o, M')) (hdg : decode cc pc = .ok (.newarray .boolean, 2)) : W p l e R s m args below meth c H locs k ks (pm_MQ below (pm_Qo D dA b A ad0 M0 o M' mc ms) args s) (F0 m pc ls (st.map (pm_ren ad))) := by
  obtain ⟨hx, hb, hml, hown, hgw, -, -, -, hK, -⟩ := id cx
  rcases st with _ | ⟨v, r⟩
  · exact (pm_no h).elim
  · cases v with
    | int n1 =>
      rw [x_ona] at h
      split at h
      · rename_i hcnd
        refine s_new (rg := rg) (c1 := .inl (1, (n1.toNatClampNeg, pm_z 0))) (n1 := n1.toNatClampNeg) (nx := pc + 2) (r := r) cx ih dy hk hks hR h (Or.inr rfl) (pm_all_tl dy.2.2.2.1) (fun hc1 hc2 kk => ?_)
        have hlib := pm_lib_ok
        simp only [Bool.and_eq_true] at hlib
        refine va_newaK (atype := .boolean) hx hb (hgw _ (pm_inT_mem hlib.1.2)) rfl hdg rfl hcnd.1 rfl (by
          have : componentBytes (newarray.typeOf .boolean) ≤ 8 := by decide
          calc n1.toNatClampNeg * componentBytes (newarray.typeOf .boolean) ≤ 60000 * 8 := Nat.mul_le_mul hcnd.2 this
            _ ≤ 536870912 := by decide) hc1 hc2 rfl (fun H1 cA e1 z1 o1 hAr hNm => ?_)
        have hcA : cA = dA 1 := by
          have h9 := (hK.1.2 1 _ rfl).2
          exact Option.some.inj (hNm.symm.trans h9)
        subst hcA
        exact kk H1 z1 o1 (fun ad' _ => pm_z_at (ty := .boolean) (Or.inl ⟨rfl, rfl⟩) e1)
      · cases h
    | _ => exact (pm_no h).elim
theorem s_newJ {rg : Bool} (cx : pm_Cx p l R s m args meth c D dA S b A j d y cc nL ret rk) (ih : pm_Ih p l e R s m args below meth c D dA S b A j d nL ad0 M0 o M' mc ms n) (dy : pm_Dy D dA b A ad0 M0 s nL L st M ad H locs ls) (hk : k + M'.2.1 = mc + M.2.1) (hks : ks + M'.2.2 = ms + M.2.2) (hR : mc ≤ R.cells ∧ ms ≤ R.slots) (h : pm_ex (pm_run (pm_pl S) n) d (pm_ona 1 2 rg j (pc + 2) L st M) = some (o, M')) (hdg : decode cc pc = .ok (.newarray .long, 2)) : W p l e R s m args below meth c H locs k ks (pm_MQ below (pm_Qo D dA b A ad0 M0 o M' mc ms) args s) (F0 m pc ls (st.map (pm_ren ad))) := by
  obtain ⟨hx, hb, hml, hown, hgw, -, -, -, hK, -⟩ := id cx
  rcases st with _ | ⟨v, r⟩
  · exact (pm_no h).elim
  · cases v with
    | int n1 =>
      rw [x_ona] at h
      split at h
      · rename_i hcnd
        refine s_new (rg := rg) (c1 := .inl (2, (n1.toNatClampNeg, pm_z 1))) (n1 := n1.toNatClampNeg) (nx := pc + 2) (r := r) cx ih dy hk hks hR h (rfl) (pm_all_tl dy.2.2.2.1) (fun hc1 hc2 kk => ?_)
        have hlib := pm_lib_ok
        simp only [Bool.and_eq_true] at hlib
        refine va_newaK (atype := .long) hx hb (hgw _ (pm_inT_mem hlib.2)) rfl hdg rfl hcnd.1 rfl (by
          have : componentBytes (newarray.typeOf .long) ≤ 8 := by decide
          calc n1.toNatClampNeg * componentBytes (newarray.typeOf .long) ≤ 60000 * 8 := Nat.mul_le_mul hcnd.2 this
            _ ≤ 536870912 := by decide) hc1 hc2 rfl (fun H1 cA e1 z1 o1 hAr hNm => ?_)
        have hcA : cA = dA 2 := by
          have h9 := (hK.1.2 2 _ rfl).2
          exact Option.some.inj (hNm.symm.trans h9)
        subst hcA
        exact kk H1 z1 o1 (fun ad' _ => pm_z_at (ty := .long) (Or.inr (Or.inl ⟨rfl, rfl⟩)) e1)
      · cases h
    | _ => exact (pm_no h).elim
theorem s_newA {x : Nat} {rg : Bool} (cx : pm_Cx p l R s m args meth c D dA S b A j d y cc nL ret rk) (ih : pm_Ih p l e R s m args below meth c D dA S b A j d nL ad0 M0 o M' mc ms n) (dy : pm_Dy D dA b A ad0 M0 s nL L st M ad H locs ls) (hk : k + M'.2.1 = mc + M.2.1) (hks : ks + M'.2.2 = ms + M.2.2) (hR : mc ≤ R.cells ∧ ms ≤ R.slots) (hak : pm_ak j (.anewarray x) = true) (h : pm_ex (pm_run (pm_pl S) n) d (pm_ona 2 3 rg j (pc + 3) L st M) = some (o, M')) (hdg : decode cc pc = .ok (.anewarray x, 3)) : W p l e R s m args below meth c H locs k ks (pm_MQ below (pm_Qo D dA b A ad0 M0 o M' mc ms) args s) (F0 m pc ls (st.map (pm_ren ad))) := by
  obtain ⟨hx, hb, hml, hown, hgw, -, -, -, hK, -⟩ := id cx
  rcases st with _ | ⟨v, r⟩
  · exact (pm_no h).elim
  · cases v with
    | int n1 =>
      rw [x_ona] at h
      split at h
      · rename_i hcnd
        refine s_new (rg := rg) (c1 := .inl (3, (n1.toNatClampNeg, pm_z 2))) (n1 := n1.toNatClampNeg) (nx := pc + 3) (r := r) cx ih dy hk hks hR h ⟨rfl, fun i q hq => by cases hq⟩ (pm_all_tl dy.2.2.2.1) (fun hc1 hc2 kk => ?_)
        refine W.anew (C := "StowPlan$Box") (own := pm_cn (pm_own j)) hx hb hown (hgw _ (pm_inT_mem hak)) (va_AO.use hK.2.2.1) rfl hdg rfl hcnd.1 (by have := hcnd.2; omega) hc1 hc2 fun cA kA comp f1 f2 f3 f4 => ?_
        have hcA : cA = dA 3 := by
          obtain ⟨kA', comp', g1, g2, g3, g4⟩ := (hK.1.2 3 _ rfl).2
          exact Option.some.inj (f1.symm.trans g4)
        subst hcA
        generalize hH1 : H.push ({ cls := dA 3, slots := Array.replicate n1.toNatClampNeg .null, vm := .none } : Cell) = H1
        refine kk H1 (by rw [← hH1, Array.size_push]) (fun q hq => by rw [← hH1, Array.getElem?_push, if_neg (Nat.ne_of_lt hq)]) (fun ad' _ => pm_z_at (ty := .object "StowPlan$Box") (Or.inr (Or.inr ⟨rfl, rfl⟩)) ?_)
        rw [← hH1, Array.getElem?_push_size, ← arrV_new]
        rfl
      · cases h
    | _ => exact (pm_no h).elim
end PMSTEP4
