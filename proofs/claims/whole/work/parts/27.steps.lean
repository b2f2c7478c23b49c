/-! One step of the pure machine, one of the JVM. -/
theorem pm_no {α : Type} {x : α} (h : (none : Option α) = some x) : False := by cases h
section PMSTEP
variable {p : Program} {l : Launch} {e : Env} {R : Room} {s : State} {m : MethodId} {args : Array Value} {below : List Frame} {meth : Method} {c : Code} {D : va_G} {dA : Nat → ClassId} {S : pm_S} {b : Nat} {A : Nat → Prop} {j d : Nat} {y : MethodName} {cc : ByteArray} {nL : Nat} {ret : Option FieldType} {rk : Nat} {ad0 : Nat → Nat} {M0 : pm_M} {o : pm_O} {M' : pm_M} {mc ms n pc nx tg : Nat} {L st : List Value} {M : pm_M} {ad : Nat → Nat} {H : Heap} {locs : List Loc} {ls : Array Slot} {k ks : Nat}
theorem s_old {t i : Nat} (cx : pm_Cx p l R s m args meth c D dA S b A j d y cc nL ret rk) (ih : pm_Ih p l e R s m args below meth c D dA S b A j d nL ad0 M0 o M' mc ms n) (dy : pm_Dy D dA b A ad0 M0 s nL L st M ad H locs ls) (hk : k + M'.2.1 = mc + M.2.1) (hks : ks + M'.2.2 = ms + M.2.2) (h : pm_ex (pm_run (pm_pl S) n) d (pm_old t i j nx L st M) = some (o, M')) (ht : t ≠ 9) (row : ∀ w, pm_ty w = t → ls[i]? = some (.val w) → W p l e R s m args below meth c H locs k ks (pm_MQ below (pm_Qo D dA b A ad0 M0 o M' mc ms) args s) (F0 m nx ls (w :: st.map (pm_ren ad))) → W p l e R s m args below meth c H locs k ks (pm_MQ below (pm_Qo D dA b A ad0 M0 o M' mc ms) args s) (F0 m pc ls (st.map (pm_ren ad)))) : W p l e R s m args below meth c H locs k ks (pm_MQ below (pm_Qo D dA b A ad0 M0 o M' mc ms) args s) (F0 m pc ls (st.map (pm_ren ad))) := by
  rw [x_old] at h
  split at h
  · rename_i hty
    obtain ⟨h1, h2⟩ := dy.2.2.1.getD (by rw [hty]; exact ht)
    exact row _ ((pm_ty_ren _ _).trans hty) h1 (ih _ _ _ _ _ _ _ _ _ _ h ⟨dy.1, dy.2.1, dy.2.2.1, pm_all_cons h2 dy.2.2.2.1, dy.2.2.2.2⟩ hk hks)
  · cases h
theorem s_ost {t i : Nat} (cx : pm_Cx p l R s m args meth c D dA S b A j d y cc nL ret rk) (ih : pm_Ih p l e R s m args below meth c D dA S b A j d nL ad0 M0 o M' mc ms n) (dy : pm_Dy D dA b A ad0 M0 s nL L st M ad H locs ls) (hk : k + M'.2.1 = mc + M.2.1) (hks : ks + M'.2.2 = ms + M.2.2) (h : pm_ex (pm_run (pm_pl S) n) d (pm_ost t i j nx L st M) = some (o, M')) (ht : t = 0 ∨ t = 2) (row : ∀ (w : Value) (ls' : Array Slot) (r : List Value), pm_ty w = t → storeLocals ls i w = some ls' → W p l e R s m args below meth c H locs k ks (pm_MQ below (pm_Qo D dA b A ad0 M0 o M' mc ms) args s) (F0 m nx ls' (r)) → W p l e R s m args below meth c H locs k ks (pm_MQ below (pm_Qo D dA b A ad0 M0 o M' mc ms) args s) (F0 m pc ls (w :: r))) : W p l e R s m args below meth c H locs k ks (pm_MQ below (pm_Qo D dA b A ad0 M0 o M' mc ms) args s) (F0 m pc ls (st.map (pm_ren ad))) := by
  rcases st with _ | ⟨v, r⟩
  · exact (pm_no h).elim
  · rw [x_ost] at h
    split at h
    · rename_i hc
      obtain ⟨h1, h2, h3⟩ := hc
      have hv := dy.2.2.2.1 v List.mem_cons_self
      obtain ⟨ls', e1, e2⟩ := dy.2.2.1.set1 (v := v) (w := pm_ren ad v) h2 h3 (by rw [pm_ren_cat]; exact pm_ty_cat (by omega) (by omega)) hv (fun _ => rfl)
      exact row _ _ _ ((pm_ty_ren _ _).trans h1) e1 (ih _ _ _ _ _ _ _ _ _ _ h ⟨dy.1, dy.2.1, e2, pm_all_tl dy.2.2.2.1, dy.2.2.2.2⟩ hk hks)
    · cases h
theorem s_osl {i : Nat} (cx : pm_Cx p l R s m args meth c D dA S b A j d y cc nL ret rk) (ih : pm_Ih p l e R s m args below meth c D dA S b A j d nL ad0 M0 o M' mc ms n) (dy : pm_Dy D dA b A ad0 M0 s nL L st M ad H locs ls) (hk : k + M'.2.1 = mc + M.2.1) (hks : ks + M'.2.2 = ms + M.2.2) (h : pm_ex (pm_run (pm_pl S) n) d (pm_osl i j nx L st M) = some (o, M')) (row : ∀ (x : Int64) (ls' : Array Slot) (r : List Value), storeLocals ls i (.long x) = some ls' → W p l e R s m args below meth c H locs k ks (pm_MQ below (pm_Qo D dA b A ad0 M0 o M' mc ms) args s) (F0 m nx ls' (r)) → W p l e R s m args below meth c H locs k ks (pm_MQ below (pm_Qo D dA b A ad0 M0 o M' mc ms) args s) (F0 m pc ls (.long x :: r))) : W p l e R s m args below meth c H locs k ks (pm_MQ below (pm_Qo D dA b A ad0 M0 o M' mc ms) args s) (F0 m pc ls (st.map (pm_ren ad))) := by
  rcases st with _ | ⟨v, r⟩
  · exact (pm_no h).elim
  · rw [x_osl] at h
    split at h
    · rename_i hc
      obtain ⟨h1, h2, h3⟩ := hc
      cases v with
      | long x =>
        obtain ⟨ls', e1, e2⟩ := dy.2.2.1.set2 (x0 := x) h2 h3
        exact row _ _ _ e1 (ih _ _ _ _ _ _ _ _ _ _ h ⟨dy.1, dy.2.1, e2, pm_all_tl dy.2.2.2.1, dy.2.2.2.2⟩ hk hks)
      | _ => cases h1
    · cases h
theorem s_ocs {v : Value} (cx : pm_Cx p l R s m args meth c D dA S b A j d y cc nL ret rk) (ih : pm_Ih p l e R s m args below meth c D dA S b A j d nL ad0 M0 o M' mc ms n) (dy : pm_Dy D dA b A ad0 M0 s nL L st M ad H locs ls) (hk : k + M'.2.1 = mc + M.2.1) (hks : ks + M'.2.2 = ms + M.2.2) (h : pm_ex (pm_run (pm_pl S) n) d (pm_ocs v j nx L st M) = some (o, M')) (hv : ∀ q, v ≠ .ref q) (row : W p l e R s m args below meth c H locs k ks (pm_MQ below (pm_Qo D dA b A ad0 M0 o M' mc ms) args s) (F0 m nx ls (v :: st.map (pm_ren ad))) → W p l e R s m args below meth c H locs k ks (pm_MQ below (pm_Qo D dA b A ad0 M0 o M' mc ms) args s) (F0 m pc ls (st.map (pm_ren ad)))) : W p l e R s m args below meth c H locs k ks (pm_MQ below (pm_Qo D dA b A ad0 M0 o M' mc ms) args s) (F0 m pc ls (st.map (pm_ren ad))) := by
  rw [x_ocs] at h
  have g := ih _ _ _ _ _ _ _ _ _ _ h ⟨dy.1, dy.2.1, dy.2.2.1, pm_all_cons (fun q hq => absurd hq (hv q)) dy.2.2.2.1, dy.2.2.2.2⟩ hk hks
  have e1 : pm_ren ad v = v := by cases v <;> first | rfl | exact absurd rfl (hv _)
  rw [List.map_cons, e1] at g
  exact row g
theorem s_oii {f : Int32 → Int32 → Int32} (cx : pm_Cx p l R s m args meth c D dA S b A j d y cc nL ret rk) (ih : pm_Ih p l e R s m args below meth c D dA S b A j d nL ad0 M0 o M' mc ms n) (dy : pm_Dy D dA b A ad0 M0 s nL L st M ad H locs ls) (hk : k + M'.2.1 = mc + M.2.1) (hks : ks + M'.2.2 = ms + M.2.2) (h : pm_ex (pm_run (pm_pl S) n) d (pm_oii f j nx L st M) = some (o, M')) (row : ∀ (x y : Int32) (r : List Value), W p l e R s m args below meth c H locs k ks (pm_MQ below (pm_Qo D dA b A ad0 M0 o M' mc ms) args s) (F0 m nx ls (.int (f x y) :: r)) → W p l e R s m args below meth c H locs k ks (pm_MQ below (pm_Qo D dA b A ad0 M0 o M' mc ms) args s) (F0 m pc ls (.int y :: .int x :: r))) : W p l e R s m args below meth c H locs k ks (pm_MQ below (pm_Qo D dA b A ad0 M0 o M' mc ms) args s) (F0 m pc ls (st.map (pm_ren ad))) := by
  rcases st with _ | ⟨v, _ | ⟨u, r⟩⟩
  · exact (pm_no h).elim
  · cases v <;> exact (pm_no h).elim
  · cases v with
    | int y0 =>
      cases u with
      | int x0 => exact row x0 y0 _ (ih _ _ _ _ _ _ _ _ _ _ h ⟨dy.1, dy.2.1, dy.2.2.1, pm_all_cons (fun q hq => nomatch hq) (pm_all_tl (pm_all_tl dy.2.2.2.1)), dy.2.2.2.2⟩ hk hks)
      | _ => exact (pm_no h).elim
    | _ => exact (pm_no h).elim
theorem s_oir {q : Bool} (cx : pm_Cx p l R s m args meth c D dA S b A j d y cc nL ret rk) (ih : pm_Ih p l e R s m args below meth c D dA S b A j d nL ad0 M0 o M' mc ms n) (dy : pm_Dy D dA b A ad0 M0 s nL L st M ad H locs ls) (hk : k + M'.2.1 = mc + M.2.1) (hks : ks + M'.2.2 = ms + M.2.2) (h : pm_ex (pm_run (pm_pl S) n) d (pm_oir j nx L st M q) = some (o, M')) (row : ∀ (x y : Int32) (r : List Value), ¬ y = 0 → W p l e R s m args below meth c H locs k ks (pm_MQ below (pm_Qo D dA b A ad0 M0 o M' mc ms) args s) (F0 m nx ls (.int (if q = true then x / y else x - x / y * y) :: r)) → W p l e R s m args below meth c H locs k ks (pm_MQ below (pm_Qo D dA b A ad0 M0 o M' mc ms) args s) (F0 m pc ls (.int y :: .int x :: r))) : W p l e R s m args below meth c H locs k ks (pm_MQ below (pm_Qo D dA b A ad0 M0 o M' mc ms) args s) (F0 m pc ls (st.map (pm_ren ad))) := by
  rcases st with _ | ⟨v, _ | ⟨u, r⟩⟩
  · exact (pm_no h).elim
  · cases v <;> exact (pm_no h).elim
  · cases v with
    | int y0 =>
      cases u with
      | int x0 => 
        rw [x_oir] at h
        split at h
        · cases h
        · rename_i hne
          exact row x0 y0 _ hne (ih _ _ _ _ _ _ _ _ _ _ h ⟨dy.1, dy.2.1, dy.2.2.1, pm_all_cons (fun q hq => nomatch hq) (pm_all_tl (pm_all_tl dy.2.2.2.1)), dy.2.2.2.2⟩ hk hks)
      | _ => exact (pm_no h).elim
    | _ => exact (pm_no h).elim
theorem s_oll {f : Int64 → Int64 → Value} (cx : pm_Cx p l R s m args meth c D dA S b A j d y cc nL ret rk) (ih : pm_Ih p l e R s m args below meth c D dA S b A j d nL ad0 M0 o M' mc ms n) (dy : pm_Dy D dA b A ad0 M0 s nL L st M ad H locs ls) (hk : k + M'.2.1 = mc + M.2.1) (hks : ks + M'.2.2 = ms + M.2.2) (h : pm_ex (pm_run (pm_pl S) n) d (pm_oll f j nx L st M) = some (o, M')) (hf : ∀ x y q, f x y ≠ .ref q) (row : ∀ (x y : Int64) (r : List Value), W p l e R s m args below meth c H locs k ks (pm_MQ below (pm_Qo D dA b A ad0 M0 o M' mc ms) args s) (F0 m nx ls (f x y :: r)) → W p l e R s m args below meth c H locs k ks (pm_MQ below (pm_Qo D dA b A ad0 M0 o M' mc ms) args s) (F0 m pc ls (.long y :: .long x :: r))) : W p l e R s m args below meth c H locs k ks (pm_MQ below (pm_Qo D dA b A ad0 M0 o M' mc ms) args s) (F0 m pc ls (st.map (pm_ren ad))) := by
  rcases st with _ | ⟨v, _ | ⟨u, r⟩⟩
  · exact (pm_no h).elim
  · cases v <;> exact (pm_no h).elim
  · cases v with
    | long y0 =>
      cases u with
      | long x0 => 
        have g := ih _ _ _ _ _ _ _ _ _ _ h ⟨dy.1, dy.2.1, dy.2.2.1, pm_all_cons (fun q hq => absurd hq (hf _ _ q)) (pm_all_tl (pm_all_tl dy.2.2.2.1)), dy.2.2.2.2⟩ hk hks
        have e1 : pm_ren ad (f x0 y0) = f x0 y0 := by cases hfe : f x0 y0 <;> first | rfl | exact absurd hfe (hf _ _ _)
        rw [List.map_cons, e1] at g
        exact row x0 y0 _ g
      | _ => exact (pm_no h).elim
    | _ => exact (pm_no h).elim
theorem s_oli {f : Int64 → Int32 → Int64} (cx : pm_Cx p l R s m args meth c D dA S b A j d y cc nL ret rk) (ih : pm_Ih p l e R s m args below meth c D dA S b A j d nL ad0 M0 o M' mc ms n) (dy : pm_Dy D dA b A ad0 M0 s nL L st M ad H locs ls) (hk : k + M'.2.1 = mc + M.2.1) (hks : ks + M'.2.2 = ms + M.2.2) (h : pm_ex (pm_run (pm_pl S) n) d (pm_oli f j nx L st M) = some (o, M')) (row : ∀ (x : Int64) (y : Int32) (r : List Value), W p l e R s m args below meth c H locs k ks (pm_MQ below (pm_Qo D dA b A ad0 M0 o M' mc ms) args s) (F0 m nx ls (.long (f x y) :: r)) → W p l e R s m args below meth c H locs k ks (pm_MQ below (pm_Qo D dA b A ad0 M0 o M' mc ms) args s) (F0 m pc ls (.int y :: .long x :: r))) : W p l e R s m args below meth c H locs k ks (pm_MQ below (pm_Qo D dA b A ad0 M0 o M' mc ms) args s) (F0 m pc ls (st.map (pm_ren ad))) := by
  rcases st with _ | ⟨v, _ | ⟨u, r⟩⟩
  · exact (pm_no h).elim
  · cases v <;> exact (pm_no h).elim
  · cases v with
    | int y0 =>
      cases u with
      | long x0 => exact row x0 y0 _ (ih _ _ _ _ _ _ _ _ _ _ h ⟨dy.1, dy.2.1, dy.2.2.1, pm_all_cons (fun q hq => nomatch hq) (pm_all_tl (pm_all_tl dy.2.2.2.1)), dy.2.2.2.2⟩ hk hks)
      | _ => exact (pm_no h).elim
    | _ => exact (pm_no h).elim
theorem s_oi1 {f : Int32 → Value} (cx : pm_Cx p l R s m args meth c D dA S b A j d y cc nL ret rk) (ih : pm_Ih p l e R s m args below meth c D dA S b A j d nL ad0 M0 o M' mc ms n) (dy : pm_Dy D dA b A ad0 M0 s nL L st M ad H locs ls) (hk : k + M'.2.1 = mc + M.2.1) (hks : ks + M'.2.2 = ms + M.2.2) (h : pm_ex (pm_run (pm_pl S) n) d (pm_oi1 f j nx L st M) = some (o, M')) (hf : ∀ x q, f x ≠ .ref q) (row : ∀ (x : Int32) (r : List Value), W p l e R s m args below meth c H locs k ks (pm_MQ below (pm_Qo D dA b A ad0 M0 o M' mc ms) args s) (F0 m nx ls (f x :: r)) → W p l e R s m args below meth c H locs k ks (pm_MQ below (pm_Qo D dA b A ad0 M0 o M' mc ms) args s) (F0 m pc ls (.int x :: r))) : W p l e R s m args below meth c H locs k ks (pm_MQ below (pm_Qo D dA b A ad0 M0 o M' mc ms) args s) (F0 m pc ls (st.map (pm_ren ad))) := by
  rcases st with _ | ⟨v, r⟩
  · exact (pm_no h).elim
  · cases v with
    | int x0 =>
      have g := ih _ _ _ _ _ _ _ _ _ _ h ⟨dy.1, dy.2.1, dy.2.2.1, pm_all_cons (fun q hq => absurd hq (hf _ q)) (pm_all_tl dy.2.2.2.1), dy.2.2.2.2⟩ hk hks
      have e1 : pm_ren ad (f x0) = f x0 := by cases hfe : f x0 <;> first | rfl | exact absurd hfe (hf _ _)
      rw [List.map_cons, e1] at g
      exact row x0 _ g
    | _ => exact (pm_no h).elim
theorem s_oc2eq {off : Int} (cx : pm_Cx p l R s m args meth c D dA S b A j d y cc nL ret rk) (ih : pm_Ih p l e R s m args below meth c D dA S b A j d nL ad0 M0 o M' mc ms n) (dy : pm_Dy D dA b A ad0 M0 s nL L st M ad H locs ls) (hk : k + M'.2.1 = mc + M.2.1) (hks : ks + M'.2.2 = ms + M.2.2) (h : pm_ex (pm_run (pm_pl S) n) d (pm_oc2eq j (pc + 3) tg L st M) = some (o, M')) (hdg : decode cc pc = .ok (.if_icmp .eq off, 3)) (ht : (pc : Int) + off = (tg : Int)) : W p l e R s m args below meth c H locs k ks (pm_MQ below (pm_Qo D dA b A ad0 M0 o M' mc ms) args s) (F0 m pc ls (st.map (pm_ren ad))) := by
  rcases st with _ | ⟨v, _ | ⟨u, r⟩⟩
  · exact (pm_no h).elim
  · cases v <;> exact (pm_no h).elim
  · cases v with
    | int y0 =>
      cases u with
      | int x0 => 
        rw [x_oc2eq] at h
        refine lv_icmp_eq (tgt := tg) cx.1 cx.2.1 hdg ht (fun hc => ?_) (fun hc => ?_)
        · rw [if_pos hc] at h
          exact ih _ _ _ _ _ _ _ _ _ _ h ⟨dy.1, dy.2.1, dy.2.2.1, pm_all_tl (pm_all_tl dy.2.2.2.1), dy.2.2.2.2⟩ hk hks
        · rw [if_neg hc] at h
          exact ih _ _ _ _ _ _ _ _ _ _ h ⟨dy.1, dy.2.1, dy.2.2.1, pm_all_tl (pm_all_tl dy.2.2.2.1), dy.2.2.2.2⟩ hk hks
      | _ => exact (pm_no h).elim
    | _ => exact (pm_no h).elim
theorem s_oc2ne {off : Int} (cx : pm_Cx p l R s m args meth c D dA S b A j d y cc nL ret rk) (ih : pm_Ih p l e R s m args below meth c D dA S b A j d nL ad0 M0 o M' mc ms n) (dy : pm_Dy D dA b A ad0 M0 s nL L st M ad H locs ls) (hk : k + M'.2.1 = mc + M.2.1) (hks : ks + M'.2.2 = ms + M.2.2) (h : pm_ex (pm_run (pm_pl S) n) d (pm_oc2ne j (pc + 3) tg L st M) = some (o, M')) (hdg : decode cc pc = .ok (.if_icmp .ne off, 3)) (ht : (pc : Int) + off = (tg : Int)) : W p l e R s m args below meth c H locs k ks (pm_MQ below (pm_Qo D dA b A ad0 M0 o M' mc ms) args s) (F0 m pc ls (st.map (pm_ren ad))) := by
  rcases st with _ | ⟨v, _ | ⟨u, r⟩⟩
  · exact (pm_no h).elim
  · cases v <;> exact (pm_no h).elim
  · cases v with
    | int y0 =>
      cases u with
      | int x0 => 
        rw [x_oc2ne] at h
        refine lv_icmp_ne (tgt := tg) cx.1 cx.2.1 hdg ht (fun hc => ?_) (fun hc => ?_)
        · rw [if_pos hc] at h
          exact ih _ _ _ _ _ _ _ _ _ _ h ⟨dy.1, dy.2.1, dy.2.2.1, pm_all_tl (pm_all_tl dy.2.2.2.1), dy.2.2.2.2⟩ hk hks
        · rw [if_neg (not_not_intro hc)] at h
          exact ih _ _ _ _ _ _ _ _ _ _ h ⟨dy.1, dy.2.1, dy.2.2.1, pm_all_tl (pm_all_tl dy.2.2.2.1), dy.2.2.2.2⟩ hk hks
      | _ => exact (pm_no h).elim
    | _ => exact (pm_no h).elim
theorem s_oc2lt {off : Int} (cx : pm_Cx p l R s m args meth c D dA S b A j d y cc nL ret rk) (ih : pm_Ih p l e R s m args below meth c D dA S b A j d nL ad0 M0 o M' mc ms n) (dy : pm_Dy D dA b A ad0 M0 s nL L st M ad H locs ls) (hk : k + M'.2.1 = mc + M.2.1) (hks : ks + M'.2.2 = ms + M.2.2) (h : pm_ex (pm_run (pm_pl S) n) d (pm_oc2lt j (pc + 3) tg L st M) = some (o, M')) (hdg : decode cc pc = .ok (.if_icmp .lt off, 3)) (ht : (pc : Int) + off = (tg : Int)) : W p l e R s m args below meth c H locs k ks (pm_MQ below (pm_Qo D dA b A ad0 M0 o M' mc ms) args s) (F0 m pc ls (st.map (pm_ren ad))) := by
  rcases st with _ | ⟨v, _ | ⟨u, r⟩⟩
  · exact (pm_no h).elim
  · cases v <;> exact (pm_no h).elim
  · cases v with
    | int y0 =>
      cases u with
      | int x0 => 
        rw [x_oc2lt] at h
        refine lv_icmp_lt (tgt := tg) cx.1 cx.2.1 hdg ht (fun hc => ?_) (fun hc => ?_)
        · rw [if_pos hc] at h
          exact ih _ _ _ _ _ _ _ _ _ _ h ⟨dy.1, dy.2.1, dy.2.2.1, pm_all_tl (pm_all_tl dy.2.2.2.1), dy.2.2.2.2⟩ hk hks
        · rw [if_neg hc] at h
          exact ih _ _ _ _ _ _ _ _ _ _ h ⟨dy.1, dy.2.1, dy.2.2.1, pm_all_tl (pm_all_tl dy.2.2.2.1), dy.2.2.2.2⟩ hk hks
      | _ => exact (pm_no h).elim
    | _ => exact (pm_no h).elim
theorem s_oc2ge {off : Int} (cx : pm_Cx p l R s m args meth c D dA S b A j d y cc nL ret rk) (ih : pm_Ih p l e R s m args below meth c D dA S b A j d nL ad0 M0 o M' mc ms n) (dy : pm_Dy D dA b A ad0 M0 s nL L st M ad H locs ls) (hk : k + M'.2.1 = mc + M.2.1) (hks : ks + M'.2.2 = ms + M.2.2) (h : pm_ex (pm_run (pm_pl S) n) d (pm_oc2ge j (pc + 3) tg L st M) = some (o, M')) (hdg : decode cc pc = .ok (.if_icmp .ge off, 3)) (ht : (pc : Int) + off = (tg : Int)) : W p l e R s m args below meth c H locs k ks (pm_MQ below (pm_Qo D dA b A ad0 M0 o M' mc ms) args s) (F0 m pc ls (st.map (pm_ren ad))) := by
  rcases st with _ | ⟨v, _ | ⟨u, r⟩⟩
  · exact (pm_no h).elim
  · cases v <;> exact (pm_no h).elim
  · cases v with
    | int y0 =>
      cases u with
      | int x0 => 
        rw [x_oc2ge] at h
        refine lv_icmp_ge (tgt := tg) cx.1 cx.2.1 hdg ht (fun hc => ?_) (fun hc => ?_)
        · rw [if_pos hc] at h
          exact ih _ _ _ _ _ _ _ _ _ _ h ⟨dy.1, dy.2.1, dy.2.2.1, pm_all_tl (pm_all_tl dy.2.2.2.1), dy.2.2.2.2⟩ hk hks
        · rw [if_neg hc] at h
          exact ih _ _ _ _ _ _ _ _ _ _ h ⟨dy.1, dy.2.1, dy.2.2.1, pm_all_tl (pm_all_tl dy.2.2.2.1), dy.2.2.2.2⟩ hk hks
      | _ => exact (pm_no h).elim
    | _ => exact (pm_no h).elim
theorem s_oc2gt {off : Int} (cx : pm_Cx p l R s m args meth c D dA S b A j d y cc nL ret rk) (ih : pm_Ih p l e R s m args below meth c D dA S b A j d nL ad0 M0 o M' mc ms n) (dy : pm_Dy D dA b A ad0 M0 s nL L st M ad H locs ls) (hk : k + M'.2.1 = mc + M.2.1) (hks : ks + M'.2.2 = ms + M.2.2) (h : pm_ex (pm_run (pm_pl S) n) d (pm_oc2gt j (pc + 3) tg L st M) = some (o, M')) (hdg : decode cc pc = .ok (.if_icmp .gt off, 3)) (ht : (pc : Int) + off = (tg : Int)) : W p l e R s m args below meth c H locs k ks (pm_MQ below (pm_Qo D dA b A ad0 M0 o M' mc ms) args s) (F0 m pc ls (st.map (pm_ren ad))) := by
  rcases st with _ | ⟨v, _ | ⟨u, r⟩⟩
  · exact (pm_no h).elim
  · cases v <;> exact (pm_no h).elim
  · cases v with
    | int y0 =>
      cases u with
      | int x0 => 
        rw [x_oc2gt] at h
        refine lv_icmp_gt (tgt := tg) cx.1 cx.2.1 hdg ht (fun hc => ?_) (fun hc => ?_)
        · rw [if_pos hc] at h
          exact ih _ _ _ _ _ _ _ _ _ _ h ⟨dy.1, dy.2.1, dy.2.2.1, pm_all_tl (pm_all_tl dy.2.2.2.1), dy.2.2.2.2⟩ hk hks
        · rw [if_neg hc] at h
          exact ih _ _ _ _ _ _ _ _ _ _ h ⟨dy.1, dy.2.1, dy.2.2.1, pm_all_tl (pm_all_tl dy.2.2.2.1), dy.2.2.2.2⟩ hk hks
      | _ => exact (pm_no h).elim
    | _ => exact (pm_no h).elim
theorem s_oc2le {off : Int} (cx : pm_Cx p l R s m args meth c D dA S b A j d y cc nL ret rk) (ih : pm_Ih p l e R s m args below meth c D dA S b A j d nL ad0 M0 o M' mc ms n) (dy : pm_Dy D dA b A ad0 M0 s nL L st M ad H locs ls) (hk : k + M'.2.1 = mc + M.2.1) (hks : ks + M'.2.2 = ms + M.2.2) (h : pm_ex (pm_run (pm_pl S) n) d (pm_oc2le j (pc + 3) tg L st M) = some (o, M')) (hdg : decode cc pc = .ok (.if_icmp .le off, 3)) (ht : (pc : Int) + off = (tg : Int)) : W p l e R s m args below meth c H locs k ks (pm_MQ below (pm_Qo D dA b A ad0 M0 o M' mc ms) args s) (F0 m pc ls (st.map (pm_ren ad))) := by
  rcases st with _ | ⟨v, _ | ⟨u, r⟩⟩
  · exact (pm_no h).elim
  · cases v <;> exact (pm_no h).elim
  · cases v with
    | int y0 =>
      cases u with
      | int x0 => 
        rw [x_oc2le] at h
        refine lv_icmp_le (tgt := tg) cx.1 cx.2.1 hdg ht (fun hc => ?_) (fun hc => ?_)
        · rw [if_pos hc] at h
          exact ih _ _ _ _ _ _ _ _ _ _ h ⟨dy.1, dy.2.1, dy.2.2.1, pm_all_tl (pm_all_tl dy.2.2.2.1), dy.2.2.2.2⟩ hk hks
        · rw [if_neg hc] at h
          exact ih _ _ _ _ _ _ _ _ _ _ h ⟨dy.1, dy.2.1, dy.2.2.1, pm_all_tl (pm_all_tl dy.2.2.2.1), dy.2.2.2.2⟩ hk hks
      | _ => exact (pm_no h).elim
    | _ => exact (pm_no h).elim
theorem s_oc1eq {off : Int} (cx : pm_Cx p l R s m args meth c D dA S b A j d y cc nL ret rk) (ih : pm_Ih p l e R s m args below meth c D dA S b A j d nL ad0 M0 o M' mc ms n) (dy : pm_Dy D dA b A ad0 M0 s nL L st M ad H locs ls) (hk : k + M'.2.1 = mc + M.2.1) (hks : ks + M'.2.2 = ms + M.2.2) (h : pm_ex (pm_run (pm_pl S) n) d (pm_oc1eq j (pc + 3) tg L st M) = some (o, M')) (hdg : decode cc pc = .ok (.ifCond .eq off, 3)) (ht : (pc : Int) + off = (tg : Int)) : W p l e R s m args below meth c H locs k ks (pm_MQ below (pm_Qo D dA b A ad0 M0 o M' mc ms) args s) (F0 m pc ls (st.map (pm_ren ad))) := by
  rcases st with _ | ⟨v, r⟩
  · exact (pm_no h).elim
  · cases v with
    | int x0 =>
      rw [x_oc1eq] at h
      refine lv_if_eq (tgt := tg) cx.1 cx.2.1 hdg ht (fun hc => ?_) (fun hc => ?_)
      · rw [if_pos hc] at h
        exact ih _ _ _ _ _ _ _ _ _ _ h ⟨dy.1, dy.2.1, dy.2.2.1, pm_all_tl dy.2.2.2.1, dy.2.2.2.2⟩ hk hks
      · rw [if_neg hc] at h
        exact ih _ _ _ _ _ _ _ _ _ _ h ⟨dy.1, dy.2.1, dy.2.2.1, pm_all_tl dy.2.2.2.1, dy.2.2.2.2⟩ hk hks
    | _ => exact (pm_no h).elim
theorem s_oc1ne {off : Int} (cx : pm_Cx p l R s m args meth c D dA S b A j d y cc nL ret rk) (ih : pm_Ih p l e R s m args below meth c D dA S b A j d nL ad0 M0 o M' mc ms n) (dy : pm_Dy D dA b A ad0 M0 s nL L st M ad H locs ls) (hk : k + M'.2.1 = mc + M.2.1) (hks : ks + M'.2.2 = ms + M.2.2) (h : pm_ex (pm_run (pm_pl S) n) d (pm_oc1ne j (pc + 3) tg L st M) = some (o, M')) (hdg : decode cc pc = .ok (.ifCond .ne off, 3)) (ht : (pc : Int) + off = (tg : Int)) : W p l e R s m args below meth c H locs k ks (pm_MQ below (pm_Qo D dA b A ad0 M0 o M' mc ms) args s) (F0 m pc ls (st.map (pm_ren ad))) := by
  rcases st with _ | ⟨v, r⟩
  · exact (pm_no h).elim
  · cases v with
    | int x0 =>
      rw [x_oc1ne] at h
      refine lv_if_ne (tgt := tg) cx.1 cx.2.1 hdg ht (fun hc => ?_) (fun hc => ?_)
      · rw [if_pos hc] at h
        exact ih _ _ _ _ _ _ _ _ _ _ h ⟨dy.1, dy.2.1, dy.2.2.1, pm_all_tl dy.2.2.2.1, dy.2.2.2.2⟩ hk hks
      · rw [if_neg (not_not_intro hc)] at h
        exact ih _ _ _ _ _ _ _ _ _ _ h ⟨dy.1, dy.2.1, dy.2.2.1, pm_all_tl dy.2.2.2.1, dy.2.2.2.2⟩ hk hks
    | _ => exact (pm_no h).elim
theorem s_oc1lt {off : Int} (cx : pm_Cx p l R s m args meth c D dA S b A j d y cc nL ret rk) (ih : pm_Ih p l e R s m args below meth c D dA S b A j d nL ad0 M0 o M' mc ms n) (dy : pm_Dy D dA b A ad0 M0 s nL L st M ad H locs ls) (hk : k + M'.2.1 = mc + M.2.1) (hks : ks + M'.2.2 = ms + M.2.2) (h : pm_ex (pm_run (pm_pl S) n) d (pm_oc1lt j (pc + 3) tg L st M) = some (o, M')) (hdg : decode cc pc = .ok (.ifCond .lt off, 3)) (ht : (pc : Int) + off = (tg : Int)) : W p l e R s m args below meth c H locs k ks (pm_MQ below (pm_Qo D dA b A ad0 M0 o M' mc ms) args s) (F0 m pc ls (st.map (pm_ren ad))) := by
  rcases st with _ | ⟨v, r⟩
  · exact (pm_no h).elim
  · cases v with
    | int x0 =>
      rw [x_oc1lt] at h
      refine lv_if_lt (tgt := tg) cx.1 cx.2.1 hdg ht (fun hc => ?_) (fun hc => ?_)
      · rw [if_pos hc] at h
        exact ih _ _ _ _ _ _ _ _ _ _ h ⟨dy.1, dy.2.1, dy.2.2.1, pm_all_tl dy.2.2.2.1, dy.2.2.2.2⟩ hk hks
      · rw [if_neg hc] at h
        exact ih _ _ _ _ _ _ _ _ _ _ h ⟨dy.1, dy.2.1, dy.2.2.1, pm_all_tl dy.2.2.2.1, dy.2.2.2.2⟩ hk hks
    | _ => exact (pm_no h).elim
theorem s_oc1ge {off : Int} (cx : pm_Cx p l R s m args meth c D dA S b A j d y cc nL ret rk) (ih : pm_Ih p l e R s m args below meth c D dA S b A j d nL ad0 M0 o M' mc ms n) (dy : pm_Dy D dA b A ad0 M0 s nL L st M ad H locs ls) (hk : k + M'.2.1 = mc + M.2.1) (hks : ks + M'.2.2 = ms + M.2.2) (h : pm_ex (pm_run (pm_pl S) n) d (pm_oc1ge j (pc + 3) tg L st M) = some (o, M')) (hdg : decode cc pc = .ok (.ifCond .ge off, 3)) (ht : (pc : Int) + off = (tg : Int)) : W p l e R s m args below meth c H locs k ks (pm_MQ below (pm_Qo D dA b A ad0 M0 o M' mc ms) args s) (F0 m pc ls (st.map (pm_ren ad))) := by
  rcases st with _ | ⟨v, r⟩
  · exact (pm_no h).elim
  · cases v with
    | int x0 =>
      rw [x_oc1ge] at h
      refine lv_if_ge (tgt := tg) cx.1 cx.2.1 hdg ht (fun hc => ?_) (fun hc => ?_)
      · rw [if_pos hc] at h
        exact ih _ _ _ _ _ _ _ _ _ _ h ⟨dy.1, dy.2.1, dy.2.2.1, pm_all_tl dy.2.2.2.1, dy.2.2.2.2⟩ hk hks
      · rw [if_neg hc] at h
        exact ih _ _ _ _ _ _ _ _ _ _ h ⟨dy.1, dy.2.1, dy.2.2.1, pm_all_tl dy.2.2.2.1, dy.2.2.2.2⟩ hk hks
    | _ => exact (pm_no h).elim
theorem s_oc1gt {off : Int} (cx : pm_Cx p l R s m args meth c D dA S b A j d y cc nL ret rk) (ih : pm_Ih p l e R s m args below meth c D dA S b A j d nL ad0 M0 o M' mc ms n) (dy : pm_Dy D dA b A ad0 M0 s nL L st M ad H locs ls) (hk : k + M'.2.1 = mc + M.2.1) (hks : ks + M'.2.2 = ms + M.2.2) (h : pm_ex (pm_run (pm_pl S) n) d (pm_oc1gt j (pc + 3) tg L st M) = some (o, M')) (hdg : decode cc pc = .ok (.ifCond .gt off, 3)) (ht : (pc : Int) + off = (tg : Int)) : W p l e R s m args below meth c H locs k ks (pm_MQ below (pm_Qo D dA b A ad0 M0 o M' mc ms) args s) (F0 m pc ls (st.map (pm_ren ad))) := by
  rcases st with _ | ⟨v, r⟩
  · exact (pm_no h).elim
  · cases v with
    | int x0 =>
      rw [x_oc1gt] at h
      refine lv_if_gt (tgt := tg) cx.1 cx.2.1 hdg ht (fun hc => ?_) (fun hc => ?_)
      · rw [if_pos hc] at h
        exact ih _ _ _ _ _ _ _ _ _ _ h ⟨dy.1, dy.2.1, dy.2.2.1, pm_all_tl dy.2.2.2.1, dy.2.2.2.2⟩ hk hks
      · rw [if_neg hc] at h
        exact ih _ _ _ _ _ _ _ _ _ _ h ⟨dy.1, dy.2.1, dy.2.2.1, pm_all_tl dy.2.2.2.1, dy.2.2.2.2⟩ hk hks
    | _ => exact (pm_no h).elim
theorem s_oc1le {off : Int} (cx : pm_Cx p l R s m args meth c D dA S b A j d y cc nL ret rk) (ih : pm_Ih p l e R s m args below meth c D dA S b A j d nL ad0 M0 o M' mc ms n) (dy : pm_Dy D dA b A ad0 M0 s nL L st M ad H locs ls) (hk : k + M'.2.1 = mc + M.2.1) (hks : ks + M'.2.2 = ms + M.2.2) (h : pm_ex (pm_run (pm_pl S) n) d (pm_oc1le j (pc + 3) tg L st M) = some (o, M')) (hdg : decode cc pc = .ok (.ifCond .le off, 3)) (ht : (pc : Int) + off = (tg : Int)) : W p l e R s m args below meth c H locs k ks (pm_MQ below (pm_Qo D dA b A ad0 M0 o M' mc ms) args s) (F0 m pc ls (st.map (pm_ren ad))) := by
  rcases st with _ | ⟨v, r⟩
  · exact (pm_no h).elim
  · cases v with
    | int x0 =>
      rw [x_oc1le] at h
      refine lv_if_le (tgt := tg) cx.1 cx.2.1 hdg ht (fun hc => ?_) (fun hc => ?_)
      · rw [if_pos hc] at h
        exact ih _ _ _ _ _ _ _ _ _ _ h ⟨dy.1, dy.2.1, dy.2.2.1, pm_all_tl dy.2.2.2.1, dy.2.2.2.2⟩ hk hks
      · rw [if_neg hc] at h
        exact ih _ _ _ _ _ _ _ _ _ _ h ⟨dy.1, dy.2.1, dy.2.2.1, pm_all_tl dy.2.2.2.1, dy.2.2.2.2⟩ hk hks
    | _ => exact (pm_no h).elim
theorem s_onu {a1 a2 : Nat} (cx : pm_Cx p l R s m args meth c D dA S b A j d y cc nL ret rk) (ih : pm_Ih p l e R s m args below meth c D dA S b A j d nL ad0 M0 o M' mc ms n) (dy : pm_Dy D dA b A ad0 M0 s nL L st M ad H locs ls) (hk : k + M'.2.1 = mc + M.2.1) (hks : ks + M'.2.2 = ms + M.2.2) (h : pm_ex (pm_run (pm_pl S) n) d (pm_onu a1 a2 j L st M) = some (o, M')) (rn : ∀ r : List Value, W p l e R s m args below meth c H locs k ks (pm_MQ below (pm_Qo D dA b A ad0 M0 o M' mc ms) args s) (F0 m a1 ls (r)) → W p l e R s m args below meth c H locs k ks (pm_MQ below (pm_Qo D dA b A ad0 M0 o M' mc ms) args s) (F0 m pc ls (.null :: r))) (rr : ∀ (q : Nat) (r : List Value), W p l e R s m args below meth c H locs k ks (pm_MQ below (pm_Qo D dA b A ad0 M0 o M' mc ms) args s) (F0 m a2 ls (r)) → W p l e R s m args below meth c H locs k ks (pm_MQ below (pm_Qo D dA b A ad0 M0 o M' mc ms) args s) (F0 m pc ls (.ref q :: r))) : W p l e R s m args below meth c H locs k ks (pm_MQ below (pm_Qo D dA b A ad0 M0 o M' mc ms) args s) (F0 m pc ls (st.map (pm_ren ad))) := by
  rcases st with _ | ⟨v, r⟩
  · exact (pm_no h).elim
  · rw [x_onu] at h
    cases v with
    | null =>
      rw [if_pos pm_ty_n, if_pos rfl] at h
      exact rn _ (ih _ _ _ _ _ _ _ _ _ _ h ⟨dy.1, dy.2.1, dy.2.2.1, pm_all_tl dy.2.2.2.1, dy.2.2.2.2⟩ hk hks)
    | ref q =>
      rw [if_pos (pm_ty_r q), if_neg (by intro z; cases z)] at h
      exact rr _ _ (ih _ _ _ _ _ _ _ _ _ _ h ⟨dy.1, dy.2.1, dy.2.2.1, pm_all_tl dy.2.2.2.1, dy.2.2.2.2⟩ hk hks)
    | _ => exact (pm_no h).elim
theorem s_oac {a1 a2 : Nat} (cx : pm_Cx p l R s m args meth c D dA S b A j d y cc nL ret rk) (ih : pm_Ih p l e R s m args below meth c D dA S b A j d nL ad0 M0 o M' mc ms n) (dy : pm_Dy D dA b A ad0 M0 s nL L st M ad H locs ls) (hk : k + M'.2.1 = mc + M.2.1) (hks : ks + M'.2.2 = ms + M.2.2) (h : pm_ex (pm_run (pm_pl S) n) d (pm_oac a1 a2 j L st M) = some (o, M')) (row : ∀ (rx ry : Option Nat) (r : List Value), (rx = ry → W p l e R s m args below meth c H locs k ks (pm_MQ below (pm_Qo D dA b A ad0 M0 o M' mc ms) args s) (F0 m a1 ls (r))) → (¬ rx = ry → W p l e R s m args below meth c H locs k ks (pm_MQ below (pm_Qo D dA b A ad0 M0 o M' mc ms) args s) (F0 m a2 ls (r))) → W p l e R s m args below meth c H locs k ks (pm_MQ below (pm_Qo D dA b A ad0 M0 o M' mc ms) args s) (F0 m pc ls (va_rf ry :: va_rf rx :: r))) : W p l e R s m args below meth c H locs k ks (pm_MQ below (pm_Qo D dA b A ad0 M0 o M' mc ms) args s) (F0 m pc ls (st.map (pm_ren ad))) := by
  rcases st with _ | ⟨w, _ | ⟨v, r⟩⟩
  · exact (pm_no h).elim
  · exact (pm_no h).elim
  · rw [x_oac] at h
    split at h
    · rename_i hc
      obtain ⟨h1, h2⟩ := hc
      have hv : ∃ ov : Option Nat, v = va_rf ov ∧ ∀ q, ov = some q → (pm_get M q).isSome = true := by
        cases v with
        | null => exact ⟨none, rfl, fun q hq => by cases hq⟩
        | ref q => exact ⟨some q, rfl, fun q' hq => by cases hq; exact h1⟩
        | _ => cases h1
      have hw : ∃ ov : Option Nat, w = va_rf ov ∧ ∀ q, ov = some q → (pm_get M q).isSome = true := by
        cases w with
        | null => exact ⟨none, rfl, fun q hq => by cases hq⟩
        | ref q => exact ⟨some q, rfl, fun q' hq => by cases hq; exact h2⟩
        | _ => cases h2
      obtain ⟨ov, rfl, hv⟩ := hv
      obtain ⟨ow, rfl, hw⟩ := hw
      have er : ∀ z : Option Nat, pm_ren ad (va_rf z) = va_rf (z.map ad) := fun z => by cases z <;> rfl
      have hinj : ov.map ad = ow.map ad ↔ va_rf ov = va_rf ow := by
        cases ov with
        | none => cases ow with
          | none => simp
          | some q => simp [va_rf]
        | some q => cases ow with
          | none => simp [va_rf]
          | some q' =>
            constructor
            · intro z
              obtain ⟨c1, hc1⟩ := Option.isSome_iff_exists.mp (hv q rfl)
              obtain ⟨c2, hc2⟩ := Option.isSome_iff_exists.mp (hw q' rfl)
              have z : ad q = ad q' := Option.some.inj z
              rw [dy.1.2.2.2 q q' c1 c2 hc1 hc2 z]
            · intro z
              have z : q = q' := by simpa [va_rf] using z
              rw [z]
      show W p l e R s m args below meth c H locs k ks (pm_MQ below (pm_Qo D dA b A ad0 M0 o M' mc ms) args s) (F0 m pc ls (pm_ren ad (va_rf ow) :: pm_ren ad (va_rf ov) :: r.map (pm_ren ad)))
      rw [er, er]
      refine row (ov.map ad) (ow.map ad) _ (fun z => ?_) (fun z => ?_)
      · rw [if_pos (hinj.mp z)] at h
        exact ih _ _ _ _ _ _ _ _ _ _ h ⟨dy.1, dy.2.1, dy.2.2.1, pm_all_tl (pm_all_tl dy.2.2.2.1), dy.2.2.2.2⟩ hk hks
      · rw [if_neg (fun z2 => z (hinj.mpr z2))] at h
        exact ih _ _ _ _ _ _ _ _ _ _ h ⟨dy.1, dy.2.1, dy.2.2.1, pm_all_tl (pm_all_tl dy.2.2.2.1), dy.2.2.2.2⟩ hk hks
    · cases h
theorem s_ogo (cx : pm_Cx p l R s m args meth c D dA S b A j d y cc nL ret rk) (ih : pm_Ih p l e R s m args below meth c D dA S b A j d nL ad0 M0 o M' mc ms n) (dy : pm_Dy D dA b A ad0 M0 s nL L st M ad H locs ls) (hk : k + M'.2.1 = mc + M.2.1) (hks : ks + M'.2.2 = ms + M.2.2) (h : pm_ex (pm_run (pm_pl S) n) d (pm_ogo j tg L st M) = some (o, M')) (row : W p l e R s m args below meth c H locs k ks (pm_MQ below (pm_Qo D dA b A ad0 M0 o M' mc ms) args s) (F0 m tg ls (st.map (pm_ren ad))) → W p l e R s m args below meth c H locs k ks (pm_MQ below (pm_Qo D dA b A ad0 M0 o M' mc ms) args s) (F0 m pc ls (st.map (pm_ren ad)))) : W p l e R s m args below meth c H locs k ks (pm_MQ below (pm_Qo D dA b A ad0 M0 o M' mc ms) args s) (F0 m pc ls (st.map (pm_ren ad))) := row (ih _ _ _ _ _ _ _ _ _ _ h ⟨dy.1, dy.2.1, dy.2.2.1, dy.2.2.2.1, dy.2.2.2.2⟩ hk hks)
theorem s_oinc {i : Nat} {z : Int} (cx : pm_Cx p l R s m args meth c D dA S b A j d y cc nL ret rk) (ih : pm_Ih p l e R s m args below meth c D dA S b A j d nL ad0 M0 o M' mc ms n) (dy : pm_Dy D dA b A ad0 M0 s nL L st M ad H locs ls) (hk : k + M'.2.1 = mc + M.2.1) (hks : ks + M'.2.2 = ms + M.2.2) (h : pm_ex (pm_run (pm_pl S) n) d (pm_oinc i (Int32.ofInt z) j (pc + 3) L st M) = some (o, M')) (hdg : decode cc pc = .ok (.iinc i z, 3)) : W p l e R s m args below meth c H locs k ks (pm_MQ below (pm_Qo D dA b A ad0 M0 o M' mc ms) args s) (F0 m pc ls (st.map (pm_ren ad))) := by
  rw [x_oinc] at h
  cases hv : L.getD i pm_U with
  | int x =>
    rw [hv] at h
    simp only at h
    split at h
    · rename_i hc
      obtain ⟨h1, h2⟩ := dy.2.2.1.getD (i := i) (by rw [hv]; simp [pm_ty])
      rw [hv] at h1
      obtain ⟨ls', e1, e2⟩ := dy.2.2.1.set1 (v := .int (x + Int32.ofInt z)) (w := .int (x + Int32.ofInt z)) hc.1 hc.2 rfl (fun q hq => nomatch hq) (fun _ => rfl)
      exact r_iinc cx.1 cx.2.1 hdg h1 e1 (ih _ _ _ _ _ _ _ _ _ _ h ⟨dy.1, dy.2.1, e2, dy.2.2.2.1, dy.2.2.2.2⟩ hk hks)
    · cases h
  | _ => rw [hv] at h; exact (pm_no h).elim
theorem s_odup (cx : pm_Cx p l R s m args meth c D dA S b A j d y cc nL ret rk) (ih : pm_Ih p l e R s m args below meth c D dA S b A j d nL ad0 M0 o M' mc ms n) (dy : pm_Dy D dA b A ad0 M0 s nL L st M ad H locs ls) (hk : k + M'.2.1 = mc + M.2.1) (hks : ks + M'.2.2 = ms + M.2.2) (h : pm_ex (pm_run (pm_pl S) n) d (pm_odup j (pc + 1) L st M) = some (o, M')) (hdg : decode cc pc = .ok (.dup, 1)) : W p l e R s m args below meth c H locs k ks (pm_MQ below (pm_Qo D dA b A ad0 M0 o M' mc ms) args s) (F0 m pc ls (st.map (pm_ren ad))) := by
  rcases st with _ | ⟨v, r⟩
  · exact (pm_no h).elim
  · rw [x_odup] at h
    split at h
    · rename_i hc
      exact lv_dup cx.1 cx.2.1 hdg (by rw [pm_ren_cat]; exact pm_ty_cat hc.1 hc.2) (ih _ _ _ _ _ _ _ _ _ _ h ⟨dy.1, dy.2.1, dy.2.2.1, pm_all_cons (dy.2.2.2.1 v List.mem_cons_self) dy.2.2.2.1, dy.2.2.2.2⟩ hk hks)
    · cases h
theorem s_opop (cx : pm_Cx p l R s m args meth c D dA S b A j d y cc nL ret rk) (ih : pm_Ih p l e R s m args below meth c D dA S b A j d nL ad0 M0 o M' mc ms n) (dy : pm_Dy D dA b A ad0 M0 s nL L st M ad H locs ls) (hk : k + M'.2.1 = mc + M.2.1) (hks : ks + M'.2.2 = ms + M.2.2) (h : pm_ex (pm_run (pm_pl S) n) d (pm_opop j (pc + 1) L st M) = some (o, M')) (hdg : decode cc pc = .ok (.pop, 1)) : W p l e R s m args below meth c H locs k ks (pm_MQ below (pm_Qo D dA b A ad0 M0 o M' mc ms) args s) (F0 m pc ls (st.map (pm_ren ad))) := by
  rcases st with _ | ⟨v, r⟩
  · exact (pm_no h).elim
  · rw [x_opop] at h
    split at h
    · rename_i hc
      exact lv_pop cx.1 cx.2.1 hdg (by rw [pm_ren_cat]; exact pm_ty_cat hc.1 hc.2) (ih _ _ _ _ _ _ _ _ _ _ h ⟨dy.1, dy.2.1, dy.2.2.1, pm_all_tl dy.2.2.2.1, dy.2.2.2.2⟩ hk hks)
    · cases h
theorem s_odup1 (cx : pm_Cx p l R s m args meth c D dA S b A j d y cc nL ret rk) (ih : pm_Ih p l e R s m args below meth c D dA S b A j d nL ad0 M0 o M' mc ms n) (dy : pm_Dy D dA b A ad0 M0 s nL L st M ad H locs ls) (hk : k + M'.2.1 = mc + M.2.1) (hks : ks + M'.2.2 = ms + M.2.2) (h : pm_ex (pm_run (pm_pl S) n) d (pm_odup1 j (pc + 1) L st M) = some (o, M')) (hdg : decode cc pc = .ok (.dup_x1, 1)) : W p l e R s m args below meth c H locs k ks (pm_MQ below (pm_Qo D dA b A ad0 M0 o M' mc ms) args s) (F0 m pc ls (st.map (pm_ren ad))) := by
  rcases st with _ | ⟨v, _ | ⟨u, r⟩⟩
  · exact (pm_no h).elim
  · exact (pm_no h).elim
  · rw [x_odup1] at h
    split at h
    · rename_i hc
      obtain ⟨h1, h2, h3, h4⟩ := hc
      exact lv_dup_x1 cx.1 cx.2.1 hdg (by rw [pm_ren_cat]; exact pm_ty_cat h1 h2) (by rw [pm_ren_cat]; exact pm_ty_cat h3 h4) (ih _ _ _ _ _ _ _ _ _ _ h ⟨dy.1, dy.2.1, dy.2.2.1, pm_all_cons (dy.2.2.2.1 v List.mem_cons_self) (pm_all_cons (pm_all_tl dy.2.2.2.1 u List.mem_cons_self) (pm_all_cons (dy.2.2.2.1 v List.mem_cons_self) (pm_all_tl (pm_all_tl dy.2.2.2.1)))), dy.2.2.2.2⟩ hk hks)
    · cases h
theorem s_odup2 (cx : pm_Cx p l R s m args meth c D dA S b A j d y cc nL ret rk) (ih : pm_Ih p l e R s m args below meth c D dA S b A j d nL ad0 M0 o M' mc ms n) (dy : pm_Dy D dA b A ad0 M0 s nL L st M ad H locs ls) (hk : k + M'.2.1 = mc + M.2.1) (hks : ks + M'.2.2 = ms + M.2.2) (h : pm_ex (pm_run (pm_pl S) n) d (pm_odup2 j (pc + 1) L st M) = some (o, M')) (hdg : decode cc pc = .ok (.dup2, 1)) : W p l e R s m args below meth c H locs k ks (pm_MQ below (pm_Qo D dA b A ad0 M0 o M' mc ms) args s) (F0 m pc ls (st.map (pm_ren ad))) := by
  rcases st with _ | ⟨v, _ | ⟨u, r⟩⟩
  · exact (pm_no h).elim
  · exact (pm_no h).elim
  · rw [x_odup2] at h
    split at h
    · rename_i hc
      obtain ⟨h1, h2, h3, h4⟩ := hc
      exact lv_dup2_11 cx.1 cx.2.1 hdg (by rw [pm_ren_cat]; exact pm_ty_cat h1 h2) (by rw [pm_ren_cat]; exact pm_ty_cat h3 h4) (ih _ _ _ _ _ _ _ _ _ _ h ⟨dy.1, dy.2.1, dy.2.2.1, pm_all_cons (dy.2.2.2.1 v List.mem_cons_self) (pm_all_cons (pm_all_tl dy.2.2.2.1 u List.mem_cons_self) dy.2.2.2.1), dy.2.2.2.2⟩ hk hks)
    · cases h
theorem s_ots {df : Int} {lo hi : Int} {offs : Array Int} {len : Nat} (cx : pm_Cx p l R s m args meth c D dA S b A j d y cc nL ret rk) (ih : pm_Ih p l e R s m args below meth c D dA S b A j d nL ad0 M0 o M' mc ms n) (dy : pm_Dy D dA b A ad0 M0 s nL L st M ad H locs ls) (hk : k + M'.2.1 = mc + M.2.1) (hks : ks + M'.2.2 = ms + M.2.2) (h : pm_ex (pm_run (pm_pl S) n) d (pm_ots (pm_tg pc df) lo (offs.toList.map (pm_tg pc)) j L st M) = some (o, M')) (hdg : decode cc pc = .ok (.tableswitch df lo hi offs, len)) (h0 : 0 ≤ (pc : Int) + df) (hhi : hi = lo + (offs.size : Int) - 1) (hall : ∀ z ∈ offs.toList, 0 ≤ (pc : Int) + z) : W p l e R s m args below meth c H locs k ks (pm_MQ below (pm_Qo D dA b A ad0 M0 o M' mc ms) args s) (F0 m pc ls (st.map (pm_ren ad))) := by
  rcases st with _ | ⟨v, r⟩
  · exact (pm_no h).elim
  · cases v with
    | int x =>
      rw [x_ots] at h
      have hlen : ((offs.toList.map (pm_tg pc)).length : Int) = (offs.size : Int) := by simp
      split at h
      · rename_i hc
        refine lv_tableOut (tgt := pm_tg pc df) cx.1 cx.2.1 hdg (by omega) (by unfold pm_tg; omega) (ih _ _ _ _ _ _ _ _ _ _ h ⟨dy.1, dy.2.1, dy.2.2.1, pm_all_tl dy.2.2.2.1, dy.2.2.2.2⟩ hk hks)
      · rename_i hc
        have hlt : (x.toInt - lo).toNat < offs.size := by omega
        have hget : offs[(x.toInt - lo).toNat]? = some offs[(x.toInt - lo).toNat] := Array.getElem?_eq_getElem hlt
        have hmem : offs[(x.toInt - lo).toNat] ∈ offs.toList := by simp
        have hd : (offs.toList.map (pm_tg pc)).getD (x.toInt - lo).toNat (pm_tg pc df) = pm_tg pc offs[(x.toInt - lo).toNat] := by
          rw [List.getD_eq_getElem?_getD, List.getElem?_map, Array.getElem?_toList, hget]
          rfl
        rw [hd] at h
        have hz := hall _ hmem
        refine lv_tableIn (tgt := pm_tg pc offs[(x.toInt - lo).toNat]) cx.1 cx.2.1 hdg (by omega) (by omega) hget (by unfold pm_tg; omega) (ih _ _ _ _ _ _ _ _ _ _ h ⟨dy.1, dy.2.1, dy.2.2.1, pm_all_tl dy.2.2.2.1, dy.2.2.2.2⟩ hk hks)
    | _ => exact (pm_no h).elim
end PMSTEP
