/-! A frame of the JVM does what the pure machine's does. -/
theorem pm_hdn {cc : ByteArray} {pc k : Nat} {i : Instr} (hd : decode cc pc = .ok (i, pc + k - pc)) : decode cc pc = .ok (i, k) := by rwa [Nat.add_sub_cancel_left] at hd
theorem pm_ck {f : Nat → Nat → Instr → Bool} (hf : pm_tabs.all (fun q => q.2.all (fun r => f q.1 r.1 r.2.1)) = true) {j pc nx tg : Nat} {i : Instr} (hi : pm_ins j pc = some (i, nx, tg)) : f j pc i = true := by
  obtain ⟨t, h1, h2⟩ := pm_ins_mem hi
  exact List.all_eq_true.mp (List.all_eq_true.mp hf _ h1) _ h2
theorem pm_neg32 (x : Int32) : (0 - x : Int32) = -x := by rw [Int32.sub_eq_add_neg, Int32.zero_add]
section PMSTEP8
variable {p : Program} {l : Launch} {e : Env} {R : Room} {s : State} {m : MethodId} {args : Array Value} {below : List Frame} {meth : Method} {c : Code} {D : va_G} {dA : Nat → ClassId} {S : pm_S} {b : Nat} {A : Nat → Prop} {j d : Nat} {y : MethodName} {cc : ByteArray} {nL : Nat} {ret : Option FieldType} {rk : Nat} {ad0 : Nat → Nat} {M0 : pm_M} {o : pm_O} {M' : pm_M} {mc ms n pc nx tg : Nat} {L st : List Value} {M : pm_M} {ad : Nat → Nat} {H : Heap} {locs : List Loc} {ls : Array Slot} {k ks : Nat}
theorem pm_rk_of (cx : pm_Cx p l R s m args meth c D dA S b A j d y cc nL ret rk) : pm_rt j = pm_rtk ret := by
  have h := cx.2.2.2.2.2.2.2.2.2.1
  have h1 := List.all_eq_true.mp pm_rk_ok _ (pm_lk_mem _ _ _ h)
  unfold pm_rt
  rw [h]
  exact (of_decide_eq_true h1).symm
theorem pm_rk0 {r : Option FieldType} (h : pm_rtk r = 0) : r = some .int := by
  rcases r with _ | r
  · cases h
  · cases r <;> first | rfl | cases h
theorem pm_rk3 {r : Option FieldType} (h : pm_rtk r = 3) : r = some .boolean := by
  rcases r with _ | r
  · cases h
  · cases r <;> first | rfl | cases h
theorem pm_rk9 {r : Option FieldType} (h : pm_rtk r = 9) : r = none := by
  rcases r with _ | r
  · rfl
  · cases r <;> cases h
theorem pm_rk2 {r : Option FieldType} (h : pm_rtk r = 2) : ∃ t, r = some t ∧ ((∃ n, t = .object n) ∨ ∃ u, t = .array u) := by
  rcases r with _ | r
  · cases h
  · cases r <;> first | exact ⟨_, rfl, Or.inl ⟨_, rfl⟩⟩ | exact ⟨_, rfl, Or.inr ⟨_, rfl⟩⟩ | cases h
set_option maxHeartbeats 4000000 in
theorem s_step {i : Instr} (cx : pm_Cx p l R s m args meth c D dA S b A j d y cc nL ret rk) (ih : pm_Ih p l e R s m args below meth c D dA S b A j d nL ad0 M0 o M' mc ms n) (dy : pm_Dy D dA b A ad0 M0 s nL L st M ad H locs ls) (hk : k + M'.2.1 = mc + M.2.1) (hks : ks + M'.2.2 = ms + M.2.2) (hR : mc ≤ R.cells ∧ ms ≤ R.slots) (hct : pm_Ct l S n) (hi : pm_ins j pc = some (i, nx, tg)) (h : pm_ex (pm_run (pm_pl S) n) d (pm_dec S j pc nx tg L st M i) = some (o, M')) : W p l e R s m args below meth c H locs k ks (pm_MQ below (pm_Qo D dA b A ad0 M0 o M' mc ms) args s) (F0 m pc ls (st.map (pm_ren ad))) := by
  have hd := pm_in_d cx hi
  dsimp only at hd
  obtain ⟨-, -, -, htok⟩ := pm_ins_ok hi
  have hlen := pm_ins_len hi
  have hix : pm_ixk i = true := pm_ck (f := fun _ _ i => pm_ixk i) pm_ix_ok hi
  have hhk : pm_hk j pc i = true := pm_ck (f := pm_hk) pm_h_ok hi
  have hpf : pm_pfk j i = true := pm_ck (f := fun j _ i => pm_pfk j i) pm_pf_ok hi
  have hak : pm_ak j i = true := pm_ck (f := fun j _ i => pm_ak j i) pm_an_ok hi
  have hx := cx.1
  have hb := cx.2.1
  have hown := cx.2.2.2.1
  have hgw := cx.2.2.2.2.1
  cases i with
  | aload i9 =>
    obtain rfl := hlen (Nat.succ_ne_zero _)
    exact s_old cx ih dy hk hks h (by decide) (fun w hw hl kk => r_aload hx hb hw (pm_hdn hd) hl kk)
  | aload_n i9 =>
    obtain rfl := hlen (Nat.succ_ne_zero _)
    exact s_old cx ih dy hk hks h (by decide) (fun w hw hl kk => r_aload_n hx hb hw (pm_hdn hd) hl kk)
  | iload i9 =>
    obtain rfl := hlen (Nat.succ_ne_zero _)
    exact s_old cx ih dy hk hks h (by decide) (fun w hw hl kk => r_iload hx hb hw (pm_hdn hd) hl kk)
  | iload_n i9 =>
    obtain rfl := hlen (Nat.succ_ne_zero _)
    exact s_old cx ih dy hk hks h (by decide) (fun w hw hl kk => r_iload_n hx hb hw (pm_hdn hd) hl kk)
  | lload i9 =>
    obtain rfl := hlen (Nat.succ_ne_zero _)
    exact s_old cx ih dy hk hks h (by decide) (fun w hw hl kk => r_lload hx hb hw (pm_hdn hd) hl kk)
  | lload_n i9 =>
    obtain rfl := hlen (Nat.succ_ne_zero _)
    exact s_old cx ih dy hk hks h (by decide) (fun w hw hl kk => r_lload_n hx hb hw (pm_hdn hd) hl kk)
  | astore i9 =>
    obtain rfl := hlen (Nat.succ_ne_zero _)
    exact s_ost cx ih dy hk hks h (Or.inr rfl) (fun w ls' r hw e1 kk => r_astore hx hb hw (pm_hdn hd) e1 kk)
  | astore_n i9 =>
    obtain rfl := hlen (Nat.succ_ne_zero _)
    exact s_ost cx ih dy hk hks h (Or.inr rfl) (fun w ls' r hw e1 kk => r_astore_n hx hb hw (pm_hdn hd) e1 kk)
  | istore i9 =>
    obtain rfl := hlen (Nat.succ_ne_zero _)
    exact s_ost cx ih dy hk hks h (Or.inl rfl) (fun w ls' r hw e1 kk => r_istore hx hb hw (pm_hdn hd) e1 kk)
  | istore_n i9 =>
    obtain rfl := hlen (Nat.succ_ne_zero _)
    exact s_ost cx ih dy hk hks h (Or.inl rfl) (fun w ls' r hw e1 kk => r_istore_n hx hb hw (pm_hdn hd) e1 kk)
  | lstore i9 =>
    obtain rfl := hlen (Nat.succ_ne_zero _)
    exact s_osl cx ih dy hk hks h (fun x ls' r e1 kk => r_lstore hx hb (pm_hdn hd) e1 kk)
  | lstore_n i9 =>
    obtain rfl := hlen (Nat.succ_ne_zero _)
    exact s_osl cx ih dy hk hks h (fun x ls' r e1 kk => r_lstore_n hx hb (pm_hdn hd) e1 kk)
  | iconst i9 =>
    obtain rfl := hlen (Nat.succ_ne_zero _)
    exact s_ocs cx ih dy hk hks h (fun q hq => nomatch hq) (fun kk => lv_iconst hx hb (pm_hdn hd) rfl kk)
  | bipush i9 =>
    obtain rfl := hlen (Nat.succ_ne_zero _)
    exact s_ocs cx ih dy hk hks h (fun q hq => nomatch hq) (fun kk => lv_bipush hx hb (pm_hdn hd) rfl kk)
  | sipush i9 =>
    obtain rfl := hlen (Nat.succ_ne_zero _)
    exact s_ocs cx ih dy hk hks h (fun q hq => nomatch hq) (fun kk => lv_sipush hx hb (pm_hdn hd) rfl kk)
  | lconst i9 =>
    obtain rfl := hlen (Nat.succ_ne_zero _)
    exact s_ocs cx ih dy hk hks h (fun q hq => nomatch hq) (fun kk => lv_lconst hx hb (pm_hdn hd) rfl kk)
  | aconst_null =>
    obtain rfl := hlen (Nat.succ_ne_zero _)
    exact s_ocs cx ih dy hk hks h (fun q hq => nomatch hq) (fun kk => lv_null hx hb (pm_hdn hd) kk)
  | ldc2_w x =>
    obtain rfl := hlen (Nat.succ_ne_zero _)
    cases hq : pm_lk pm_ltab (1000 * pm_own j + x) with
    | none =>
      unfold pm_dec at h
      dsimp only at h
      rw [hq] at h
      exact (pm_no h).elim
    | some v =>
      unfold pm_dec at h
      dsimp only at h
      rw [hq] at h
      have h9 := List.all_eq_true.mp pm_ltab_ok _ (pm_lk_mem _ _ _ hq)
      obtain ⟨e1, e2⟩ := pm_link (j := j) (of_decide_eq_true hix)
      dsimp only at h9
      rw [e1, e2] at h9
      exact s_ocs cx ih dy hk hks h (fun q hq => nomatch hq) (fun kk => lv_ldc2 hx hb hown (hgw _ (pm_inT_mem h9)) (pm_hdn hd) kk)
  | iadd =>
    obtain rfl := hlen (Nat.succ_ne_zero _)
    exact s_oii cx ih dy hk hks h (fun x y r kk => lv_iadd hx hb (pm_hdn hd) kk)
  | isub =>
    obtain rfl := hlen (Nat.succ_ne_zero _)
    exact s_oii cx ih dy hk hks h (fun x y r kk => lv_isub hx hb (pm_hdn hd) kk)
  | imul =>
    obtain rfl := hlen (Nat.succ_ne_zero _)
    exact s_oii cx ih dy hk hks h (fun x y r kk => lv_imul hx hb (pm_hdn hd) kk)
  | iand =>
    obtain rfl := hlen (Nat.succ_ne_zero _)
    exact s_oii cx ih dy hk hks h (fun x y r kk => lv_iand hx hb (pm_hdn hd) kk)
  | ishl =>
    obtain rfl := hlen (Nat.succ_ne_zero _)
    exact s_oii cx ih dy hk hks h (fun x y r kk => lv_ishl hx hb (pm_hdn hd) kk)
  | ishr =>
    obtain rfl := hlen (Nat.succ_ne_zero _)
    exact s_oii cx ih dy hk hks h (fun x y r kk => lv_ishr hx hb (pm_hdn hd) kk)
  | idiv =>
    obtain rfl := hlen (Nat.succ_ne_zero _)
    exact s_oir cx ih dy hk hks h (fun x y r hy kk => lv_idiv hx hb (pm_hdn hd) hy (by rw [if_pos rfl] at kk; exact kk))
  | irem =>
    obtain rfl := hlen (Nat.succ_ne_zero _)
    exact s_oir cx ih dy hk hks h (fun x y r hy kk => lv_irem hx hb (pm_hdn hd) hy (by rw [if_neg (by decide)] at kk; exact kk))
  | ineg =>
    obtain rfl := hlen (Nat.succ_ne_zero _)
    exact s_oi1 cx ih dy hk hks h (fun x q hq => nomatch hq) (fun x r kk => lv_ineg hx hb (pm_hdn hd) (by rw [← pm_neg32]; exact kk))
  | i2l =>
    obtain rfl := hlen (Nat.succ_ne_zero _)
    exact s_oi1 cx ih dy hk hks h (fun x q hq => nomatch hq) (fun x r kk => lv_i2l hx hb (pm_hdn hd) rfl kk)
  | land =>
    obtain rfl := hlen (Nat.succ_ne_zero _)
    exact s_oll cx ih dy hk hks h (fun x y q hq => nomatch hq) (fun x y r kk => lv_land hx hb (pm_hdn hd) kk)
  | lor =>
    obtain rfl := hlen (Nat.succ_ne_zero _)
    exact s_oll cx ih dy hk hks h (fun x y q hq => nomatch hq) (fun x y r kk => lv_lor hx hb (pm_hdn hd) kk)
  | lxor =>
    obtain rfl := hlen (Nat.succ_ne_zero _)
    exact s_oll cx ih dy hk hks h (fun x y q hq => nomatch hq) (fun x y r kk => lv_lxor hx hb (pm_hdn hd) kk)
  | lcmp =>
    obtain rfl := hlen (Nat.succ_ne_zero _)
    exact s_oll cx ih dy hk hks h (fun x y q hq => nomatch hq) (fun x y r kk => W.lcmp hx hb (pm_hdn hd) kk)
  | lshl =>
    obtain rfl := hlen (Nat.succ_ne_zero _)
    exact s_oli cx ih dy hk hks h (fun x y r kk => lv_lshl hx hb (pm_hdn hd) rfl kk)
  | lshr =>
    obtain rfl := hlen (Nat.succ_ne_zero _)
    exact s_oli cx ih dy hk hks h (fun x y r kk => lv_lshr hx hb (pm_hdn hd) rfl kk)
  | if_icmp c9 off =>
    obtain rfl := hlen (Nat.succ_ne_zero _)
    simp only [pm_tok, Bool.and_eq_true, decide_eq_true_eq] at htok
    have htg := htok.2
    cases c9 with
    | eq => exact s_oc2eq cx ih dy hk hks h (pm_hdn hd) htg
    | ne => exact s_oc2ne cx ih dy hk hks h (pm_hdn hd) htg
    | lt => exact s_oc2lt cx ih dy hk hks h (pm_hdn hd) htg
    | ge => exact s_oc2ge cx ih dy hk hks h (pm_hdn hd) htg
    | gt => exact s_oc2gt cx ih dy hk hks h (pm_hdn hd) htg
    | le => exact s_oc2le cx ih dy hk hks h (pm_hdn hd) htg
  | ifCond c9 off =>
    obtain rfl := hlen (Nat.succ_ne_zero _)
    simp only [pm_tok, Bool.and_eq_true, decide_eq_true_eq] at htok
    have htg := htok.2
    cases c9 with
    | eq => exact s_oc1eq cx ih dy hk hks h (pm_hdn hd) htg
    | ne => exact s_oc1ne cx ih dy hk hks h (pm_hdn hd) htg
    | lt => exact s_oc1lt cx ih dy hk hks h (pm_hdn hd) htg
    | ge => exact s_oc1ge cx ih dy hk hks h (pm_hdn hd) htg
    | gt => exact s_oc1gt cx ih dy hk hks h (pm_hdn hd) htg
    | le => exact s_oc1le cx ih dy hk hks h (pm_hdn hd) htg
  | ifnull off =>
    obtain rfl := hlen (Nat.succ_ne_zero _)
    simp only [pm_tok, Bool.and_eq_true, decide_eq_true_eq] at htok
    have htg := htok.2
    exact s_onu cx ih dy hk hks h (fun r kk => lv_ifnullN hx hb (pm_hdn hd) htg kk) (fun q r kk => lv_ifnull hx hb (pm_hdn hd) kk)
  | ifnonnull off =>
    obtain rfl := hlen (Nat.succ_ne_zero _)
    simp only [pm_tok, Bool.and_eq_true, decide_eq_true_eq] at htok
    have htg := htok.2
    exact s_onu cx ih dy hk hks h (fun r kk => lv_ifnonnullN hx hb (pm_hdn hd) kk) (fun q r kk => lv_ifnonnull hx hb (pm_hdn hd) htg kk)
  | if_acmp c9 off =>
    obtain rfl := hlen (Nat.succ_ne_zero _)
    simp only [pm_tok, Bool.and_eq_true, decide_eq_true_eq] at htok
    have htg := htok.2
    cases c9 with
    | eq => exact s_oac cx ih dy hk hks h (fun rx ry r k1 k2 => lv_acmp_eq hx hb (pm_hdn hd) htg k1 k2)
    | ne => exact s_oac cx ih dy hk hks h (fun rx ry r k1 k2 => lv_acmp_ne hx hb (pm_hdn hd) htg k2 k1)
  | goto off =>
    obtain rfl := hlen (Nat.succ_ne_zero _)
    simp only [pm_tok, Bool.and_eq_true, decide_eq_true_eq] at htok
    have htg := htok.2
    exact s_ogo cx ih dy hk hks h (fun kk => lv_goto hx hb (pm_hdn hd) htg kk)
  | iinc i9 z =>
    obtain rfl := hlen (Nat.succ_ne_zero _)
    exact s_oinc cx ih dy hk hks h (pm_hdn hd)
  | dup =>
    obtain rfl := hlen (Nat.succ_ne_zero _)
    exact s_odup cx ih dy hk hks h (pm_hdn hd)
  | dup_x1 =>
    obtain rfl := hlen (Nat.succ_ne_zero _)
    exact s_odup1 cx ih dy hk hks h (pm_hdn hd)
  | dup2 =>
    obtain rfl := hlen (Nat.succ_ne_zero _)
    exact s_odup2 cx ih dy hk hks h (pm_hdn hd)
  | pop =>
    obtain rfl := hlen (Nat.succ_ne_zero _)
    exact s_opop cx ih dy hk hks h (pm_hdn hd)
  | iaload =>
    obtain rfl := hlen (Nat.succ_ne_zero _)
    exact s_iald cx ih dy hk hks h (pm_hdn hd)
  | baload =>
    obtain rfl := hlen (Nat.succ_ne_zero _)
    exact s_zald cx ih dy hk hks h (pm_hdn hd)
  | laload =>
    obtain rfl := hlen (Nat.succ_ne_zero _)
    exact s_lald cx ih dy hk hks h (pm_hdn hd)
  | aaload =>
    obtain rfl := hlen (Nat.succ_ne_zero _)
    exact s_aald cx ih dy hk hks h (pm_hdn hd)
  | iastore =>
    obtain rfl := hlen (Nat.succ_ne_zero _)
    exact s_iast cx ih dy hk hks h (pm_hdn hd)
  | bastore =>
    obtain rfl := hlen (Nat.succ_ne_zero _)
    exact s_zast cx ih dy hk hks h (pm_hdn hd)
  | lastore =>
    obtain rfl := hlen (Nat.succ_ne_zero _)
    exact s_last cx ih dy hk hks h (pm_hdn hd)
  | aastore =>
    obtain rfl := hlen (Nat.succ_ne_zero _)
    exact s_aast cx ih dy hk hks h (pm_hdn hd)
  | arraylength =>
    obtain rfl := hlen (Nat.succ_ne_zero _)
    exact s_oln cx ih dy hk hks h (pm_hdn hd)
  | getfield x =>
    obtain rfl := hlen (Nat.succ_ne_zero _)
    cases hq : pm_lk pm_ftab (1000 * pm_own j + x) with
    | none =>
      unfold pm_dec at h
      dsimp only at h
      rw [hq] at h
      exact (pm_no h).elim
    | some q9 =>
      unfold pm_dec at h
      dsimp only at h
      rw [hq] at h
      obtain ⟨ci, i9, t9⟩ := q9
      exact s_ogf cx ih dy hk hks hq (of_decide_eq_true hix) h (pm_hdn hd)
  | putfield x =>
    obtain rfl := hlen (Nat.succ_ne_zero _)
    cases hq : pm_lk pm_ftab (1000 * pm_own j + x) with
    | none =>
      unfold pm_dec at h
      dsimp only at h
      rw [hq] at h
      exact (pm_no h).elim
    | some q9 =>
      unfold pm_dec at h
      dsimp only at h
      rw [hq] at h
      obtain ⟨ci, i9, t9⟩ := q9
      exact s_opf cx ih dy hk hks hq (of_decide_eq_true hix) hpf h (pm_hdn hd)
  | new x =>
    obtain rfl := hlen (Nat.succ_ne_zero _)
    unfold pm_dec at h
    dsimp only at h
    cases hq : pm_lk pm_xtab (1000 * pm_own j + x) with
    | some E =>
      rw [hq] at h
      exact s_oth cx ih dy hk hks hR hi hq h
    | none =>
      rw [hq] at h
      dsimp only at h
      cases hq2 : pm_lk pm_ntab (1000 * pm_own j + x) with
      | none =>
        rw [hq2] at h
        exact (pm_no h).elim
      | some q9 =>
        obtain ⟨ci, fs⟩ := q9
        rw [hq2] at h
        exact s_one cx ih dy hk hks hR hq2 (of_decide_eq_true hix) h (pm_hdn hd)
  | newarray t9 =>
    obtain rfl := hlen (Nat.succ_ne_zero _)
    cases t9 with
    | int => exact s_newI cx ih dy hk hks hR h (pm_hdn hd)
    | boolean => exact s_newZ cx ih dy hk hks hR h (pm_hdn hd)
    | long => exact s_newJ cx ih dy hk hks hR h (pm_hdn hd)
    | _ => exact (pm_no h).elim
  | anewarray x =>
    obtain rfl := hlen (Nat.succ_ne_zero _)
    exact s_newA cx ih dy hk hks hR hak h (pm_hdn hd)
  | invokestatic x =>
    obtain rfl := hlen (Nat.succ_ne_zero _)
    cases hq : pm_lk pm_ctab (1000 * pm_own j + x) with
    | none =>
      unfold pm_dec at h
      dsimp only at h
      rw [hq] at h
      exact (pm_no h).elim
    | some q9 =>
      unfold pm_dec at h
      dsimp only at h
      rw [hq] at h
      obtain ⟨vi, j', n', ci, pad⟩ := q9
      dsimp only at h
      split at h
      · exact s_call cx ih dy hk hks hR hct hq (of_decide_eq_true hix) rfl hhk h (Or.inl ⟨rfl, pm_hdn hd⟩)
      · exact s_max cx ih dy hk hks hR hq (of_decide_eq_true hix) h (pm_hdn hd)
      · exact s_min cx ih dy hk hks hR hq (of_decide_eq_true hix) h (pm_hdn hd)
      · exact s_abs cx ih dy hk hks hR hq (of_decide_eq_true hix) h (pm_hdn hd)
      · exact (pm_no h).elim
  | invokevirtual x =>
    obtain rfl := hlen (Nat.succ_ne_zero _)
    cases hq : pm_lk pm_ctab (1000 * pm_own j + x) with
    | none =>
      unfold pm_dec at h
      dsimp only at h
      rw [hq] at h
      exact (pm_no h).elim
    | some q9 =>
      unfold pm_dec at h
      dsimp only at h
      rw [hq] at h
      obtain ⟨vi, j', n', ci, pad⟩ := q9
      dsimp only at h
      split at h
      · exact s_call cx ih dy hk hks hR hct hq (of_decide_eq_true hix) rfl hhk h (Or.inr (Or.inl ⟨rfl, pm_hdn hd⟩))
      · exact (pm_no h).elim
  | invokespecial x =>
    obtain rfl := hlen (Nat.succ_ne_zero _)
    cases hq : pm_lk pm_ctab (1000 * pm_own j + x) with
    | none =>
      unfold pm_dec at h
      dsimp only at h
      rw [hq] at h
      exact (pm_no h).elim
    | some q9 =>
      unfold pm_dec at h
      dsimp only at h
      rw [hq] at h
      obtain ⟨vi, j', n', ci, pad⟩ := q9
      dsimp only at h
      split at h
      · exact s_call cx ih dy hk hks hR hct hq (of_decide_eq_true hix) rfl hhk h (Or.inr (Or.inr ⟨rfl, pm_hdn hd⟩))
      · exact s_ooi cx ih dy hk hks hq (of_decide_eq_true hix) h (pm_hdn hd)
      · exact (pm_no h).elim
  | ireturn =>
    obtain rfl := hlen (Nat.succ_ne_zero _)
    have hrk := pm_rk_of cx
    unfold pm_dec at h
    dsimp only at h
    split at h
    · rename_i e9
      rw [e9] at hrk
      exact s_iret cx ih dy hk hks (pm_rk0 hrk.symm) h (pm_hdn hd)
    · rename_i e9
      rw [e9] at hrk
      exact s_zret cx ih dy hk hks (pm_rk3 hrk.symm) h (pm_hdn hd)
    · exact (pm_no h).elim
  | areturn =>
    obtain rfl := hlen (Nat.succ_ne_zero _)
    have hrk := pm_rk_of cx
    unfold pm_dec at h
    dsimp only at h
    split at h
    · rename_i e9
      rw [e9] at hrk
      obtain ⟨t9, g1, g2⟩ := pm_rk2 hrk.symm
      exact s_aret cx ih dy hk hks g1 g2 h (pm_hdn hd)
    · exact (pm_no h).elim
  | return_ =>
    obtain rfl := hlen (Nat.succ_ne_zero _)
    have hrk := pm_rk_of cx
    unfold pm_dec at h
    dsimp only at h
    split at h
    · rename_i e9
      rw [e9] at hrk
      exact s_vret cx ih dy hk hks (pm_rk9 hrk.symm) h (pm_hdn hd)
    · exact (pm_no h).elim
  | tableswitch df lo hi9 offs =>
    simp only [pm_tok, Bool.and_eq_true, decide_eq_true_eq, List.all_eq_true] at htok
    exact s_ots cx ih dy hk hks h hd htok.2.1.1 htok.2.1.2 htok.2.2
  | _ => exact (pm_no h).elim
end PMSTEP8
/-- frames, over n steps -/
def pm_FG (l : Launch) (S : pm_S) (n : Nat) : Prop := ∀ (p : Program) (e : Env) (R : Room) (s : State) (m : MethodId) (args : Array Value) (below : List Frame) (meth : Method) (c : Code) (D : va_G) (dA : Nat → ClassId) (b : Nat) (A : Nat → Prop) (j d : Nat) (y : MethodName) (cc : ByteArray) (nL : Nat) (ret : Option FieldType) (rk : Nat) (ad0 : Nat → Nat) (M0 : pm_M) (o : pm_O) (M' : pm_M) (mc ms : Nat), pm_Cx p l R s m args meth c D dA S b A j d y cc nL ret rk → mc ≤ R.cells ∧ ms ≤ R.slots → pm_Ih p l e R s m args below meth c D dA S b A j d nL ad0 M0 o M' mc ms n
theorem pm_FG_succ {l : Launch} {S : pm_S} {n : Nat} (hct : pm_Ct l S n) (hfg : pm_FG l S n) : pm_FG l S (n + 1) := by
  intro p e R s m args below meth c D dA b A j d y cc nL ret rk ad0 M0 o M' mc ms cx hR pc L st M ad H locs ls k ks h dy hk hks
  rw [pm_run_step] at h
  unfold pm_pl at h
  dsimp only at h
  cases hi : pm_ins j pc with
  | none => rw [hi] at h; exact (pm_no h).elim
  | some q =>
    obtain ⟨i, nx, tg⟩ := q
    rw [hi] at h
    exact s_step cx (hfg _ _ _ _ _ _ _ _ _ _ _ _ _ _ _ _ _ _ _ _ _ _ _ _ _ _ cx hR) dy hk hks hR hct hi h
