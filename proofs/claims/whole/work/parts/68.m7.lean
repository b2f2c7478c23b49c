/-! The reference's fill. -/
theorem w_bv (x : Nat) : (w x).toBitVec = BitVec.ofNat 32 x := rfl
theorem w_and15 {x : Nat} (h : x < 2147483648) : w x &&& w 15 = w (x % 16) := by
  rw [← Int32.toBitVec_inj, Int32.toBitVec_and, w_bv, w_bv, w_bv]
  apply BitVec.eq_of_toNat_eq
  rw [BitVec.toNat_and, BitVec.toNat_ofNat, BitVec.toNat_ofNat, BitVec.toNat_ofNat, Nat.mod_eq_of_lt (show x < 2 ^ 32 by omega), Nat.mod_eq_of_lt (show x % 16 < 2 ^ 32 by omega)]
  exact Nat.and_two_pow_sub_one_eq_mod x 4
theorem w_shr {x k : Nat} (y : Int32) (h : x < 2147483648) (hy : (BitVec.smod y.toBitVec 32#32).toNat = k) : w x >>> y = w (x / 2 ^ k) := by
  have hx : x / 2 ^ k ≤ x := Nat.div_le_self _ _
  rw [← Int32.toBitVec_inj, Int32.toBitVec_shiftRight]
  show BitVec.sshiftRight _ (BitVec.smod y.toBitVec 32#32).toNat = _
  rw [hy, w_bv, w_bv]
  apply BitVec.eq_of_toInt_eq
  have h1 : ∀ z, z < 2147483648 → (BitVec.ofNat 32 z).toInt = (z : Int) := fun z hz => (w_toInt hz : (w z).toInt = _)
  rw [BitVec.toInt_sshiftRight, h1 x h, h1 _ (by omega), Int.shiftRight_eq_div_pow]
  exact (Int.natCast_ediv x (2 ^ k)).symm
theorem w_dig {v m : Nat} (hv : v < 65536) (hm : m < 4) : (w v >>> (w (4 * m) &&& 31)) &&& w 15 = w (v / 16 ^ m % 16) := by
  match m, hm with
  | 0, _ => rw [w_shr (k := 0) (w (4 * 0) &&& 31) (by omega) (by decide), w_and15 (Nat.lt_of_le_of_lt (Nat.div_le_self _ _) (by omega))]
  | 1, _ => rw [w_shr (k := 4) (w (4 * 1) &&& 31) (by omega) (by decide), w_and15 (Nat.lt_of_le_of_lt (Nat.div_le_self _ _) (by omega))]
  | 2, _ => rw [w_shr (k := 8) (w (4 * 2) &&& 31) (by omega) (by decide), w_and15 (Nat.lt_of_le_of_lt (Nat.div_le_self _ _) (by omega))]
  | 3, _ => rw [w_shr (k := 12) (w (4 * 3) &&& 31) (by omega) (by decide), w_and15 (Nat.lt_of_le_of_lt (Nat.div_le_self _ _) (by omega))]
  | m + 4, h => exact absurd h (by omega)
theorem w_shl {m : Nat} (hm : m < 5) : w 1 <<< (w (4 * m) &&& 31) = w (16 ^ m) := by
  match m, hm with
  | 0, _ => decide
  | 1, _ => decide
  | 2, _ => decide
  | 3, _ => decide
  | 4, _ => decide
  | m + 5, h => exact absurd h (by omega)
def ix (m : Nat) : Int32 := match m with
  | 0 => m1
  | m + 1 => w m
theorem ix_0 : ix 0 = m1 := rfl
theorem ix_s (m : Nat) : ix (m + 1) = w m := rfl
theorem dn (m : Nat) : w m + m1 = ix m := by
  cases m with
  | zero => exact Eq.trans rfl rfl
  | succ m =>
    rw [ix_s, ← w_add, Int32.add_assoc, show w 1 + m1 = w 0 from by decide, w_add]
    rfl
theorem dn_s (m : Nat) : w (m + 1) + m1 = w m := dn (m + 1)
section DOZ
variable (T R b : Nat) (a : at_T) (pg : pg_T) (ld : Nat → Nat) (L : List Nat)
def doz : Nat → Nat → ps_T → wh_T → List (Nat × Nat)
  | 0, _, _, _ => []
  | m + 1, v, ps, wh => match L[v / 16 ^ m % 16 / 4]? with
    | none => []
    | some k => if v / 16 ^ m % 16 % 4 < R ∧ okc T b a pg ld ps wh (k, v / 16 ^ m % 16 % 4) = true then (k, v / 16 ^ m % 16 % 4) :: doz m v (va_up ps k (some (b, v / 16 ^ m % 16 % 4, hgt wh b (v / 16 ^ m % 16 % 4) T))) (up3 wh b (v / 16 ^ m % 16 % 4) (hgt wh b (v / 16 ^ m % 16 % 4) T) (some k)) else []
end DOZ
theorem doz_n {T R b : Nat} {a : at_T} {pg : pg_T} {ld : Nat → Nat} {L : List Nat} {m v c : Nat} {ps : ps_T} {wh : wh_T} (hc : v / 16 ^ m % 16 = c) (h : L[c / 4]? = none) : doz T R b a pg ld L (m + 1) v ps wh = [] := by
  subst hc
  unfold doz
  rw [h]
theorem doz_f {T R b : Nat} {a : at_T} {pg : pg_T} {ld : Nat → Nat} {L : List Nat} {m v c k : Nat} {ps : ps_T} {wh : wh_T} (hc : v / 16 ^ m % 16 = c) (h : L[c / 4]? = some k) (h2 : ¬ (c % 4 < R ∧ okc T b a pg ld ps wh (k, c % 4) = true)) : doz T R b a pg ld L (m + 1) v ps wh = [] := by
  subst hc
  unfold doz
  rw [h]
  dsimp only
  rw [if_neg h2]
theorem doz_t {T R b : Nat} {a : at_T} {pg : pg_T} {ld : Nat → Nat} {L : List Nat} {m v c k : Nat} {ps : ps_T} {wh : wh_T} (hc : v / 16 ^ m % 16 = c) (h : L[c / 4]? = some k) (h2 : c % 4 < R ∧ okc T b a pg ld ps wh (k, c % 4) = true) : doz T R b a pg ld L (m + 1) v ps wh = (k, c % 4) :: doz T R b a pg ld L m v (va_up ps k (some (b, c % 4, hgt wh b (c % 4) T))) (up3 wh b (c % 4) (hgt wh b (c % 4) T) (some k)) := by
  subst hc
  rw [doz.eq_2, h]
  dsimp only
  rw [if_pos h2]
theorem doz_v {T R b : Nat} {a : at_T} {pg : pg_T} {ld : Nat → Nat} {L : List Nat} : ∀ (m v : Nat) (ps : ps_T) (wh : wh_T), vld T R b a pg ld L (doz T R b a pg ld L m v ps wh) ps wh
  | 0, _, _, _ => trivial
  | m + 1, v, ps, wh => by
    cases h : L[v / 16 ^ m % 16 / 4]? with
    | none => rw [doz_n rfl h]; trivial
    | some k =>
      by_cases h2 : v / 16 ^ m % 16 % 4 < R ∧ okc T b a pg ld ps wh (k, v / 16 ^ m % 16 % 4) = true
      · rw [doz_t rfl h h2]
        exact ⟨⟨List.mem_of_getElem? h, h2.1, h2.2⟩, doz_v m v _ _⟩
      · rw [doz_f rfl h h2]; trivial
theorem doz_le {T R b : Nat} {a : at_T} {pg : pg_T} {ld : Nat → Nat} {L : List Nat} : ∀ (m v : Nat) (ps : ps_T) (wh : wh_T), (doz T R b a pg ld L m v ps wh).length ≤ m
  | 0, _, _, _ => Nat.le_refl _
  | m + 1, v, ps, wh => by
    cases h : L[v / 16 ^ m % 16 / 4]? with
    | none => rw [doz_n rfl h]; exact Nat.zero_le _
    | some k =>
      by_cases h2 : v / 16 ^ m % 16 % 4 < R ∧ okc T b a pg ld ps wh (k, v / 16 ^ m % 16 % 4) = true
      · rw [doz_t rfl h h2]
        exact Nat.succ_le_succ (doz_le m v _ _)
      · rw [doz_f rfl h h2]; exact Nat.zero_le _
section M7
variable {th B R T n : Nat} {a : at_T} {ps : ps_T} {wh : wh_T} {pg : pg_T} {ld : Nat → Nat} {ap : Nat → Nat → Bool} {my : Nat → Nat} {mc : Nat} {bs : Nat → Nat} {X : pm_A × (Nat × Nat)} {S : pm_S} {d : Nat}
set_option maxRecDepth 20000 in
theorem m130 (hz : dz B R T n) (ha : az n a) (hp : pz B R T n a ps) (hw : wz B R T n wh) (hl : lz ld) {k b r : Nat} (hk : k < n) (hb : b < B) (hr : r < R) : fr S (d + 4) (130, 0, [.ref (g1 1), .int (w k), .int (w b), .int (w r), pm_U], []) (MM th B R T n a ps wh pg ld ap my mc bs X) = some (.inl (some (.int (if okc T b a pg ld ps wh (k, r) = true then w 1 else w 0))), (MM th B R T n a ps wh pg ld ap my mc bs X)) := by
  have hn := hz.2.2.2.2.2.2
  have hB := hz.2.1
  have hR := hz.2.2.2.1
  have hT := hz.2.2.2.2.2.1
  have hB1 := hz.1
  have hR1 := hz.2.2.1
  have hT1 := hz.2.2.2.2.1
  have hs := (ha k hk).2.2.2
  have hle := hgt_le wh b r T
  cases h0 : ps k with
  | some q =>
    obtain ⟨b', r', t'⟩ := q
    obtain ⟨_, hb', hr', ht', _⟩ := hp k b' r' t' h0
    have hm' := me_lt (b := b') (r := r') (t := t') (by omega) (by omega) (by omega)
    rw [if_neg (by rw [okc_eq, h0]; exact fun z => nomatch z.1)]
    simp (disch := first | assumption | exact pm_g0_ne1 _ | exact bn_ne1 _ | exact pm_g1_ne1 _ | omega) only [f130_0, f130_1, f130_2, f130_3, f130_6, f130_8, f130_9, f130_12, f130_13, f130_14, f130_15, f130_18, f130_20, f130_21, f130_24, f130_27, f130_28, f130_29, f130_30, f130_31, f130_33, f130_36, f130_39, f130_40, f130_41, f130_42, f130_43, f130_45, f130_48, f130_51, f130_52, f130_55, f130_56, f130_57, f130_58, f130_61, f130_62, f130_65, f130_66, f130_67, f130_69, f130_72, f130_73, f130_76, f130_77, f130_80, f130_81, List.getD_cons_zero, List.getD_cons_succ, List.set_cons_zero, List.set_cons_succ, List.length_cons, List.length_nil, pm_ty_i, pm_ty_l, pm_ty_n, pm_ty_r, pm_ty_u, pm_ty_q, pm_fit_i, pm_fit_l, pm_fit_n, pm_fit_r, pm_fit_q, pm_fit3_0, pm_fit3_1, ag_0, ag_s, List.headD_cons, List.cons_append, List.nil_append, Option.toList_some, Option.toList_none, if_true, if_false, ite_true, ite_false, ↓reduceIte, and_true, true_and, and_self, or_true, true_or, or_false, false_or, not_true_eq_false, not_false_eq_true, Nat.reduceLT, Nat.reduceLeDiff, Nat.reduceEqDiff, Nat.reduceAdd, Nat.reduceSub, reduceCtorEq, i_0, i_1, i_2, i_3, i_4, i_5, i_6, i_7, i_8, i_10, i_16, i_20, i_40, i_80, i_200, i_1000, i_m1, w_lt_t, w_lt_f, w_le_t, w_le_f, w_eq_t, w_eq_f, w_add, w_mul, w_sub, w_clamp, w_ne_m1, m1_lt, m1_le, w_lt_m1, w_le_m1, rf_null, rf_none, rf_some, Option.map_none, Option.map_some, Option.bind_some, el_i, el_r, w_div, w_dec0, w_inc_m1, el_l, ev_i, ev_l, ev_n, ev_r, gm_1, gm_2, gm_3, gm_4, gm_5, gm_6, gm_7, gm_8, gm_9, gm_10, gm_11, gm_12, om_1, sm_th, sm_mc, sm_6s, sm_6n, sm_7n, sm_7s, sm_9, sm_11, sm_12, sm_8f, sm_8t, sm_10f, sm_10t, sq_i, ev_z0, ev_z1, if_pos, if_neg, m129 hz hw, h0, mcl_s]
  | none =>
    by_cases h1 : hgt wh b r T < T
    · cases h2 : hvy a wh ld k b r (hgt wh b r T) with
      | true =>
        rw [if_neg (by rw [okc_eq, h2]; exact fun z => nomatch z.2.2.1)]
        simp (disch := first | assumption | exact pm_g0_ne1 _ | exact bn_ne1 _ | exact pm_g1_ne1 _ | omega) only [f130_0, f130_1, f130_2, f130_3, f130_6, f130_8, f130_9, f130_12, f130_13, f130_14, f130_15, f130_18, f130_20, f130_21, f130_24, f130_27, f130_28, f130_29, f130_30, f130_31, f130_33, f130_36, f130_39, f130_40, f130_41, f130_42, f130_43, f130_45, f130_48, f130_51, f130_52, f130_55, f130_56, f130_57, f130_58, f130_61, f130_62, f130_65, f130_66, f130_67, f130_69, f130_72, f130_73, f130_76, f130_77, f130_80, f130_81, List.getD_cons_zero, List.getD_cons_succ, List.set_cons_zero, List.set_cons_succ, List.length_cons, List.length_nil, pm_ty_i, pm_ty_l, pm_ty_n, pm_ty_r, pm_ty_u, pm_ty_q, pm_fit_i, pm_fit_l, pm_fit_n, pm_fit_r, pm_fit_q, pm_fit3_0, pm_fit3_1, ag_0, ag_s, List.headD_cons, List.cons_append, List.nil_append, Option.toList_some, Option.toList_none, if_true, if_false, ite_true, ite_false, ↓reduceIte, and_true, true_and, and_self, or_true, true_or, or_false, false_or, not_true_eq_false, not_false_eq_true, Nat.reduceLT, Nat.reduceLeDiff, Nat.reduceEqDiff, Nat.reduceAdd, Nat.reduceSub, reduceCtorEq, i_0, i_1, i_2, i_3, i_4, i_5, i_6, i_7, i_8, i_10, i_16, i_20, i_40, i_80, i_200, i_1000, i_m1, w_lt_t, w_lt_f, w_le_t, w_le_f, w_eq_t, w_eq_f, w_add, w_mul, w_sub, w_clamp, w_ne_m1, m1_lt, m1_le, w_lt_m1, w_le_m1, rf_null, rf_none, rf_some, Option.map_none, Option.map_some, Option.bind_some, el_i, el_r, w_div, w_dec0, w_inc_m1, el_l, ev_i, ev_l, ev_n, ev_r, gm_1, gm_2, gm_3, gm_4, gm_5, gm_6, gm_7, gm_8, gm_9, gm_10, gm_11, gm_12, om_1, sm_th, sm_mc, sm_6s, sm_6n, sm_7n, sm_7s, sm_9, sm_11, sm_12, sm_8f, sm_8t, sm_10f, sm_10t, sq_i, ev_z0, ev_z1, if_pos, if_neg, m129 hz hw, m131 hz ha hw hl, h0, mcl_n, h2]
      | false =>
        cases h3 : ltr a wh k b r (hgt wh b r T) with
        | true =>
          rw [if_neg (by rw [okc_eq, h3]; exact fun z => nomatch z.2.2.2.1)]
          simp (disch := first | assumption | exact pm_g0_ne1 _ | exact bn_ne1 _ | exact pm_g1_ne1 _ | omega) only [f130_0, f130_1, f130_2, f130_3, f130_6, f130_8, f130_9, f130_12, f130_13, f130_14, f130_15, f130_18, f130_20, f130_21, f130_24, f130_27, f130_28, f130_29, f130_30, f130_31, f130_33, f130_36, f130_39, f130_40, f130_41, f130_42, f130_43, f130_45, f130_48, f130_51, f130_52, f130_55, f130_56, f130_57, f130_58, f130_61, f130_62, f130_65, f130_66, f130_67, f130_69, f130_72, f130_73, f130_76, f130_77, f130_80, f130_81, List.getD_cons_zero, List.getD_cons_succ, List.set_cons_zero, List.set_cons_succ, List.length_cons, List.length_nil, pm_ty_i, pm_ty_l, pm_ty_n, pm_ty_r, pm_ty_u, pm_ty_q, pm_fit_i, pm_fit_l, pm_fit_n, pm_fit_r, pm_fit_q, pm_fit3_0, pm_fit3_1, ag_0, ag_s, List.headD_cons, List.cons_append, List.nil_append, Option.toList_some, Option.toList_none, if_true, if_false, ite_true, ite_false, ↓reduceIte, and_true, true_and, and_self, or_true, true_or, or_false, false_or, not_true_eq_false, not_false_eq_true, Nat.reduceLT, Nat.reduceLeDiff, Nat.reduceEqDiff, Nat.reduceAdd, Nat.reduceSub, reduceCtorEq, i_0, i_1, i_2, i_3, i_4, i_5, i_6, i_7, i_8, i_10, i_16, i_20, i_40, i_80, i_200, i_1000, i_m1, w_lt_t, w_lt_f, w_le_t, w_le_f, w_eq_t, w_eq_f, w_add, w_mul, w_sub, w_clamp, w_ne_m1, m1_lt, m1_le, w_lt_m1, w_le_m1, rf_null, rf_none, rf_some, Option.map_none, Option.map_some, Option.bind_some, el_i, el_r, w_div, w_dec0, w_inc_m1, el_l, ev_i, ev_l, ev_n, ev_r, gm_1, gm_2, gm_3, gm_4, gm_5, gm_6, gm_7, gm_8, gm_9, gm_10, gm_11, gm_12, om_1, sm_th, sm_mc, sm_6s, sm_6n, sm_7n, sm_7s, sm_9, sm_11, sm_12, sm_8f, sm_8t, sm_10f, sm_10t, sq_i, ev_z0, ev_z1, if_pos, if_neg, m129 hz hw, m131 hz ha hw hl, m119 hz ha hw, h0, mcl_n, h2, h3, Bool.false_eq_true]
        | false =>
          by_cases h4 : (a k).2.2.2 = 1
          · cases h5 : pg b r (hgt wh b r T) with
            | true =>
              rw [if_pos (by rw [okc_eq, h5]; exact ⟨h0, h1, h2, h3, fun z => nomatch z.2⟩)]
              have hm := me_lt (b := b) (r := r) (t := hgt wh b r T) (by omega) (by omega) (by omega)
              have e1 := me_b (b := b) (r := r) (t := hgt wh b r T) (by omega) (by omega)
              have e2 := me_r (b := b) (r := r) (t := hgt wh b r T) (by omega) (by omega)
              have e3 := me_t (b := b) (r := r) (t := hgt wh b r T) (by omega)
              simp (disch := first | assumption | exact pm_g0_ne1 _ | exact bn_ne1 _ | exact pm_g1_ne1 _ | omega) only [f130_0, f130_1, f130_2, f130_3, f130_6, f130_8, f130_9, f130_12, f130_13, f130_14, f130_15, f130_18, f130_20, f130_21, f130_24, f130_27, f130_28, f130_29, f130_30, f130_31, f130_33, f130_36, f130_39, f130_40, f130_41, f130_42, f130_43, f130_45, f130_48, f130_51, f130_52, f130_55, f130_56, f130_57, f130_58, f130_61, f130_62, f130_65, f130_66, f130_67, f130_69, f130_72, f130_73, f130_76, f130_77, f130_80, f130_81, List.getD_cons_zero, List.getD_cons_succ, List.set_cons_zero, List.set_cons_succ, List.length_cons, List.length_nil, pm_ty_i, pm_ty_l, pm_ty_n, pm_ty_r, pm_ty_u, pm_ty_q, pm_fit_i, pm_fit_l, pm_fit_n, pm_fit_r, pm_fit_q, pm_fit3_0, pm_fit3_1, ag_0, ag_s, List.headD_cons, List.cons_append, List.nil_append, Option.toList_some, Option.toList_none, if_true, if_false, ite_true, ite_false, ↓reduceIte, and_true, true_and, and_self, or_true, true_or, or_false, false_or, not_true_eq_false, not_false_eq_true, Nat.reduceLT, Nat.reduceLeDiff, Nat.reduceEqDiff, Nat.reduceAdd, Nat.reduceSub, reduceCtorEq, i_0, i_1, i_2, i_3, i_4, i_5, i_6, i_7, i_8, i_10, i_16, i_20, i_40, i_80, i_200, i_1000, i_m1, w_lt_t, w_lt_f, w_le_t, w_le_f, w_eq_t, w_eq_f, w_add, w_mul, w_sub, w_clamp, w_ne_m1, m1_lt, m1_le, w_lt_m1, w_le_m1, rf_null, rf_none, rf_some, Option.map_none, Option.map_some, Option.bind_some, el_i, el_r, w_div, w_dec0, w_inc_m1, el_l, ev_i, ev_l, ev_n, ev_r, gm_1, gm_2, gm_3, gm_4, gm_5, gm_6, gm_7, gm_8, gm_9, gm_10, gm_11, gm_12, om_1, sm_th, sm_mc, sm_6s, sm_6n, sm_7n, sm_7s, sm_9, sm_11, sm_12, sm_8f, sm_8t, sm_10f, sm_10t, sq_i, ev_z0, ev_z1, if_pos, if_neg, m129 hz hw, m131 hz ha hw hl, m119 hz ha hw, m108, e1, e2, e3, h0, mcl_n, h2, h3, Bool.false_eq_true, h5, bi_t]
            | false =>
              rw [if_neg (by rw [okc_eq, h5]; exact fun z => z.2.2.2.2 ⟨h4, rfl⟩)]
              have hm := me_lt (b := b) (r := r) (t := hgt wh b r T) (by omega) (by omega) (by omega)
              have e1 := me_b (b := b) (r := r) (t := hgt wh b r T) (by omega) (by omega)
              have e2 := me_r (b := b) (r := r) (t := hgt wh b r T) (by omega) (by omega)
              have e3 := me_t (b := b) (r := r) (t := hgt wh b r T) (by omega)
              simp (disch := first | assumption | exact pm_g0_ne1 _ | exact bn_ne1 _ | exact pm_g1_ne1 _ | omega) only [f130_0, f130_1, f130_2, f130_3, f130_6, f130_8, f130_9, f130_12, f130_13, f130_14, f130_15, f130_18, f130_20, f130_21, f130_24, f130_27, f130_28, f130_29, f130_30, f130_31, f130_33, f130_36, f130_39, f130_40, f130_41, f130_42, f130_43, f130_45, f130_48, f130_51, f130_52, f130_55, f130_56, f130_57, f130_58, f130_61, f130_62, f130_65, f130_66, f130_67, f130_69, f130_72, f130_73, f130_76, f130_77, f130_80, f130_81, List.getD_cons_zero, List.getD_cons_succ, List.set_cons_zero, List.set_cons_succ, List.length_cons, List.length_nil, pm_ty_i, pm_ty_l, pm_ty_n, pm_ty_r, pm_ty_u, pm_ty_q, pm_fit_i, pm_fit_l, pm_fit_n, pm_fit_r, pm_fit_q, pm_fit3_0, pm_fit3_1, ag_0, ag_s, List.headD_cons, List.cons_append, List.nil_append, Option.toList_some, Option.toList_none, if_true, if_false, ite_true, ite_false, ↓reduceIte, and_true, true_and, and_self, or_true, true_or, or_false, false_or, not_true_eq_false, not_false_eq_true, Nat.reduceLT, Nat.reduceLeDiff, Nat.reduceEqDiff, Nat.reduceAdd, Nat.reduceSub, reduceCtorEq, i_0, i_1, i_2, i_3, i_4, i_5, i_6, i_7, i_8, i_10, i_16, i_20, i_40, i_80, i_200, i_1000, i_m1, w_lt_t, w_lt_f, w_le_t, w_le_f, w_eq_t, w_eq_f, w_add, w_mul, w_sub, w_clamp, w_ne_m1, m1_lt, m1_le, w_lt_m1, w_le_m1, rf_null, rf_none, rf_some, Option.map_none, Option.map_some, Option.bind_some, el_i, el_r, w_div, w_dec0, w_inc_m1, el_l, ev_i, ev_l, ev_n, ev_r, gm_1, gm_2, gm_3, gm_4, gm_5, gm_6, gm_7, gm_8, gm_9, gm_10, gm_11, gm_12, om_1, sm_th, sm_mc, sm_6s, sm_6n, sm_7n, sm_7s, sm_9, sm_11, sm_12, sm_8f, sm_8t, sm_10f, sm_10t, sq_i, ev_z0, ev_z1, if_pos, if_neg, m129 hz hw, m131 hz ha hw hl, m119 hz ha hw, m108, e1, e2, e3, h0, mcl_n, h2, h3, Bool.false_eq_true, h5, bi_f]
          · rw [if_pos (by rw [okc_eq]; exact ⟨h0, h1, h2, h3, fun z => h4 z.1⟩)]
            simp (disch := first | assumption | exact pm_g0_ne1 _ | exact bn_ne1 _ | exact pm_g1_ne1 _ | omega) only [f130_0, f130_1, f130_2, f130_3, f130_6, f130_8, f130_9, f130_12, f130_13, f130_14, f130_15, f130_18, f130_20, f130_21, f130_24, f130_27, f130_28, f130_29, f130_30, f130_31, f130_33, f130_36, f130_39, f130_40, f130_41, f130_42, f130_43, f130_45, f130_48, f130_51, f130_52, f130_55, f130_56, f130_57, f130_58, f130_61, f130_62, f130_65, f130_66, f130_67, f130_69, f130_72, f130_73, f130_76, f130_77, f130_80, f130_81, List.getD_cons_zero, List.getD_cons_succ, List.set_cons_zero, List.set_cons_succ, List.length_cons, List.length_nil, pm_ty_i, pm_ty_l, pm_ty_n, pm_ty_r, pm_ty_u, pm_ty_q, pm_fit_i, pm_fit_l, pm_fit_n, pm_fit_r, pm_fit_q, pm_fit3_0, pm_fit3_1, ag_0, ag_s, List.headD_cons, List.cons_append, List.nil_append, Option.toList_some, Option.toList_none, if_true, if_false, ite_true, ite_false, ↓reduceIte, and_true, true_and, and_self, or_true, true_or, or_false, false_or, not_true_eq_false, not_false_eq_true, Nat.reduceLT, Nat.reduceLeDiff, Nat.reduceEqDiff, Nat.reduceAdd, Nat.reduceSub, reduceCtorEq, i_0, i_1, i_2, i_3, i_4, i_5, i_6, i_7, i_8, i_10, i_16, i_20, i_40, i_80, i_200, i_1000, i_m1, w_lt_t, w_lt_f, w_le_t, w_le_f, w_eq_t, w_eq_f, w_add, w_mul, w_sub, w_clamp, w_ne_m1, m1_lt, m1_le, w_lt_m1, w_le_m1, rf_null, rf_none, rf_some, Option.map_none, Option.map_some, Option.bind_some, el_i, el_r, w_div, w_dec0, w_inc_m1, el_l, ev_i, ev_l, ev_n, ev_r, gm_1, gm_2, gm_3, gm_4, gm_5, gm_6, gm_7, gm_8, gm_9, gm_10, gm_11, gm_12, om_1, sm_th, sm_mc, sm_6s, sm_6n, sm_7n, sm_7s, sm_9, sm_11, sm_12, sm_8f, sm_8t, sm_10f, sm_10t, sq_i, ev_z0, ev_z1, if_pos, if_neg, m129 hz hw, m131 hz ha hw hl, m119 hz ha hw, h0, mcl_n, h2, h3, Bool.false_eq_true]
    · rw [if_neg (by rw [okc_eq]; exact fun z => h1 z.2.1)]
      simp (disch := first | assumption | exact pm_g0_ne1 _ | exact bn_ne1 _ | exact pm_g1_ne1 _ | omega) only [f130_0, f130_1, f130_2, f130_3, f130_6, f130_8, f130_9, f130_12, f130_13, f130_14, f130_15, f130_18, f130_20, f130_21, f130_24, f130_27, f130_28, f130_29, f130_30, f130_31, f130_33, f130_36, f130_39, f130_40, f130_41, f130_42, f130_43, f130_45, f130_48, f130_51, f130_52, f130_55, f130_56, f130_57, f130_58, f130_61, f130_62, f130_65, f130_66, f130_67, f130_69, f130_72, f130_73, f130_76, f130_77, f130_80, f130_81, List.getD_cons_zero, List.getD_cons_succ, List.set_cons_zero, List.set_cons_succ, List.length_cons, List.length_nil, pm_ty_i, pm_ty_l, pm_ty_n, pm_ty_r, pm_ty_u, pm_ty_q, pm_fit_i, pm_fit_l, pm_fit_n, pm_fit_r, pm_fit_q, pm_fit3_0, pm_fit3_1, ag_0, ag_s, List.headD_cons, List.cons_append, List.nil_append, Option.toList_some, Option.toList_none, if_true, if_false, ite_true, ite_false, ↓reduceIte, and_true, true_and, and_self, or_true, true_or, or_false, false_or, not_true_eq_false, not_false_eq_true, Nat.reduceLT, Nat.reduceLeDiff, Nat.reduceEqDiff, Nat.reduceAdd, Nat.reduceSub, reduceCtorEq, i_0, i_1, i_2, i_3, i_4, i_5, i_6, i_7, i_8, i_10, i_16, i_20, i_40, i_80, i_200, i_1000, i_m1, w_lt_t, w_lt_f, w_le_t, w_le_f, w_eq_t, w_eq_f, w_add, w_mul, w_sub, w_clamp, w_ne_m1, m1_lt, m1_le, w_lt_m1, w_le_m1, rf_null, rf_none, rf_some, Option.map_none, Option.map_some, Option.bind_some, el_i, el_r, w_div, w_dec0, w_inc_m1, el_l, ev_i, ev_l, ev_n, ev_r, gm_1, gm_2, gm_3, gm_4, gm_5, gm_6, gm_7, gm_8, gm_9, gm_10, gm_11, gm_12, om_1, sm_th, sm_mc, sm_6s, sm_6n, sm_7n, sm_7s, sm_9, sm_11, sm_12, sm_8f, sm_8t, sm_10f, sm_10t, sq_i, ev_z0, ev_z1, if_pos, if_neg, m129 hz hw, h0, mcl_n]
set_option maxRecDepth 20000 in
theorem m132d (hz : dz B R T n) {b v len : Nat} (hv : v < 65536) (hlen : len ≤ 4) (hmc : mc ≤ 4) (hmy : ∀ j, j < mc → my j < 40) : ∀ (m q : Nat) (v6 v7 v8 v9 : Value), q + m < len → fr S (d + 5) (132, 8, [.ref (g1 1), .int (w b), .int (w v), .int (w len), .int (w q), .int (ix m), v6, v7, v8, v9], []) (MM th B R T n a ps wh pg ld ap my mc bs X) = some (.inl (some (.int (w q))), (MM th B R T n a ps wh pg ld ap my mc bs X)) := by
  have hn := hz.2.2.2.2.2.2
  have hB := hz.2.1
  have hR := hz.2.2.2.1
  have hT := hz.2.2.2.2.2.1
  have hB1 := hz.1
  have hR1 := hz.2.2.1
  have hT1 := hz.2.2.2.2.1
  intro m
  induction m with
  | zero =>
    intro q v6 v7 v8 v9 hq
    rw [f132_8]
    simp (disch := first | assumption | exact pm_g0_ne1 _ | exact bn_ne1 _ | exact pm_g1_ne1 _ | omega) only [f132_10, f132_13, f132_14, f132_15, f132_17, f132_18, f132_19, f132_21, f132_22, f132_24, f132_26, f132_27, f132_28, f132_29, f132_32, f132_35, f132_36, f132_39, f132_41, f132_42, f132_43, f132_44, f132_47, f132_48, f132_50, f132_52, f132_53, f132_54, f132_56, f132_58, f132_61, f132_63, f132_64, f132_67, f132_70, f132_72, f132_73, f132_74, f132_75, f132_77, f132_78, f132_81, f132_82, f132_84, f132_85, f132_87, f132_90, f132_93, f132_96, f132_97, f132_99, f132_100, f132_101, f132_103, f132_106, f132_109, f132_111, f132_112, f132_115, f132_117, f132_119, f132_120, f132_121, f132_123, f132_125, f132_127, f132_130, f132_131, f132_134, f132_136, f132_138, f132_139, f132_142, f132_145, f132_148, f132_150, List.getD_cons_zero, List.getD_cons_succ, List.set_cons_zero, List.set_cons_succ, List.length_cons, List.length_nil, pm_ty_i, pm_ty_l, pm_ty_n, pm_ty_r, pm_ty_u, pm_ty_q, pm_fit_i, pm_fit_l, pm_fit_n, pm_fit_r, pm_fit_q, pm_fit3_0, pm_fit3_1, ag_0, ag_s, List.headD_cons, List.cons_append, List.nil_append, Option.toList_some, Option.toList_none, if_true, if_false, ite_true, ite_false, ↓reduceIte, and_true, true_and, and_self, or_true, true_or, or_false, false_or, not_true_eq_false, not_false_eq_true, Nat.reduceLT, Nat.reduceLeDiff, Nat.reduceEqDiff, Nat.reduceAdd, Nat.reduceSub, reduceCtorEq, i_0, i_1, i_2, i_3, i_4, i_5, i_6, i_7, i_8, i_10, i_16, i_20, i_40, i_80, i_200, i_1000, i_m1, w_lt_t, w_lt_f, w_le_t, w_le_f, w_eq_t, w_eq_f, w_add, w_mul, w_sub, w_clamp, w_ne_m1, m1_lt, m1_le, w_lt_m1, w_le_m1, rf_null, rf_none, rf_some, Option.map_none, Option.map_some, Option.bind_some, el_i, el_r, w_div, w_dec0, w_inc_m1, el_l, ev_i, ev_l, ev_n, ev_r, gm_1, gm_2, gm_3, gm_4, gm_5, gm_6, gm_7, gm_8, gm_9, gm_10, gm_11, gm_12, om_1, sm_th, sm_mc, sm_6s, sm_6n, sm_7n, sm_7s, sm_9, sm_11, sm_12, sm_8f, sm_8t, sm_10f, sm_10t, sq_i, ev_z0, ev_z1, if_pos, if_neg, ix_0]
  | succ m ih =>
    intro q v6 v7 v8 v9 hq
    obtain ⟨c, hc, hdig⟩ : ∃ c, c < 16 ∧ (w v >>> (w (4 * m) &&& 31)) &&& w 15 = w c := ⟨_, Nat.mod_lt _ (by omega), w_dig hv (by omega)⟩
    rw [f132_8]
    by_cases h1 : c / 4 < mc
    · have h3 := hmy (c / 4) h1
      by_cases h2 : c - c / 4 * 4 < R
      · simp (disch := first | assumption | exact pm_g0_ne1 _ | exact bn_ne1 _ | exact pm_g1_ne1 _ | omega) only [f132_10, f132_13, f132_14, f132_15, f132_17, f132_18, f132_19, f132_21, f132_22, f132_24, f132_26, f132_27, f132_28, f132_29, f132_32, f132_35, f132_36, f132_39, f132_41, f132_42, f132_43, f132_44, f132_47, f132_48, f132_50, f132_52, f132_53, f132_54, f132_56, f132_58, f132_61, f132_63, f132_64, f132_67, f132_70, f132_72, f132_73, f132_74, f132_75, f132_77, f132_78, f132_81, f132_82, f132_84, f132_85, f132_87, f132_90, f132_93, f132_96, f132_97, f132_99, f132_100, f132_101, f132_103, f132_106, f132_109, f132_111, f132_112, f132_115, f132_117, f132_119, f132_120, f132_121, f132_123, f132_125, f132_127, f132_130, f132_131, f132_134, f132_136, f132_138, f132_139, f132_142, f132_145, f132_148, f132_150, List.getD_cons_zero, List.getD_cons_succ, List.set_cons_zero, List.set_cons_succ, List.length_cons, List.length_nil, pm_ty_i, pm_ty_l, pm_ty_n, pm_ty_r, pm_ty_u, pm_ty_q, pm_fit_i, pm_fit_l, pm_fit_n, pm_fit_r, pm_fit_q, pm_fit3_0, pm_fit3_1, ag_0, ag_s, List.headD_cons, List.cons_append, List.nil_append, Option.toList_some, Option.toList_none, if_true, if_false, ite_true, ite_false, ↓reduceIte, and_true, true_and, and_self, or_true, true_or, or_false, false_or, not_true_eq_false, not_false_eq_true, Nat.reduceLT, Nat.reduceLeDiff, Nat.reduceEqDiff, Nat.reduceAdd, Nat.reduceSub, reduceCtorEq, i_0, i_1, i_2, i_3, i_4, i_5, i_6, i_7, i_8, i_10, i_16, i_20, i_40, i_80, i_200, i_1000, i_m1, w_lt_t, w_lt_f, w_le_t, w_le_f, w_eq_t, w_eq_f, w_add, w_mul, w_sub, w_clamp, w_ne_m1, m1_lt, m1_le, w_lt_m1, w_le_m1, rf_null, rf_none, rf_some, Option.map_none, Option.map_some, Option.bind_some, el_i, el_r, w_div, w_dec0, w_inc_m1, el_l, ev_i, ev_l, ev_n, ev_r, gm_1, gm_2, gm_3, gm_4, gm_5, gm_6, gm_7, gm_8, gm_9, gm_10, gm_11, gm_12, om_1, sm_th, sm_mc, sm_6s, sm_6n, sm_7n, sm_7s, sm_9, sm_11, sm_12, sm_8f, sm_8t, sm_10f, sm_10t, sq_i, ev_z0, ev_z1, if_pos, if_neg, ix_s, i_15, hdig, dn]
        exact ih q _ _ _ _ (by omega)
      · simp (disch := first | assumption | exact pm_g0_ne1 _ | exact bn_ne1 _ | exact pm_g1_ne1 _ | omega) only [f132_10, f132_13, f132_14, f132_15, f132_17, f132_18, f132_19, f132_21, f132_22, f132_24, f132_26, f132_27, f132_28, f132_29, f132_32, f132_35, f132_36, f132_39, f132_41, f132_42, f132_43, f132_44, f132_47, f132_48, f132_50, f132_52, f132_53, f132_54, f132_56, f132_58, f132_61, f132_63, f132_64, f132_67, f132_70, f132_72, f132_73, f132_74, f132_75, f132_77, f132_78, f132_81, f132_82, f132_84, f132_85, f132_87, f132_90, f132_93, f132_96, f132_97, f132_99, f132_100, f132_101, f132_103, f132_106, f132_109, f132_111, f132_112, f132_115, f132_117, f132_119, f132_120, f132_121, f132_123, f132_125, f132_127, f132_130, f132_131, f132_134, f132_136, f132_138, f132_139, f132_142, f132_145, f132_148, f132_150, List.getD_cons_zero, List.getD_cons_succ, List.set_cons_zero, List.set_cons_succ, List.length_cons, List.length_nil, pm_ty_i, pm_ty_l, pm_ty_n, pm_ty_r, pm_ty_u, pm_ty_q, pm_fit_i, pm_fit_l, pm_fit_n, pm_fit_r, pm_fit_q, pm_fit3_0, pm_fit3_1, ag_0, ag_s, List.headD_cons, List.cons_append, List.nil_append, Option.toList_some, Option.toList_none, if_true, if_false, ite_true, ite_false, ↓reduceIte, and_true, true_and, and_self, or_true, true_or, or_false, false_or, not_true_eq_false, not_false_eq_true, Nat.reduceLT, Nat.reduceLeDiff, Nat.reduceEqDiff, Nat.reduceAdd, Nat.reduceSub, reduceCtorEq, i_0, i_1, i_2, i_3, i_4, i_5, i_6, i_7, i_8, i_10, i_16, i_20, i_40, i_80, i_200, i_1000, i_m1, w_lt_t, w_lt_f, w_le_t, w_le_f, w_eq_t, w_eq_f, w_add, w_mul, w_sub, w_clamp, w_ne_m1, m1_lt, m1_le, w_lt_m1, w_le_m1, rf_null, rf_none, rf_some, Option.map_none, Option.map_some, Option.bind_some, el_i, el_r, w_div, w_dec0, w_inc_m1, el_l, ev_i, ev_l, ev_n, ev_r, gm_1, gm_2, gm_3, gm_4, gm_5, gm_6, gm_7, gm_8, gm_9, gm_10, gm_11, gm_12, om_1, sm_th, sm_mc, sm_6s, sm_6n, sm_7n, sm_7s, sm_9, sm_11, sm_12, sm_8f, sm_8t, sm_10f, sm_10t, sq_i, ev_z0, ev_z1, if_pos, if_neg, ix_s, i_15, hdig, dn]
        exact ih q _ _ _ _ (by omega)
    · simp (disch := first | assumption | exact pm_g0_ne1 _ | exact bn_ne1 _ | exact pm_g1_ne1 _ | omega) only [f132_10, f132_13, f132_14, f132_15, f132_17, f132_18, f132_19, f132_21, f132_22, f132_24, f132_26, f132_27, f132_28, f132_29, f132_32, f132_35, f132_36, f132_39, f132_41, f132_42, f132_43, f132_44, f132_47, f132_48, f132_50, f132_52, f132_53, f132_54, f132_56, f132_58, f132_61, f132_63, f132_64, f132_67, f132_70, f132_72, f132_73, f132_74, f132_75, f132_77, f132_78, f132_81, f132_82, f132_84, f132_85, f132_87, f132_90, f132_93, f132_96, f132_97, f132_99, f132_100, f132_101, f132_103, f132_106, f132_109, f132_111, f132_112, f132_115, f132_117, f132_119, f132_120, f132_121, f132_123, f132_125, f132_127, f132_130, f132_131, f132_134, f132_136, f132_138, f132_139, f132_142, f132_145, f132_148, f132_150, List.getD_cons_zero, List.getD_cons_succ, List.set_cons_zero, List.set_cons_succ, List.length_cons, List.length_nil, pm_ty_i, pm_ty_l, pm_ty_n, pm_ty_r, pm_ty_u, pm_ty_q, pm_fit_i, pm_fit_l, pm_fit_n, pm_fit_r, pm_fit_q, pm_fit3_0, pm_fit3_1, ag_0, ag_s, List.headD_cons, List.cons_append, List.nil_append, Option.toList_some, Option.toList_none, if_true, if_false, ite_true, ite_false, ↓reduceIte, and_true, true_and, and_self, or_true, true_or, or_false, false_or, not_true_eq_false, not_false_eq_true, Nat.reduceLT, Nat.reduceLeDiff, Nat.reduceEqDiff, Nat.reduceAdd, Nat.reduceSub, reduceCtorEq, i_0, i_1, i_2, i_3, i_4, i_5, i_6, i_7, i_8, i_10, i_16, i_20, i_40, i_80, i_200, i_1000, i_m1, w_lt_t, w_lt_f, w_le_t, w_le_f, w_eq_t, w_eq_f, w_add, w_mul, w_sub, w_clamp, w_ne_m1, m1_lt, m1_le, w_lt_m1, w_le_m1, rf_null, rf_none, rf_some, Option.map_none, Option.map_some, Option.bind_some, el_i, el_r, w_div, w_dec0, w_inc_m1, el_l, ev_i, ev_l, ev_n, ev_r, gm_1, gm_2, gm_3, gm_4, gm_5, gm_6, gm_7, gm_8, gm_9, gm_10, gm_11, gm_12, om_1, sm_th, sm_mc, sm_6s, sm_6n, sm_7n, sm_7s, sm_9, sm_11, sm_12, sm_8f, sm_8t, sm_10f, sm_10t, sq_i, ev_z0, ev_z1, if_pos, if_neg, ix_s, i_15, hdig, dn]
      exact ih q _ _ _ _ (by omega)
theorem hmy_lt {L : List Nat} (hn : n ≤ 40) (hL : ∀ k ∈ L, k < n ∧ ¬ (a k).1 = 40) (hmy : ∀ j k, L[j]? = some k → my j = k) : ∀ j, j < L.length → my j < 40 := fun j hj => by
  have h1 : L[j]? = some L[j] := List.getElem?_eq_getElem hj
  rw [hmy j _ h1]
  have := (hL _ (List.getElem_mem hj)).1
  omega
set_option maxRecDepth 20000 in
theorem m132l (hz : dz B R T n) (ha : az n a) (hl : lz ld) {L : List Nat} (hL : ∀ k ∈ L, k < n ∧ ¬ (a k).1 = 40) (hL4 : L.length ≤ 4) (hmy : ∀ j k, L[j]? = some k → my j = k) {b v len : Nat} (hb : b < B) (hv : v < 65536) (hlen : len ≤ 4) : ∀ (m q : Nat) (ps : ps_T) (wh : wh_T) (bs : Nat → Nat) (v6 v7 v8 v9 : Value), q + m = len → jj B R T n a ps wh → ∃ bs' : Nat → Nat, (∀ i, i < q → bs' i = bs i) ∧ (∀ i s, (doz T R b a pg ld L m v ps wh)[i]? = some s → bs' (q + i) = s.1) ∧ fr S (d + 5) (132, 8, [.ref (g1 1), .int (w b), .int (w v), .int (w len), .int (w q), .int (ix m), v6, v7, v8, v9], []) (MM th B R T n a ps wh pg ld ap my L.length bs X) = some (.inl (some (.int (w (q + (doz T R b a pg ld L m v ps wh).length)))), (MM th B R T n a ((doz T R b a pg ld L m v ps wh).foldl (lay1 T b) (ps, wh)).1 ((doz T R b a pg ld L m v ps wh).foldl (lay1 T b) (ps, wh)).2 pg ld ap my L.length bs' X)) := by
  have hn := hz.2.2.2.2.2.2
  have hB := hz.2.1
  have hR := hz.2.2.2.1
  have hT := hz.2.2.2.2.2.1
  have hB1 := hz.1
  have hR1 := hz.2.2.1
  have hT1 := hz.2.2.2.2.1
  have hml := hmy_lt hn hL hmy
  intro m
  induction m with
  | zero =>
    intro q ps wh bs v6 v7 v8 v9 hq hj
    refine ⟨bs, fun _ _ => rfl, fun i s h => (nomatch h), ?_⟩
    rw [f132_8]
    simp (disch := first | assumption | exact pm_g0_ne1 _ | exact bn_ne1 _ | exact pm_g1_ne1 _ | omega) only [f132_10, f132_13, f132_14, f132_15, f132_17, f132_18, f132_19, f132_21, f132_22, f132_24, f132_26, f132_27, f132_28, f132_29, f132_32, f132_35, f132_36, f132_39, f132_41, f132_42, f132_43, f132_44, f132_47, f132_48, f132_50, f132_52, f132_53, f132_54, f132_56, f132_58, f132_61, f132_63, f132_64, f132_67, f132_70, f132_72, f132_73, f132_74, f132_75, f132_77, f132_78, f132_81, f132_82, f132_84, f132_85, f132_87, f132_90, f132_93, f132_96, f132_97, f132_99, f132_100, f132_101, f132_103, f132_106, f132_109, f132_111, f132_112, f132_115, f132_117, f132_119, f132_120, f132_121, f132_123, f132_125, f132_127, f132_130, f132_131, f132_134, f132_136, f132_138, f132_139, f132_142, f132_145, f132_148, f132_150, List.getD_cons_zero, List.getD_cons_succ, List.set_cons_zero, List.set_cons_succ, List.length_cons, List.length_nil, pm_ty_i, pm_ty_l, pm_ty_n, pm_ty_r, pm_ty_u, pm_ty_q, pm_fit_i, pm_fit_l, pm_fit_n, pm_fit_r, pm_fit_q, pm_fit3_0, pm_fit3_1, ag_0, ag_s, List.headD_cons, List.cons_append, List.nil_append, Option.toList_some, Option.toList_none, if_true, if_false, ite_true, ite_false, ↓reduceIte, and_true, true_and, and_self, or_true, true_or, or_false, false_or, not_true_eq_false, not_false_eq_true, Nat.reduceLT, Nat.reduceLeDiff, Nat.reduceEqDiff, Nat.reduceAdd, Nat.reduceSub, reduceCtorEq, i_0, i_1, i_2, i_3, i_4, i_5, i_6, i_7, i_8, i_10, i_16, i_20, i_40, i_80, i_200, i_1000, i_m1, w_lt_t, w_lt_f, w_le_t, w_le_f, w_eq_t, w_eq_f, w_add, w_mul, w_sub, w_clamp, w_ne_m1, m1_lt, m1_le, w_lt_m1, w_le_m1, rf_null, rf_none, rf_some, Option.map_none, Option.map_some, Option.bind_some, el_i, el_r, w_div, w_dec0, w_inc_m1, el_l, ev_i, ev_l, ev_n, ev_r, gm_1, gm_2, gm_3, gm_4, gm_5, gm_6, gm_7, gm_8, gm_9, gm_10, gm_11, gm_12, om_1, sm_th, sm_mc, sm_6s, sm_6n, sm_7n, sm_7s, sm_9, sm_11, sm_12, sm_8f, sm_8t, sm_10f, sm_10t, sq_i, ev_z0, ev_z1, if_pos, if_neg, ix_0]
    rfl
  | succ m ih =>
    intro q ps wh bs v6 v7 v8 v9 hq hj
    obtain ⟨c, hcv, hdig⟩ : ∃ c, v / 16 ^ m % 16 = c ∧ (w v >>> (w (4 * m) &&& 31)) &&& w 15 = w c := ⟨_, rfl, w_dig hv (by omega)⟩
    have hc : c < 16 := by rw [← hcv]; exact Nat.mod_lt _ (by omega)
    have hc4 : c - c / 4 * 4 = c % 4 := by omega
    cases h1 : L[c / 4]? with
    | none =>
      rw [doz_n hcv h1]
      refine ⟨bs, fun _ _ => rfl, fun i s h => (nomatch h), ?_⟩
      have h1' : ¬ c / 4 < L.length := Nat.not_lt.mpr (List.getElem?_eq_none_iff.mp h1)
      rw [f132_8]
      simp (disch := first | assumption | exact pm_g0_ne1 _ | exact bn_ne1 _ | exact pm_g1_ne1 _ | omega) only [f132_10, f132_13, f132_14, f132_15, f132_17, f132_18, f132_19, f132_21, f132_22, f132_24, f132_26, f132_27, f132_28, f132_29, f132_32, f132_35, f132_36, f132_39, f132_41, f132_42, f132_43, f132_44, f132_47, f132_48, f132_50, f132_52, f132_53, f132_54, f132_56, f132_58, f132_61, f132_63, f132_64, f132_67, f132_70, f132_72, f132_73, f132_74, f132_75, f132_77, f132_78, f132_81, f132_82, f132_84, f132_85, f132_87, f132_90, f132_93, f132_96, f132_97, f132_99, f132_100, f132_101, f132_103, f132_106, f132_109, f132_111, f132_112, f132_115, f132_117, f132_119, f132_120, f132_121, f132_123, f132_125, f132_127, f132_130, f132_131, f132_134, f132_136, f132_138, f132_139, f132_142, f132_145, f132_148, f132_150, List.getD_cons_zero, List.getD_cons_succ, List.set_cons_zero, List.set_cons_succ, List.length_cons, List.length_nil, pm_ty_i, pm_ty_l, pm_ty_n, pm_ty_r, pm_ty_u, pm_ty_q, pm_fit_i, pm_fit_l, pm_fit_n, pm_fit_r, pm_fit_q, pm_fit3_0, pm_fit3_1, ag_0, ag_s, List.headD_cons, List.cons_append, List.nil_append, Option.toList_some, Option.toList_none, if_true, if_false, ite_true, ite_false, ↓reduceIte, and_true, true_and, and_self, or_true, true_or, or_false, false_or, not_true_eq_false, not_false_eq_true, Nat.reduceLT, Nat.reduceLeDiff, Nat.reduceEqDiff, Nat.reduceAdd, Nat.reduceSub, reduceCtorEq, i_0, i_1, i_2, i_3, i_4, i_5, i_6, i_7, i_8, i_10, i_16, i_20, i_40, i_80, i_200, i_1000, i_m1, w_lt_t, w_lt_f, w_le_t, w_le_f, w_eq_t, w_eq_f, w_add, w_mul, w_sub, w_clamp, w_ne_m1, m1_lt, m1_le, w_lt_m1, w_le_m1, rf_null, rf_none, rf_some, Option.map_none, Option.map_some, Option.bind_some, el_i, el_r, w_div, w_dec0, w_inc_m1, el_l, ev_i, ev_l, ev_n, ev_r, gm_1, gm_2, gm_3, gm_4, gm_5, gm_6, gm_7, gm_8, gm_9, gm_10, gm_11, gm_12, om_1, sm_th, sm_mc, sm_6s, sm_6n, sm_7n, sm_7s, sm_9, sm_11, sm_12, sm_8f, sm_8t, sm_10f, sm_10t, sq_i, ev_z0, ev_z1, if_pos, if_neg, ix_s, i_15, hdig, dn, hc4]
      exact m132d hz hv hlen hL4 hml m q _ _ _ _ (by omega)
    | some k =>
      have hkL := List.mem_of_getElem? h1
      have h1' : c / 4 < L.length := by
        by_cases z : c / 4 < L.length
        · exact z
        · rw [List.getElem?_eq_none (Nat.not_lt.mp z)] at h1; exact nomatch h1
      have hk := (hL k hkL).1
      have hmk := hmy _ _ h1
      by_cases h2 : c % 4 < R
      · by_cases h3 : okc T b a pg ld ps wh (k, c % 4) = true
        · rw [doz_t hcv h1 ⟨h2, h3⟩]
          obtain ⟨h4, h5⟩ := ok_h h3
          have h4 : ps k = none := h4
          have h5 : hgt wh b (c % 4) T < T := h5
          obtain ⟨bs', g1, g2, g3⟩ := ih (q + 1) (va_up ps k (some (b, c % 4, hgt wh b (c % 4) T))) (up3 wh b (c % 4) (hgt wh b (c % 4) T) (some k)) (va_up bs q k) (.int (w c)) (.int (w k)) (.int (w (c % 4))) (.int (w (me b (c % 4) (hgt wh b (c % 4) T)))) (by omega) (jj_lay hj hk (hL k hkL).2 hb h2 h5 h4 (hgt_none h5))
          refine ⟨bs', fun i hi => by rw [g1 i (by omega), vup_ne _ _ (by omega)], fun i s hs => ?_, ?_⟩
          · cases i with
            | zero =>
              cases hs
              rw [Nat.add_zero, g1 q (by omega), vup_self]
            | succ i =>
              rw [show q + (i + 1) = q + 1 + i by omega]
              exact g2 i s hs
          · rw [fold_lay h3, List.length_cons, show ∀ x, q + (x + 1) = q + 1 + x from fun x => by omega]
            have h9 := m110s (S := S) (d := d + 4) (th := th) (ps := ps) (wh := wh) (pg := pg) (ld := ld) (ap := ap) (my := my) (mc := L.length) (bs := va_up bs q k) (X := X) hz ha hk hb h2 h5 (fun z => absurd z (hL k hkL).2)
            rw [upc_f (hL k hkL).2] at h9
            have hm := me_lt (b := b) (r := c % 4) (t := hgt wh b (c % 4) T) (by omega) (by omega) (by omega)
            have hk4 : k < 40 := by omega
            rw [f132_8]
            simp (disch := first | assumption | exact pm_g0_ne1 _ | exact bn_ne1 _ | exact pm_g1_ne1 _ | omega) only [f132_10, f132_13, f132_14, f132_15, f132_17, f132_18, f132_19, f132_21, f132_22, f132_24, f132_26, f132_27, f132_28, f132_29, f132_32, f132_35, f132_36, f132_39, f132_41, f132_42, f132_43, f132_44, f132_47, f132_48, f132_50, f132_52, f132_53, f132_54, f132_56, f132_58, f132_61, f132_63, f132_64, f132_67, f132_70, f132_72, f132_73, f132_74, f132_75, f132_77, f132_78, f132_81, f132_82, f132_84, f132_85, f132_87, f132_90, f132_93, f132_96, f132_97, f132_99, f132_100, f132_101, f132_103, f132_106, f132_109, f132_111, f132_112, f132_115, f132_117, f132_119, f132_120, f132_121, f132_123, f132_125, f132_127, f132_130, f132_131, f132_134, f132_136, f132_138, f132_139, f132_142, f132_145, f132_148, f132_150, List.getD_cons_zero, List.getD_cons_succ, List.set_cons_zero, List.set_cons_succ, List.length_cons, List.length_nil, pm_ty_i, pm_ty_l, pm_ty_n, pm_ty_r, pm_ty_u, pm_ty_q, pm_fit_i, pm_fit_l, pm_fit_n, pm_fit_r, pm_fit_q, pm_fit3_0, pm_fit3_1, ag_0, ag_s, List.headD_cons, List.cons_append, List.nil_append, Option.toList_some, Option.toList_none, if_true, if_false, ite_true, ite_false, ↓reduceIte, and_true, true_and, and_self, or_true, true_or, or_false, false_or, not_true_eq_false, not_false_eq_true, Nat.reduceLT, Nat.reduceLeDiff, Nat.reduceEqDiff, Nat.reduceAdd, Nat.reduceSub, reduceCtorEq, i_0, i_1, i_2, i_3, i_4, i_5, i_6, i_7, i_8, i_10, i_16, i_20, i_40, i_80, i_200, i_1000, i_m1, w_lt_t, w_lt_f, w_le_t, w_le_f, w_eq_t, w_eq_f, w_add, w_mul, w_sub, w_clamp, w_ne_m1, m1_lt, m1_le, w_lt_m1, w_le_m1, rf_null, rf_none, rf_some, Option.map_none, Option.map_some, Option.bind_some, el_i, el_r, w_div, w_dec0, w_inc_m1, el_l, ev_i, ev_l, ev_n, ev_r, gm_1, gm_2, gm_3, gm_4, gm_5, gm_6, gm_7, gm_8, gm_9, gm_10, gm_11, gm_12, om_1, sm_th, sm_mc, sm_6s, sm_6n, sm_7n, sm_7s, sm_9, sm_11, sm_12, sm_8f, sm_8t, sm_10f, sm_10t, sq_i, ev_z0, ev_z1, if_pos, if_neg, ix_s, i_15, hdig, dn, hc4, hmk, m130 hz ha hj.1 hj.2.1 hl, h3, m129 hz hj.2.1, m108, h9]
            exact g3
        · rw [doz_f hcv h1 (fun z => h3 z.2)]
          refine ⟨bs, fun _ _ => rfl, fun i s h => (nomatch h), ?_⟩
          rw [f132_8]
          simp (disch := first | assumption | exact pm_g0_ne1 _ | exact bn_ne1 _ | exact pm_g1_ne1 _ | omega) only [f132_10, f132_13, f132_14, f132_15, f132_17, f132_18, f132_19, f132_21, f132_22, f132_24, f132_26, f132_27, f132_28, f132_29, f132_32, f132_35, f132_36, f132_39, f132_41, f132_42, f132_43, f132_44, f132_47, f132_48, f132_50, f132_52, f132_53, f132_54, f132_56, f132_58, f132_61, f132_63, f132_64, f132_67, f132_70, f132_72, f132_73, f132_74, f132_75, f132_77, f132_78, f132_81, f132_82, f132_84, f132_85, f132_87, f132_90, f132_93, f132_96, f132_97, f132_99, f132_100, f132_101, f132_103, f132_106, f132_109, f132_111, f132_112, f132_115, f132_117, f132_119, f132_120, f132_121, f132_123, f132_125, f132_127, f132_130, f132_131, f132_134, f132_136, f132_138, f132_139, f132_142, f132_145, f132_148, f132_150, List.getD_cons_zero, List.getD_cons_succ, List.set_cons_zero, List.set_cons_succ, List.length_cons, List.length_nil, pm_ty_i, pm_ty_l, pm_ty_n, pm_ty_r, pm_ty_u, pm_ty_q, pm_fit_i, pm_fit_l, pm_fit_n, pm_fit_r, pm_fit_q, pm_fit3_0, pm_fit3_1, ag_0, ag_s, List.headD_cons, List.cons_append, List.nil_append, Option.toList_some, Option.toList_none, if_true, if_false, ite_true, ite_false, ↓reduceIte, and_true, true_and, and_self, or_true, true_or, or_false, false_or, not_true_eq_false, not_false_eq_true, Nat.reduceLT, Nat.reduceLeDiff, Nat.reduceEqDiff, Nat.reduceAdd, Nat.reduceSub, reduceCtorEq, i_0, i_1, i_2, i_3, i_4, i_5, i_6, i_7, i_8, i_10, i_16, i_20, i_40, i_80, i_200, i_1000, i_m1, w_lt_t, w_lt_f, w_le_t, w_le_f, w_eq_t, w_eq_f, w_add, w_mul, w_sub, w_clamp, w_ne_m1, m1_lt, m1_le, w_lt_m1, w_le_m1, rf_null, rf_none, rf_some, Option.map_none, Option.map_some, Option.bind_some, el_i, el_r, w_div, w_dec0, w_inc_m1, el_l, ev_i, ev_l, ev_n, ev_r, gm_1, gm_2, gm_3, gm_4, gm_5, gm_6, gm_7, gm_8, gm_9, gm_10, gm_11, gm_12, om_1, sm_th, sm_mc, sm_6s, sm_6n, sm_7n, sm_7s, sm_9, sm_11, sm_12, sm_8f, sm_8t, sm_10f, sm_10t, sq_i, ev_z0, ev_z1, if_pos, if_neg, ix_s, i_15, hdig, dn, hc4, hmk, m130 hz ha hj.1 hj.2.1 hl, eq_false h3]
          exact m132d hz hv hlen hL4 hml m q _ _ _ _ (by omega)
      · rw [doz_f hcv h1 (fun z => h2 z.1)]
        refine ⟨bs, fun _ _ => rfl, fun i s h => (nomatch h), ?_⟩
        rw [f132_8]
        simp (disch := first | assumption | exact pm_g0_ne1 _ | exact bn_ne1 _ | exact pm_g1_ne1 _ | omega) only [f132_10, f132_13, f132_14, f132_15, f132_17, f132_18, f132_19, f132_21, f132_22, f132_24, f132_26, f132_27, f132_28, f132_29, f132_32, f132_35, f132_36, f132_39, f132_41, f132_42, f132_43, f132_44, f132_47, f132_48, f132_50, f132_52, f132_53, f132_54, f132_56, f132_58, f132_61, f132_63, f132_64, f132_67, f132_70, f132_72, f132_73, f132_74, f132_75, f132_77, f132_78, f132_81, f132_82, f132_84, f132_85, f132_87, f132_90, f132_93, f132_96, f132_97, f132_99, f132_100, f132_101, f132_103, f132_106, f132_109, f132_111, f132_112, f132_115, f132_117, f132_119, f132_120, f132_121, f132_123, f132_125, f132_127, f132_130, f132_131, f132_134, f132_136, f132_138, f132_139, f132_142, f132_145, f132_148, f132_150, List.getD_cons_zero, List.getD_cons_succ, List.set_cons_zero, List.set_cons_succ, List.length_cons, List.length_nil, pm_ty_i, pm_ty_l, pm_ty_n, pm_ty_r, pm_ty_u, pm_ty_q, pm_fit_i, pm_fit_l, pm_fit_n, pm_fit_r, pm_fit_q, pm_fit3_0, pm_fit3_1, ag_0, ag_s, List.headD_cons, List.cons_append, List.nil_append, Option.toList_some, Option.toList_none, if_true, if_false, ite_true, ite_false, ↓reduceIte, and_true, true_and, and_self, or_true, true_or, or_false, false_or, not_true_eq_false, not_false_eq_true, Nat.reduceLT, Nat.reduceLeDiff, Nat.reduceEqDiff, Nat.reduceAdd, Nat.reduceSub, reduceCtorEq, i_0, i_1, i_2, i_3, i_4, i_5, i_6, i_7, i_8, i_10, i_16, i_20, i_40, i_80, i_200, i_1000, i_m1, w_lt_t, w_lt_f, w_le_t, w_le_f, w_eq_t, w_eq_f, w_add, w_mul, w_sub, w_clamp, w_ne_m1, m1_lt, m1_le, w_lt_m1, w_le_m1, rf_null, rf_none, rf_some, Option.map_none, Option.map_some, Option.bind_some, el_i, el_r, w_div, w_dec0, w_inc_m1, el_l, ev_i, ev_l, ev_n, ev_r, gm_1, gm_2, gm_3, gm_4, gm_5, gm_6, gm_7, gm_8, gm_9, gm_10, gm_11, gm_12, om_1, sm_th, sm_mc, sm_6s, sm_6n, sm_7n, sm_7s, sm_9, sm_11, sm_12, sm_8f, sm_8t, sm_10f, sm_10t, sq_i, ev_z0, ev_z1, if_pos, if_neg, ix_s, i_15, hdig, dn, hc4, hmk]
        exact m132d hz hv hlen hL4 hml m q _ _ _ _ (by omega)
set_option maxRecDepth 20000 in
theorem m132 (hz : dz B R T n) (ha : az n a) (hl : lz ld) {L : List Nat} (hL : ∀ k ∈ L, k < n ∧ ¬ (a k).1 = 40) (hL4 : L.length ≤ 4) (hmy : ∀ j k, L[j]? = some k → my j = k) {b v : Nat} (hb : b < B) (hv : v < 65536) {m : Nat} (hm : m ≤ 4) (hj : jj B R T n a ps wh) : ∃ bs' : Nat → Nat, (∀ i s, (doz T R b a pg ld L m v ps wh)[i]? = some s → bs' i = s.1) ∧ fr S (d + 5) (132, 0, [.ref (g1 1), .int (w b), .int (w v), .int (w m), pm_U, pm_U, pm_U, pm_U, pm_U, pm_U], []) (MM th B R T n a ps wh pg ld ap my L.length bs X) = some (.inl (some (.int (w (doz T R b a pg ld L m v ps wh).length))), (MM th B R T n a ((doz T R b a pg ld L m v ps wh).foldl (lay1 T b) (ps, wh)).1 ((doz T R b a pg ld L m v ps wh).foldl (lay1 T b) (ps, wh)).2 pg ld ap my L.length bs' X)) := by
  obtain ⟨bs', _, g2, g3⟩ := m132l (S := S) (d := d) (th := th) (pg := pg) (ap := ap) (X := X) hz ha hl hL hL4 hmy hb hv hm m 0 ps wh bs pm_U pm_U pm_U pm_U (by omega) hj
  rw [Nat.zero_add] at g3
  refine ⟨bs', fun i s hs => by have := g2 i s hs; rw [Nat.zero_add] at this; exact this, ?_⟩
  cases m with
  | zero =>
    simp (disch := first | assumption | exact pm_g0_ne1 _ | exact bn_ne1 _ | exact pm_g1_ne1 _ | omega) only [f132_0, f132_1, f132_3, f132_4, f132_5, f132_6, List.getD_cons_zero, List.getD_cons_succ, List.set_cons_zero, List.set_cons_succ, List.length_cons, List.length_nil, pm_ty_i, pm_ty_l, pm_ty_n, pm_ty_r, pm_ty_u, pm_ty_q, pm_fit_i, pm_fit_l, pm_fit_n, pm_fit_r, pm_fit_q, pm_fit3_0, pm_fit3_1, ag_0, ag_s, List.headD_cons, List.cons_append, List.nil_append, Option.toList_some, Option.toList_none, if_true, if_false, ite_true, ite_false, ↓reduceIte, and_true, true_and, and_self, or_true, true_or, or_false, false_or, not_true_eq_false, not_false_eq_true, Nat.reduceLT, Nat.reduceLeDiff, Nat.reduceEqDiff, Nat.reduceAdd, Nat.reduceSub, reduceCtorEq, i_0, i_1, i_2, i_3, i_4, i_5, i_6, i_7, i_8, i_10, i_16, i_20, i_40, i_80, i_200, i_1000, i_m1, w_lt_t, w_lt_f, w_le_t, w_le_f, w_eq_t, w_eq_f, w_add, w_mul, w_sub, w_clamp, w_ne_m1, m1_lt, m1_le, w_lt_m1, w_le_m1, rf_null, rf_none, rf_some, Option.map_none, Option.map_some, Option.bind_some, el_i, el_r, w_div, w_dec0, w_inc_m1, el_l, ev_i, ev_l, ev_n, ev_r, gm_1, gm_2, gm_3, gm_4, gm_5, gm_6, gm_7, gm_8, gm_9, gm_10, gm_11, gm_12, om_1, sm_th, sm_mc, sm_6s, sm_6n, sm_7n, sm_7s, sm_9, sm_11, sm_12, sm_8f, sm_8t, sm_10f, sm_10t, sq_i, ev_z0, ev_z1, if_pos, if_neg]
    exact g3
  | succ m =>
    have e : m + 1 - 1 = m := by omega
    simp (disch := first | assumption | exact pm_g0_ne1 _ | exact bn_ne1 _ | exact pm_g1_ne1 _ | omega) only [f132_0, f132_1, f132_3, f132_4, f132_5, f132_6, List.getD_cons_zero, List.getD_cons_succ, List.set_cons_zero, List.set_cons_succ, List.length_cons, List.length_nil, pm_ty_i, pm_ty_l, pm_ty_n, pm_ty_r, pm_ty_u, pm_ty_q, pm_fit_i, pm_fit_l, pm_fit_n, pm_fit_r, pm_fit_q, pm_fit3_0, pm_fit3_1, ag_0, ag_s, List.headD_cons, List.cons_append, List.nil_append, Option.toList_some, Option.toList_none, if_true, if_false, ite_true, ite_false, ↓reduceIte, and_true, true_and, and_self, or_true, true_or, or_false, false_or, not_true_eq_false, not_false_eq_true, Nat.reduceLT, Nat.reduceLeDiff, Nat.reduceEqDiff, Nat.reduceAdd, Nat.reduceSub, reduceCtorEq, i_0, i_1, i_2, i_3, i_4, i_5, i_6, i_7, i_8, i_10, i_16, i_20, i_40, i_80, i_200, i_1000, i_m1, w_lt_t, w_lt_f, w_le_t, w_le_f, w_eq_t, w_eq_f, w_add, w_mul, w_sub, w_clamp, w_ne_m1, m1_lt, m1_le, w_lt_m1, w_le_m1, rf_null, rf_none, rf_some, Option.map_none, Option.map_some, Option.bind_some, el_i, el_r, w_div, w_dec0, w_inc_m1, el_l, ev_i, ev_l, ev_n, ev_r, gm_1, gm_2, gm_3, gm_4, gm_5, gm_6, gm_7, gm_8, gm_9, gm_10, gm_11, gm_12, om_1, sm_th, sm_mc, sm_6s, sm_6n, sm_7n, sm_7s, sm_9, sm_11, sm_12, sm_8f, sm_8t, sm_10f, sm_10t, sq_i, ev_z0, ev_z1, if_pos, if_neg, e]
    exact g3
set_option maxRecDepth 20000 in
theorem m133l (hz : dz B R T n) (ha : az n a) {N : Nat} (hN : N ≤ 4) : ∀ (l : List Nat) (i : Nat) (ps : ps_T) (wh : wh_T), i + l.length = N → (∀ j k, l[j]? = some k → bs (i + j) = k) → (∀ k ∈ l, k < n ∧ ¬ (a k).1 = 40 ∧ ∃ q, ps k = some q) → l.Nodup → jj B R T n a ps wh → fr S (d + 5) (133, 2, [.ref (g1 1), .int (w N), .int (w i)], []) (MM th B R T n a ps wh pg ld ap my mc bs X) = some (.inl none, (MM th B R T n a (l.foldl er1 (ps, wh)).1 (l.foldl er1 (ps, wh)).2 pg ld ap my mc bs X)) := by
  have hn := hz.2.2.2.2.2.2
  have hB := hz.2.1
  have hR := hz.2.2.2.1
  have hT := hz.2.2.2.2.2.1
  have hB1 := hz.1
  have hR1 := hz.2.2.1
  have hT1 := hz.2.2.2.2.1
  intro l
  induction l with
  | nil =>
    intro i ps wh hi hbs hl hnd hj
    have hi : i = N := hi
    rw [f133_2]
    simp (disch := first | assumption | exact pm_g0_ne1 _ | exact bn_ne1 _ | exact pm_g1_ne1 _ | omega) only [f133_3, f133_4, f133_7, f133_8, f133_9, f133_12, f133_13, f133_14, f133_15, f133_18, f133_19, f133_22, f133_23, f133_24, f133_25, f133_26, f133_29, f133_30, f133_33, f133_34, f133_37, f133_38, f133_39, f133_40, f133_41, f133_44, f133_47, List.getD_cons_zero, List.getD_cons_succ, List.set_cons_zero, List.set_cons_succ, List.length_cons, List.length_nil, pm_ty_i, pm_ty_l, pm_ty_n, pm_ty_r, pm_ty_u, pm_ty_q, pm_fit_i, pm_fit_l, pm_fit_n, pm_fit_r, pm_fit_q, pm_fit3_0, pm_fit3_1, ag_0, ag_s, List.headD_cons, List.cons_append, List.nil_append, Option.toList_some, Option.toList_none, if_true, if_false, ite_true, ite_false, ↓reduceIte, and_true, true_and, and_self, or_true, true_or, or_false, false_or, not_true_eq_false, not_false_eq_true, Nat.reduceLT, Nat.reduceLeDiff, Nat.reduceEqDiff, Nat.reduceAdd, Nat.reduceSub, reduceCtorEq, i_0, i_1, i_2, i_3, i_4, i_5, i_6, i_7, i_8, i_10, i_16, i_20, i_40, i_80, i_200, i_1000, i_m1, w_lt_t, w_lt_f, w_le_t, w_le_f, w_eq_t, w_eq_f, w_add, w_mul, w_sub, w_clamp, w_ne_m1, m1_lt, m1_le, w_lt_m1, w_le_m1, rf_null, rf_none, rf_some, Option.map_none, Option.map_some, Option.bind_some, el_i, el_r, w_div, w_dec0, w_inc_m1, el_l, ev_i, ev_l, ev_n, ev_r, gm_1, gm_2, gm_3, gm_4, gm_5, gm_6, gm_7, gm_8, gm_9, gm_10, gm_11, gm_12, om_1, sm_th, sm_mc, sm_6s, sm_6n, sm_7n, sm_7s, sm_9, sm_11, sm_12, sm_8f, sm_8t, sm_10f, sm_10t, sq_i, ev_z0, ev_z1, if_pos, if_neg]
    rfl
  | cons k l ih =>
    intro i ps wh hi hbs hl hnd hj
    have hi : i + (l.length + 1) = N := hi
    have hb0 : bs i = k := hbs 0 k rfl
    obtain ⟨hk, hs, ⟨b, r, t⟩, hq⟩ := hl k List.mem_cons_self
    obtain ⟨_, hb, hr, ht, _⟩ := hj.1 k b r t hq
    have hnd := List.nodup_cons.mp hnd
    have g := ih (i + 1) (er1 (ps, wh) k).1 (er1 (ps, wh) k).2 (by omega) (fun j x hx => by rw [show i + 1 + j = i + (j + 1) by omega]; exact hbs (j + 1) x hx) (fun x hx => by
      obtain ⟨h1, h2, q, h3⟩ := hl x (List.mem_cons_of_mem _ hx)
      exact ⟨h1, h2, q, by show va_up ps k none x = _; rw [vup_ne _ _ (fun z => hnd.1 (by rw [← z]; exact hx))]; exact h3⟩) hnd.2 (jj_er hj k)
    have e := er_up hj.2.2.1 hj.2.2.2 hs hq
    rw [← e] at g
    dsimp only at g
    rw [List.foldl_cons, ← e]
    have h9 := m110n (S := S) (d := d + 4) (th := th) (ps := ps) (wh := wh) (pg := pg) (ld := ld) (ap := ap) (my := my) (mc := mc) (bs := bs) (X := X) hz ha hk hb hr ht (fun z => absurd z hs)
    have hm := me_lt (b := b) (r := r) (t := t) (by omega) (by omega) (by omega)
    have hk4 : k < 40 := by omega
    rw [f133_2]
    simp (disch := first | assumption | exact pm_g0_ne1 _ | exact bn_ne1 _ | exact pm_g1_ne1 _ | omega) only [f133_3, f133_4, f133_7, f133_8, f133_9, f133_12, f133_13, f133_14, f133_15, f133_18, f133_19, f133_22, f133_23, f133_24, f133_25, f133_26, f133_29, f133_30, f133_33, f133_34, f133_37, f133_38, f133_39, f133_40, f133_41, f133_44, f133_47, List.getD_cons_zero, List.getD_cons_succ, List.set_cons_zero, List.set_cons_succ, List.length_cons, List.length_nil, pm_ty_i, pm_ty_l, pm_ty_n, pm_ty_r, pm_ty_u, pm_ty_q, pm_fit_i, pm_fit_l, pm_fit_n, pm_fit_r, pm_fit_q, pm_fit3_0, pm_fit3_1, ag_0, ag_s, List.headD_cons, List.cons_append, List.nil_append, Option.toList_some, Option.toList_none, if_true, if_false, ite_true, ite_false, ↓reduceIte, and_true, true_and, and_self, or_true, true_or, or_false, false_or, not_true_eq_false, not_false_eq_true, Nat.reduceLT, Nat.reduceLeDiff, Nat.reduceEqDiff, Nat.reduceAdd, Nat.reduceSub, reduceCtorEq, i_0, i_1, i_2, i_3, i_4, i_5, i_6, i_7, i_8, i_10, i_16, i_20, i_40, i_80, i_200, i_1000, i_m1, w_lt_t, w_lt_f, w_le_t, w_le_f, w_eq_t, w_eq_f, w_add, w_mul, w_sub, w_clamp, w_ne_m1, m1_lt, m1_le, w_lt_m1, w_le_m1, rf_null, rf_none, rf_some, Option.map_none, Option.map_some, Option.bind_some, el_i, el_r, w_div, w_dec0, w_inc_m1, el_l, ev_i, ev_l, ev_n, ev_r, gm_1, gm_2, gm_3, gm_4, gm_5, gm_6, gm_7, gm_8, gm_9, gm_10, gm_11, gm_12, om_1, sm_th, sm_mc, sm_6s, sm_6n, sm_7n, sm_7s, sm_9, sm_11, sm_12, sm_8f, sm_8t, sm_10f, sm_10t, sq_i, ev_z0, ev_z1, if_pos, if_neg, hb0, hq, mcl_s, h9]
    exact g
set_option maxRecDepth 20000 in
theorem m133 (hz : dz B R T n) (ha : az n a) {l : List Nat} (hN : l.length ≤ 4) (hbs : ∀ j k, l[j]? = some k → bs j = k) (hl : ∀ k ∈ l, k < n ∧ ¬ (a k).1 = 40 ∧ ∃ q, ps k = some q) (hnd : l.Nodup) (hj : jj B R T n a ps wh) : fr S (d + 5) (133, 0, [.ref (g1 1), .int (w l.length), pm_U], []) (MM th B R T n a ps wh pg ld ap my mc bs X) = some (.inl none, (MM th B R T n a (l.foldl er1 (ps, wh)).1 (l.foldl er1 (ps, wh)).2 pg ld ap my mc bs X)) := by
  simp (disch := first | assumption | exact pm_g0_ne1 _ | exact bn_ne1 _ | exact pm_g1_ne1 _ | omega) only [f133_0, f133_1, List.getD_cons_zero, List.getD_cons_succ, List.set_cons_zero, List.set_cons_succ, List.length_cons, List.length_nil, pm_ty_i, pm_ty_l, pm_ty_n, pm_ty_r, pm_ty_u, pm_ty_q, pm_fit_i, pm_fit_l, pm_fit_n, pm_fit_r, pm_fit_q, pm_fit3_0, pm_fit3_1, ag_0, ag_s, List.headD_cons, List.cons_append, List.nil_append, Option.toList_some, Option.toList_none, if_true, if_false, ite_true, ite_false, ↓reduceIte, and_true, true_and, and_self, or_true, true_or, or_false, false_or, not_true_eq_false, not_false_eq_true, Nat.reduceLT, Nat.reduceLeDiff, Nat.reduceEqDiff, Nat.reduceAdd, Nat.reduceSub, reduceCtorEq, i_0, i_1, i_2, i_3, i_4, i_5, i_6, i_7, i_8, i_10, i_16, i_20, i_40, i_80, i_200, i_1000, i_m1, w_lt_t, w_lt_f, w_le_t, w_le_f, w_eq_t, w_eq_f, w_add, w_mul, w_sub, w_clamp, w_ne_m1, m1_lt, m1_le, w_lt_m1, w_le_m1, rf_null, rf_none, rf_some, Option.map_none, Option.map_some, Option.bind_some, el_i, el_r, w_div, w_dec0, w_inc_m1, el_l, ev_i, ev_l, ev_n, ev_r, gm_1, gm_2, gm_3, gm_4, gm_5, gm_6, gm_7, gm_8, gm_9, gm_10, gm_11, gm_12, om_1, sm_th, sm_mc, sm_6s, sm_6n, sm_7n, sm_7s, sm_9, sm_11, sm_12, sm_8f, sm_8t, sm_10f, sm_10t, sq_i, ev_z0, ev_z1, if_pos, if_neg]
  exact m133l hz ha hN l 0 ps wh (by omega) (fun j k h => by rw [Nat.zero_add]; exact hbs j k h) hl hnd hj
end M7
