/-! The class: the search's levels, and fill. -/
section C15
variable {B R T n : Nat} {a : at_T} {ps : ps_T} {wh : wh_T} {pg : pg_T} {ld : Nat → Nat} {kp : Nat → Int64} {cc : Nat} {cd : Nat → Option Nat} {tr be : wy_T} {ou : Int64} {X : pm_A × (Nat × Nat)} {S : pm_S} {d : Nat}
set_option maxRecDepth 20000 in
theorem c53i (hz : dz B R T n) (ha : az n a) (hl : lz ld) {b : Nat} (hb : b < B) {L : List Nat} (hL : ∀ k ∈ L, k < n ∧ ¬ (a k).1 = 40) (hL4 : L.length ≤ 4) (hcd : ∀ j, j < L.length → cd j = L[j]?) {m : Nat} (ih : ext_ok S B R T n a pg ld kp cd ou X b L m) (hp : pz B R T n a ps) (hw : wz B R T n wh) {p : wl_T} (hm : p.1.length + (m + 1) = L.length) {k i : Nat} (hk : L[i]? = some k) : ∀ (mm r : Nat) (tr be : wy_T) (q : wl_T), r + mm = R → rep n tr p → rep n be q → ∃ tr' be' : wy_T, rep n tr' p ∧ rep n be' (((List.range' r mm).map (fun r => (k, r))).foldl (dst1 T R b a pg ld L m p ps wh) q) ∧
    fr S (d + 2 * m + 8) (53, 65, [.ref (g0 0), .int (w b), .int (w p.1.length), .int (w i), .int (w r)], []) (CM B R T n a ps wh pg ld kp L.length cd tr be ou X) = fr S (d + 2 * m + 8) (53, 94, [.ref (g0 0), .int (w b), .int (w p.1.length), .int (w i), .int (w R)], []) (CM B R T n a ps wh pg ld kp L.length cd tr' be' ou X) := by
  have hn := hz.2.2.2.2.2.2
  have hB := hz.2.1
  have hR := hz.2.2.2.1
  have hT := hz.2.2.2.2.2.1
  have hi : i < L.length := (List.getElem?_eq_some_iff.mp hk).1
  have hkL : k ∈ L := List.mem_of_getElem? hk
  have hkn := (hL k hkL).1
  intro mm
  induction mm with
  | zero =>
    intro r tr be q hr ht hq
    obtain rfl : r = R := hr
    refine ⟨tr, be, ht, hq, ?_⟩
    rw [f53_65]
    simp (disch := first | assumption | exact pm_g0_ne1 _ | exact bn_ne1 _ | exact pm_g1_ne1 _ | omega) only [f53_67, f53_68, f53_71, f53_74, f53_75, f53_76, f53_79, f53_80, f53_81, f53_82, f53_84, f53_85, f53_88, f53_91, List.getD_cons_zero, List.getD_cons_succ, List.set_cons_zero, List.set_cons_succ, List.length_cons, List.length_nil, pm_ty_i, pm_ty_l, pm_ty_n, pm_ty_r, pm_ty_u, pm_ty_q, pm_fit_i, pm_fit_l, pm_fit_n, pm_fit_r, pm_fit_q, pm_fit3_0, pm_fit3_1, ag_0, ag_s, List.headD_cons, List.cons_append, List.nil_append, Option.toList_some, Option.toList_none, if_true, if_false, ite_true, ite_false, ↓reduceIte, and_true, true_and, and_self, or_true, true_or, or_false, false_or, not_true_eq_false, not_false_eq_true, Nat.reduceLT, Nat.reduceLeDiff, Nat.reduceEqDiff, Nat.reduceAdd, Nat.reduceSub, reduceCtorEq, i_0, i_1, i_2, i_3, i_4, i_5, i_6, i_7, i_8, i_10, i_16, i_20, i_40, i_80, i_200, i_1000, i_m1, w_lt_t, w_lt_f, w_le_t, w_le_f, w_eq_t, w_eq_f, w_add, w_mul, w_sub, w_clamp, w_ne_m1, m1_lt, m1_le, w_lt_m1, w_le_m1, rf_null, rf_none, rf_some, Option.map_none, Option.map_some, Option.bind_some, el_i, el_r, w_div, w_dec0, w_inc_m1, el_l, ev_i, ev_l, ev_n, ev_r, gt_0, gt_1, gt_2, gt_3, gt_4, gt_5, gt_6, gt_7, gt_8, gt_9, gt_10, gt_11, gt_12, ob_0, ob_6, ob_9, gt_b, ob_b, sq_n, sq_r, st_2n, st_2s, st_0, st_4, st_6, st_9, st_12, st_8, st_11, st_5n, st_5s, st_7n, st_7s, st_10n, st_10s, if_pos, if_neg]
  | succ mm ih2 =>
    intro r tr be q hr ht hq
    obtain ⟨tr1, be1, r1, r2, r3⟩ := c54 (d := d) hz ha hl hb hL hL4 ih hp hw hm ht hq hkL (show r < R by omega)
    obtain ⟨tr2, be2, s1, s2, s3⟩ := ih2 (r + 1) tr1 be1 _ (by omega) r1 r2
    refine ⟨tr2, be2, s1, ?_, ?_⟩
    · rw [List.range'_succ, List.map_cons, List.foldl_cons]
      exact s2
    · rw [f53_65, ← s3]
      generalize d + 2 * m = D at *
      simp (disch := first | assumption | exact pm_g0_ne1 _ | exact bn_ne1 _ | exact pm_g1_ne1 _ | omega) only [f53_67, f53_68, f53_71, f53_74, f53_75, f53_76, f53_79, f53_80, f53_81, f53_82, f53_84, f53_85, f53_88, f53_91, List.getD_cons_zero, List.getD_cons_succ, List.set_cons_zero, List.set_cons_succ, List.length_cons, List.length_nil, pm_ty_i, pm_ty_l, pm_ty_n, pm_ty_r, pm_ty_u, pm_ty_q, pm_fit_i, pm_fit_l, pm_fit_n, pm_fit_r, pm_fit_q, pm_fit3_0, pm_fit3_1, ag_0, ag_s, List.headD_cons, List.cons_append, List.nil_append, Option.toList_some, Option.toList_none, if_true, if_false, ite_true, ite_false, ↓reduceIte, and_true, true_and, and_self, or_true, true_or, or_false, false_or, not_true_eq_false, not_false_eq_true, Nat.reduceLT, Nat.reduceLeDiff, Nat.reduceEqDiff, Nat.reduceAdd, Nat.reduceSub, reduceCtorEq, i_0, i_1, i_2, i_3, i_4, i_5, i_6, i_7, i_8, i_10, i_16, i_20, i_40, i_80, i_200, i_1000, i_m1, w_lt_t, w_lt_f, w_le_t, w_le_f, w_eq_t, w_eq_f, w_add, w_mul, w_sub, w_clamp, w_ne_m1, m1_lt, m1_le, w_lt_m1, w_le_m1, rf_null, rf_none, rf_some, Option.map_none, Option.map_some, Option.bind_some, el_i, el_r, w_div, w_dec0, w_inc_m1, el_l, ev_i, ev_l, ev_n, ev_r, gt_0, gt_1, gt_2, gt_3, gt_4, gt_5, gt_6, gt_7, gt_8, gt_9, gt_10, gt_11, gt_12, ob_0, ob_6, ob_9, gt_b, ob_b, sq_n, sq_r, st_2n, st_2s, st_0, st_4, st_6, st_9, st_12, st_8, st_11, st_5n, st_5s, st_7n, st_7s, st_10n, st_10s, if_pos, if_neg, hcd, hk, r3]
set_option maxRecDepth 20000 in
theorem c53o (hz : dz B R T n) (ha : az n a) (hl : lz ld) {b : Nat} (hb : b < B) {L : List Nat} (hL : ∀ k ∈ L, k < n ∧ ¬ (a k).1 = 40) (hL4 : L.length ≤ 4) (hcd : ∀ j, j < L.length → cd j = L[j]?) {m : Nat} (ih : ext_ok S B R T n a pg ld kp cd ou X b L m) (hp : pz B R T n a ps) (hw : wz B R T n wh) {p : wl_T} (hm : p.1.length + (m + 1) = L.length) : ∀ (mm i : Nat) (v : Value) (tr be : wy_T) (q : wl_T), i + mm = L.length → rep n tr p → rep n be q → ∃ tr' be' : wy_T, rep n tr' p ∧ rep n be' (((L.drop i).flatMap (fun k => (List.range R).map (fun r => (k, r)))).foldl (dst1 T R b a pg ld L m p ps wh) q) ∧
    fr S (d + 2 * m + 8) (53, 45, [.ref (g0 0), .int (w b), .int (w p.1.length), .int (w i), v], []) (CM B R T n a ps wh pg ld kp L.length cd tr be ou X) = some (.inl none, (CM B R T n a ps wh pg ld kp L.length cd tr' be' ou X)) := by
  have hn := hz.2.2.2.2.2.2
  have hB := hz.2.1
  have hR := hz.2.2.2.1
  have hT := hz.2.2.2.2.2.1
  intro mm
  induction mm with
  | zero =>
    intro i v tr be q hi ht hq
    refine ⟨tr, be, ht, ?_, ?_⟩
    · rw [List.drop_of_length_le (by omega)]
      exact hq
    · rw [f53_45]
      simp (disch := first | assumption | exact pm_g0_ne1 _ | exact bn_ne1 _ | exact pm_g1_ne1 _ | omega) only [f53_46, f53_47, f53_50, f53_53, f53_54, f53_55, f53_58, f53_59, f53_62, f53_63, f53_100, List.getD_cons_zero, List.getD_cons_succ, List.set_cons_zero, List.set_cons_succ, List.length_cons, List.length_nil, pm_ty_i, pm_ty_l, pm_ty_n, pm_ty_r, pm_ty_u, pm_ty_q, pm_fit_i, pm_fit_l, pm_fit_n, pm_fit_r, pm_fit_q, pm_fit3_0, pm_fit3_1, ag_0, ag_s, List.headD_cons, List.cons_append, List.nil_append, Option.toList_some, Option.toList_none, if_true, if_false, ite_true, ite_false, ↓reduceIte, and_true, true_and, and_self, or_true, true_or, or_false, false_or, not_true_eq_false, not_false_eq_true, Nat.reduceLT, Nat.reduceLeDiff, Nat.reduceEqDiff, Nat.reduceAdd, Nat.reduceSub, reduceCtorEq, i_0, i_1, i_2, i_3, i_4, i_5, i_6, i_7, i_8, i_10, i_16, i_20, i_40, i_80, i_200, i_1000, i_m1, w_lt_t, w_lt_f, w_le_t, w_le_f, w_eq_t, w_eq_f, w_add, w_mul, w_sub, w_clamp, w_ne_m1, m1_lt, m1_le, w_lt_m1, w_le_m1, rf_null, rf_none, rf_some, Option.map_none, Option.map_some, Option.bind_some, el_i, el_r, w_div, w_dec0, w_inc_m1, el_l, ev_i, ev_l, ev_n, ev_r, gt_0, gt_1, gt_2, gt_3, gt_4, gt_5, gt_6, gt_7, gt_8, gt_9, gt_10, gt_11, gt_12, ob_0, ob_6, ob_9, gt_b, ob_b, sq_n, sq_r, st_2n, st_2s, st_0, st_4, st_6, st_9, st_12, st_8, st_11, st_5n, st_5s, st_7n, st_7s, st_10n, st_10s, if_pos, if_neg]
  | succ mm ih2 =>
    intro i v tr be q hi ht hq
    have hiL : i < L.length := by omega
    obtain ⟨tr1, be1, r1, r2, r3⟩ := c53i (d := d) hz ha hl hb hL hL4 hcd ih hp hw hm (List.getElem?_eq_getElem hiL) R 0 tr be q (by omega) ht hq
    obtain ⟨tr2, be2, s1, s2, s3⟩ := ih2 (i + 1) (.int (w R)) tr1 be1 _ (by omega) r1 r2
    refine ⟨tr2, be2, s1, ?_, ?_⟩
    · rw [List.drop_eq_getElem_cons hiL, List.flatMap_cons, List.foldl_append, List.range_eq_range']
      rw [List.range_eq_range'] at s2
      exact s2
    · rw [f53_45, ← s3]
      generalize d + 2 * m = D at *
      simp (disch := first | assumption | exact pm_g0_ne1 _ | exact bn_ne1 _ | exact pm_g1_ne1 _ | omega) only [f53_46, f53_47, f53_50, f53_53, f53_54, f53_55, f53_58, f53_59, f53_62, f53_63, f53_94, f53_97, List.getD_cons_zero, List.getD_cons_succ, List.set_cons_zero, List.set_cons_succ, List.length_cons, List.length_nil, pm_ty_i, pm_ty_l, pm_ty_n, pm_ty_r, pm_ty_u, pm_ty_q, pm_fit_i, pm_fit_l, pm_fit_n, pm_fit_r, pm_fit_q, pm_fit3_0, pm_fit3_1, ag_0, ag_s, List.headD_cons, List.cons_append, List.nil_append, Option.toList_some, Option.toList_none, if_true, if_false, ite_true, ite_false, ↓reduceIte, and_true, true_and, and_self, or_true, true_or, or_false, false_or, not_true_eq_false, not_false_eq_true, Nat.reduceLT, Nat.reduceLeDiff, Nat.reduceEqDiff, Nat.reduceAdd, Nat.reduceSub, reduceCtorEq, i_0, i_1, i_2, i_3, i_4, i_5, i_6, i_7, i_8, i_10, i_16, i_20, i_40, i_80, i_200, i_1000, i_m1, w_lt_t, w_lt_f, w_le_t, w_le_f, w_eq_t, w_eq_f, w_add, w_mul, w_sub, w_clamp, w_ne_m1, m1_lt, m1_le, w_lt_m1, w_le_m1, rf_null, rf_none, rf_some, Option.map_none, Option.map_some, Option.bind_some, el_i, el_r, w_div, w_dec0, w_inc_m1, el_l, ev_i, ev_l, ev_n, ev_r, gt_0, gt_1, gt_2, gt_3, gt_4, gt_5, gt_6, gt_7, gt_8, gt_9, gt_10, gt_11, gt_12, ob_0, ob_6, ob_9, gt_b, ob_b, sq_n, sq_r, st_2n, st_2s, st_0, st_4, st_6, st_9, st_12, st_8, st_11, st_5n, st_5s, st_7n, st_7s, st_10n, st_10s, if_pos, if_neg, w_f, r3]
set_option maxRecDepth 20000 in
theorem c53 (hz : dz B R T n) (ha : az n a) (hl : lz ld) {b : Nat} (hb : b < B) {L : List Nat} (hL : ∀ k ∈ L, k < n ∧ ¬ (a k).1 = 40) (hL4 : L.length ≤ 4) (hcd : ∀ j, j < L.length → cd j = L[j]?) : ∀ m, ext_ok S B R T n a pg ld kp cd ou X b L m := by
  have hn := hz.2.2.2.2.2.2
  have hB := hz.2.1
  have hR := hz.2.2.2.1
  have hT := hz.2.2.2.2.2.1
  intro m
  induction m with
  | zero =>
    intro d ps wh tr be p q hp hw hm ht hq
    have ht1 := ht.1
    have ht2 := ht.2.1
    have ht3 := ht.2.2.1
    have ht4 := ht.2.2.2.1
    have hq1 := hq.1
    have hq2 := hq.2.1
    have hq3 := hq.2.2.1
    have hq4 := hq.2.2.2.1
    have hkk : ∀ i, i < tr.1 → ∃ k, k < n ∧ tr.2.2.1 i = some k := fun i hi => by
      have hi2 : i < p.1.length := by omega
      exact ⟨(p.1[i]).1, ht.2.2.2.2.2 _ (List.getElem_mem hi2), (ht.2.2.2.2.1 i _ (List.getElem?_eq_getElem hi2)).1⟩
    by_cases g : bet p q = true
    · have g1 := of_decide_eq_true g
      have e1 : be.1 < tr.1 ∨ be.1 = tr.1 ∧ tr.2.1 < be.2.1 := by omega
      refine ⟨tr, _, ht, by rw [show dfs T R b a pg ld L 0 p ps wh q = p from if_pos g]; exact rep_cp (z := be) ht, ?_⟩
      simp (disch := first | assumption | exact pm_g0_ne1 _ | exact bn_ne1 _ | exact pm_g1_ne1 _ | omega) only [f53_0, f53_1, f53_4, f53_5, f53_8, f53_11, f53_14, f53_15, f53_18, f53_19, f53_22, f53_25, f53_26, f53_27, f53_30, f53_33, f53_34, f53_35, f53_38, f53_39, f53_42, f53_43, f53_44, List.getD_cons_zero, List.getD_cons_succ, List.set_cons_zero, List.set_cons_succ, List.length_cons, List.length_nil, pm_ty_i, pm_ty_l, pm_ty_n, pm_ty_r, pm_ty_u, pm_ty_q, pm_fit_i, pm_fit_l, pm_fit_n, pm_fit_r, pm_fit_q, pm_fit3_0, pm_fit3_1, ag_0, ag_s, List.headD_cons, List.cons_append, List.nil_append, Option.toList_some, Option.toList_none, if_true, if_false, ite_true, ite_false, ↓reduceIte, and_true, true_and, and_self, or_true, true_or, or_false, false_or, not_true_eq_false, not_false_eq_true, Nat.reduceLT, Nat.reduceLeDiff, Nat.reduceEqDiff, Nat.reduceAdd, Nat.reduceSub, reduceCtorEq, i_0, i_1, i_2, i_3, i_4, i_5, i_6, i_7, i_8, i_10, i_16, i_20, i_40, i_80, i_200, i_1000, i_m1, w_lt_t, w_lt_f, w_le_t, w_le_f, w_eq_t, w_eq_f, w_add, w_mul, w_sub, w_clamp, w_ne_m1, m1_lt, m1_le, w_lt_m1, w_le_m1, rf_null, rf_none, rf_some, Option.map_none, Option.map_some, Option.bind_some, el_i, el_r, w_div, w_dec0, w_inc_m1, el_l, ev_i, ev_l, ev_n, ev_r, gt_0, gt_1, gt_2, gt_3, gt_4, gt_5, gt_6, gt_7, gt_8, gt_9, gt_10, gt_11, gt_12, ob_0, ob_6, ob_9, gt_b, ob_b, sq_n, sq_r, st_2n, st_2s, st_0, st_4, st_6, st_9, st_12, st_8, st_11, st_5n, st_5s, st_7n, st_7s, st_10n, st_10s, if_pos, if_neg, c81, c82, w_f]
    · have g1 : ¬ (q.1.length < p.1.length ∨ (q.1.length = p.1.length ∧ p.2 < q.2)) := fun z => g (decide_eq_true z)
      have e1 : ¬ (be.1 < tr.1 ∨ be.1 = tr.1 ∧ tr.2.1 < be.2.1) := by omega
      refine ⟨tr, be, ht, by rw [show dfs T R b a pg ld L 0 p ps wh q = q from if_neg g]; exact hq, ?_⟩
      simp (disch := first | assumption | exact pm_g0_ne1 _ | exact bn_ne1 _ | exact pm_g1_ne1 _ | omega) only [f53_0, f53_1, f53_4, f53_5, f53_8, f53_11, f53_14, f53_15, f53_18, f53_19, f53_22, f53_25, f53_26, f53_27, f53_30, f53_33, f53_34, f53_35, f53_38, f53_39, f53_42, f53_43, f53_44, List.getD_cons_zero, List.getD_cons_succ, List.set_cons_zero, List.set_cons_succ, List.length_cons, List.length_nil, pm_ty_i, pm_ty_l, pm_ty_n, pm_ty_r, pm_ty_u, pm_ty_q, pm_fit_i, pm_fit_l, pm_fit_n, pm_fit_r, pm_fit_q, pm_fit3_0, pm_fit3_1, ag_0, ag_s, List.headD_cons, List.cons_append, List.nil_append, Option.toList_some, Option.toList_none, if_true, if_false, ite_true, ite_false, ↓reduceIte, and_true, true_and, and_self, or_true, true_or, or_false, false_or, not_true_eq_false, not_false_eq_true, Nat.reduceLT, Nat.reduceLeDiff, Nat.reduceEqDiff, Nat.reduceAdd, Nat.reduceSub, reduceCtorEq, i_0, i_1, i_2, i_3, i_4, i_5, i_6, i_7, i_8, i_10, i_16, i_20, i_40, i_80, i_200, i_1000, i_m1, w_lt_t, w_lt_f, w_le_t, w_le_f, w_eq_t, w_eq_f, w_add, w_mul, w_sub, w_clamp, w_ne_m1, m1_lt, m1_le, w_lt_m1, w_le_m1, rf_null, rf_none, rf_some, Option.map_none, Option.map_some, Option.bind_some, el_i, el_r, w_div, w_dec0, w_inc_m1, el_l, ev_i, ev_l, ev_n, ev_r, gt_0, gt_1, gt_2, gt_3, gt_4, gt_5, gt_6, gt_7, gt_8, gt_9, gt_10, gt_11, gt_12, ob_0, ob_6, ob_9, gt_b, ob_b, sq_n, sq_r, st_2n, st_2s, st_0, st_4, st_6, st_9, st_12, st_8, st_11, st_5n, st_5s, st_7n, st_7s, st_10n, st_10s, if_pos, if_neg, c81, w_f]
  | succ m ih =>
    intro d ps wh tr be p q hp hw hm ht hq
    have ht1 := ht.1
    have ht2 := ht.2.1
    have ht3 := ht.2.2.1
    have ht4 := ht.2.2.2.1
    have hq1 := hq.1
    have hq2 := hq.2.1
    have hq3 := hq.2.2.1
    have hq4 := hq.2.2.2.1
    have hkk : ∀ i, i < tr.1 → ∃ k, k < n ∧ tr.2.2.1 i = some k := fun i hi => by
      have hi2 : i < p.1.length := by omega
      exact ⟨(p.1[i]).1, ht.2.2.2.2.2 _ (List.getElem_mem hi2), (ht.2.2.2.2.1 i _ (List.getElem?_eq_getElem hi2)).1⟩
    rw [show d + 2 * (m + 1) + 6 = d + 2 * m + 8 by omega]
    by_cases g : bet p q = true
    · have g1 := of_decide_eq_true g
      have e1 : be.1 < tr.1 ∨ be.1 = tr.1 ∧ tr.2.1 < be.2.1 := by omega
      obtain ⟨tr1, be1, r1, r2, r3⟩ := c53o (d := d) hz ha hl hb hL hL4 hcd ih hp hw hm L.length 0 pm_U tr _ p (by omega) ht (rep_cp (z := be) ht)
      refine ⟨tr1, be1, r1, ?_, ?_⟩
      · rw [dfs_s, if_pos g]
        exact r2
      · rw [← r3]
        generalize d + 2 * m = D at *
        simp (disch := first | assumption | exact pm_g0_ne1 _ | exact bn_ne1 _ | exact pm_g1_ne1 _ | omega) only [f53_0, f53_1, f53_4, f53_5, f53_8, f53_11, f53_14, f53_15, f53_18, f53_19, f53_22, f53_25, f53_26, f53_27, f53_30, f53_33, f53_34, f53_35, f53_38, f53_39, f53_42, f53_43, f53_44, List.getD_cons_zero, List.getD_cons_succ, List.set_cons_zero, List.set_cons_succ, List.length_cons, List.length_nil, pm_ty_i, pm_ty_l, pm_ty_n, pm_ty_r, pm_ty_u, pm_ty_q, pm_fit_i, pm_fit_l, pm_fit_n, pm_fit_r, pm_fit_q, pm_fit3_0, pm_fit3_1, ag_0, ag_s, List.headD_cons, List.cons_append, List.nil_append, Option.toList_some, Option.toList_none, if_true, if_false, ite_true, ite_false, ↓reduceIte, and_true, true_and, and_self, or_true, true_or, or_false, false_or, not_true_eq_false, not_false_eq_true, Nat.reduceLT, Nat.reduceLeDiff, Nat.reduceEqDiff, Nat.reduceAdd, Nat.reduceSub, reduceCtorEq, i_0, i_1, i_2, i_3, i_4, i_5, i_6, i_7, i_8, i_10, i_16, i_20, i_40, i_80, i_200, i_1000, i_m1, w_lt_t, w_lt_f, w_le_t, w_le_f, w_eq_t, w_eq_f, w_add, w_mul, w_sub, w_clamp, w_ne_m1, m1_lt, m1_le, w_lt_m1, w_le_m1, rf_null, rf_none, rf_some, Option.map_none, Option.map_some, Option.bind_some, el_i, el_r, w_div, w_dec0, w_inc_m1, el_l, ev_i, ev_l, ev_n, ev_r, gt_0, gt_1, gt_2, gt_3, gt_4, gt_5, gt_6, gt_7, gt_8, gt_9, gt_10, gt_11, gt_12, ob_0, ob_6, ob_9, gt_b, ob_b, sq_n, sq_r, st_2n, st_2s, st_0, st_4, st_6, st_9, st_12, st_8, st_11, st_5n, st_5s, st_7n, st_7s, st_10n, st_10s, if_pos, if_neg, c81, c82, w_f]
    · have g1 : ¬ (q.1.length < p.1.length ∨ (q.1.length = p.1.length ∧ p.2 < q.2)) := fun z => g (decide_eq_true z)
      have e1 : ¬ (be.1 < tr.1 ∨ be.1 = tr.1 ∧ tr.2.1 < be.2.1) := by omega
      obtain ⟨tr1, be1, r1, r2, r3⟩ := c53o (d := d) hz ha hl hb hL hL4 hcd ih hp hw hm L.length 0 pm_U tr be q (by omega) ht hq
      refine ⟨tr1, be1, r1, ?_, ?_⟩
      · rw [dfs_s, if_neg g]
        exact r2
      · rw [← r3]
        generalize d + 2 * m = D at *
        simp (disch := first | assumption | exact pm_g0_ne1 _ | exact bn_ne1 _ | exact pm_g1_ne1 _ | omega) only [f53_0, f53_1, f53_4, f53_5, f53_8, f53_11, f53_14, f53_15, f53_18, f53_19, f53_22, f53_25, f53_26, f53_27, f53_30, f53_33, f53_34, f53_35, f53_38, f53_39, f53_42, f53_43, f53_44, List.getD_cons_zero, List.getD_cons_succ, List.set_cons_zero, List.set_cons_succ, List.length_cons, List.length_nil, pm_ty_i, pm_ty_l, pm_ty_n, pm_ty_r, pm_ty_u, pm_ty_q, pm_fit_i, pm_fit_l, pm_fit_n, pm_fit_r, pm_fit_q, pm_fit3_0, pm_fit3_1, ag_0, ag_s, List.headD_cons, List.cons_append, List.nil_append, Option.toList_some, Option.toList_none, if_true, if_false, ite_true, ite_false, ↓reduceIte, and_true, true_and, and_self, or_true, true_or, or_false, false_or, not_true_eq_false, not_false_eq_true, Nat.reduceLT, Nat.reduceLeDiff, Nat.reduceEqDiff, Nat.reduceAdd, Nat.reduceSub, reduceCtorEq, i_0, i_1, i_2, i_3, i_4, i_5, i_6, i_7, i_8, i_10, i_16, i_20, i_40, i_80, i_200, i_1000, i_m1, w_lt_t, w_lt_f, w_le_t, w_le_f, w_eq_t, w_eq_f, w_add, w_mul, w_sub, w_clamp, w_ne_m1, m1_lt, m1_le, w_lt_m1, w_le_m1, rf_null, rf_none, rf_some, Option.map_none, Option.map_some, Option.bind_some, el_i, el_r, w_div, w_dec0, w_inc_m1, el_l, ev_i, ev_l, ev_n, ev_r, gt_0, gt_1, gt_2, gt_3, gt_4, gt_5, gt_6, gt_7, gt_8, gt_9, gt_10, gt_11, gt_12, ob_0, ob_6, ob_9, gt_b, ob_b, sq_n, sq_r, st_2n, st_2s, st_0, st_4, st_6, st_9, st_12, st_8, st_11, st_5n, st_5s, st_7n, st_7s, st_10n, st_10s, if_pos, if_neg, c81, w_f]
theorem dfs_mem {T R b : Nat} {a : at_T} {pg : pg_T} {ld : Nat → Nat} {L : List Nat} : ∀ (m : Nat) (p : wl_T) (ps : ps_T) (wh : wh_T) (q : wl_T), (∀ s ∈ p.1, s.1 ∈ L ∧ s.2 < R) → (∀ s ∈ q.1, s.1 ∈ L ∧ s.2 < R) → ∀ s ∈ (dfs T R b a pg ld L m p ps wh q).1, s.1 ∈ L ∧ s.2 < R
  | 0, p, ps, wh, q, hp, hq => by
    show ∀ s ∈ (if bet p q = true then p else q).1, s.1 ∈ L ∧ s.2 < R
    split
    · exact hp
    · exact hq
  | m + 1, p, ps, wh, q, hp, hq => by
    rw [dfs_s]
    have hst : ∀ x ∈ L.flatMap (fun k => (List.range R).map (fun r => (k, r))), x.1 ∈ L ∧ x.2 < R := by
      intro x hx
      obtain ⟨k, hk, hx⟩ := List.mem_flatMap.mp hx
      obtain ⟨r, hr, rfl⟩ := List.mem_map.mp hx
      exact ⟨hk, List.mem_range.mp hr⟩
    have h0 : ∀ s ∈ (if bet p q = true then p else q).1, s.1 ∈ L ∧ s.2 < R := by
      split
      · exact hp
      · exact hq
    generalize (if bet p q = true then p else q) = q0 at h0 ⊢
    generalize L.flatMap (fun k => (List.range R).map (fun r => (k, r))) = Z at hst ⊢
    induction Z generalizing q0 with
    | nil => exact h0
    | cons x Z ih =>
      rw [List.foldl_cons]
      refine ih _ ?_ (fun y hy => hst y (List.mem_cons_of_mem _ hy))
      unfold dst1
      split
      · refine dfs_mem m _ _ _ _ ?_ h0
        intro s hs
        rcases List.mem_append.mp hs with hs | hs
        · exact hp s hs
        · rw [List.mem_singleton.mp hs]
          exact hst x List.mem_cons_self
      · exact h0
def lay1 (T b : Nat) (z : ps_T × wh_T) (s : Nat × Nat) : ps_T × wh_T := if hgt z.2 b s.2 T < T then (va_up z.1 s.1 (some (b, s.2, hgt z.2 b s.2 T)), up3 z.2 b s.2 (hgt z.2 b s.2 T) (some s.1)) else z
set_option maxRecDepth 20000 in
theorem c20l (hz : dz B R T n) (ha : az n a) {b : Nat} (hb : b < B) {L : List Nat} (hL : ∀ k ∈ L, k < n ∧ ¬ (a k).1 = 40) {q : wl_T} (hq : rep n be q) (hqm : ∀ s ∈ q.1, s.1 ∈ L ∧ s.2 < R) : ∀ (mm j : Nat) (ps : ps_T) (wh : wh_T), j + mm = q.1.length → pz B R T n a ps → wz B R T n wh → fr S (d + 5) (20, 44, [.ref (g0 0), .int (w b), .int (w j)], []) (CM B R T n a ps wh pg ld kp cc cd tr be ou X) = some (.inl (some (.int (w q.1.length))), (CM B R T n a ((q.1.drop j).foldl (lay1 T b) (ps, wh)).1 ((q.1.drop j).foldl (lay1 T b) (ps, wh)).2 pg ld kp cc cd tr be ou X)) := by
  have hn := hz.2.2.2.2.2.2
  have hB := hz.2.1
  have hR := hz.2.2.2.1
  have hT := hz.2.2.2.2.2.1
  have hq1 := hq.1
  have hq4 := hq.2.2.2.1
  intro mm
  induction mm with
  | zero =>
    intro j ps wh hj hp hw
    rw [f20_44, List.drop_of_length_le (by omega), List.foldl_nil]
    simp (disch := first | assumption | exact pm_g0_ne1 _ | exact bn_ne1 _ | exact pm_g1_ne1 _ | omega) only [f20_45, f20_46, f20_49, f20_52, f20_55, f20_56, f20_57, f20_60, f20_61, f20_64, f20_65, f20_66, f20_69, f20_70, f20_73, f20_76, f20_77, f20_80, f20_83, f20_84, f20_87, f20_90, List.getD_cons_zero, List.getD_cons_succ, List.set_cons_zero, List.set_cons_succ, List.length_cons, List.length_nil, pm_ty_i, pm_ty_l, pm_ty_n, pm_ty_r, pm_ty_u, pm_ty_q, pm_fit_i, pm_fit_l, pm_fit_n, pm_fit_r, pm_fit_q, pm_fit3_0, pm_fit3_1, ag_0, ag_s, List.headD_cons, List.cons_append, List.nil_append, Option.toList_some, Option.toList_none, if_true, if_false, ite_true, ite_false, ↓reduceIte, and_true, true_and, and_self, or_true, true_or, or_false, false_or, not_true_eq_false, not_false_eq_true, Nat.reduceLT, Nat.reduceLeDiff, Nat.reduceEqDiff, Nat.reduceAdd, Nat.reduceSub, reduceCtorEq, i_0, i_1, i_2, i_3, i_4, i_5, i_6, i_7, i_8, i_10, i_16, i_20, i_40, i_80, i_200, i_1000, i_m1, w_lt_t, w_lt_f, w_le_t, w_le_f, w_eq_t, w_eq_f, w_add, w_mul, w_sub, w_clamp, w_ne_m1, m1_lt, m1_le, w_lt_m1, w_le_m1, rf_null, rf_none, rf_some, Option.map_none, Option.map_some, Option.bind_some, el_i, el_r, w_div, w_dec0, w_inc_m1, el_l, ev_i, ev_l, ev_n, ev_r, gt_0, gt_1, gt_2, gt_3, gt_4, gt_5, gt_6, gt_7, gt_8, gt_9, gt_10, gt_11, gt_12, ob_0, ob_6, ob_9, gt_b, ob_b, sq_n, sq_r, st_2n, st_2s, st_0, st_4, st_6, st_9, st_12, st_8, st_11, st_5n, st_5s, st_7n, st_7s, st_10n, st_10s, if_pos, if_neg, hq1]
  | succ mm ih =>
    intro j ps wh hj hp hw
    have hjl : j < q.1.length := by omega
    have hs := List.getElem?_eq_getElem hjl
    obtain ⟨e1, e2⟩ := hq.2.2.2.2.1 j _ hs
    obtain ⟨hkL, hr⟩ := hqm _ (List.getElem_mem hjl)
    obtain ⟨hkn, hs40⟩ := hL _ hkL
    have c56' := c56 (S := S) (d := d) (ps := ps) (wh := wh) (pg := pg) (ld := ld) (kp := kp) (cc := cc) (cd := cd) (tr := tr) (be := be) (ou := ou) (X := X) hz ha hw hkn hs40 hb hr
    rw [f20_44, List.drop_eq_getElem_cons hjl, List.foldl_cons]
    by_cases h : hgt wh b (q.1[j]).2 T < T
    · rw [if_pos h] at c56'
      have g := ih (j + 1) _ _ (by omega) (pz_up hp hkn hs40 hb hr h) (wz_up hw hkn hb hr h)
      rw [show lay1 T b (ps, wh) (q.1[j]) = _ from if_pos h]
      simp (disch := first | assumption | exact pm_g0_ne1 _ | exact bn_ne1 _ | exact pm_g1_ne1 _ | omega) only [f20_45, f20_46, f20_49, f20_52, f20_55, f20_56, f20_57, f20_60, f20_61, f20_64, f20_65, f20_66, f20_69, f20_70, f20_73, f20_76, f20_77, f20_80, f20_83, f20_84, f20_87, f20_90, List.getD_cons_zero, List.getD_cons_succ, List.set_cons_zero, List.set_cons_succ, List.length_cons, List.length_nil, pm_ty_i, pm_ty_l, pm_ty_n, pm_ty_r, pm_ty_u, pm_ty_q, pm_fit_i, pm_fit_l, pm_fit_n, pm_fit_r, pm_fit_q, pm_fit3_0, pm_fit3_1, ag_0, ag_s, List.headD_cons, List.cons_append, List.nil_append, Option.toList_some, Option.toList_none, if_true, if_false, ite_true, ite_false, ↓reduceIte, and_true, true_and, and_self, or_true, true_or, or_false, false_or, not_true_eq_false, not_false_eq_true, Nat.reduceLT, Nat.reduceLeDiff, Nat.reduceEqDiff, Nat.reduceAdd, Nat.reduceSub, reduceCtorEq, i_0, i_1, i_2, i_3, i_4, i_5, i_6, i_7, i_8, i_10, i_16, i_20, i_40, i_80, i_200, i_1000, i_m1, w_lt_t, w_lt_f, w_le_t, w_le_f, w_eq_t, w_eq_f, w_add, w_mul, w_sub, w_clamp, w_ne_m1, m1_lt, m1_le, w_lt_m1, w_le_m1, rf_null, rf_none, rf_some, Option.map_none, Option.map_some, Option.bind_some, el_i, el_r, w_div, w_dec0, w_inc_m1, el_l, ev_i, ev_l, ev_n, ev_r, gt_0, gt_1, gt_2, gt_3, gt_4, gt_5, gt_6, gt_7, gt_8, gt_9, gt_10, gt_11, gt_12, ob_0, ob_6, ob_9, gt_b, ob_b, sq_n, sq_r, st_2n, st_2s, st_0, st_4, st_6, st_9, st_12, st_8, st_11, st_5n, st_5s, st_7n, st_7s, st_10n, st_10s, if_pos, if_neg, hq1, c79 (show j < be.1 by omega) (by omega) e1, c80, e2, c56']
      exact g
    · rw [if_neg h] at c56'
      have g := ih (j + 1) ps wh (by omega) hp hw
      rw [show lay1 T b (ps, wh) (q.1[j]) = (ps, wh) from if_neg h]
      simp (disch := first | assumption | exact pm_g0_ne1 _ | exact bn_ne1 _ | exact pm_g1_ne1 _ | omega) only [f20_45, f20_46, f20_49, f20_52, f20_55, f20_56, f20_57, f20_60, f20_61, f20_64, f20_65, f20_66, f20_69, f20_70, f20_73, f20_76, f20_77, f20_80, f20_83, f20_84, f20_87, f20_90, List.getD_cons_zero, List.getD_cons_succ, List.set_cons_zero, List.set_cons_succ, List.length_cons, List.length_nil, pm_ty_i, pm_ty_l, pm_ty_n, pm_ty_r, pm_ty_u, pm_ty_q, pm_fit_i, pm_fit_l, pm_fit_n, pm_fit_r, pm_fit_q, pm_fit3_0, pm_fit3_1, ag_0, ag_s, List.headD_cons, List.cons_append, List.nil_append, Option.toList_some, Option.toList_none, if_true, if_false, ite_true, ite_false, ↓reduceIte, and_true, true_and, and_self, or_true, true_or, or_false, false_or, not_true_eq_false, not_false_eq_true, Nat.reduceLT, Nat.reduceLeDiff, Nat.reduceEqDiff, Nat.reduceAdd, Nat.reduceSub, reduceCtorEq, i_0, i_1, i_2, i_3, i_4, i_5, i_6, i_7, i_8, i_10, i_16, i_20, i_40, i_80, i_200, i_1000, i_m1, w_lt_t, w_lt_f, w_le_t, w_le_f, w_eq_t, w_eq_f, w_add, w_mul, w_sub, w_clamp, w_ne_m1, m1_lt, m1_le, w_lt_m1, w_le_m1, rf_null, rf_none, rf_some, Option.map_none, Option.map_some, Option.bind_some, el_i, el_r, w_div, w_dec0, w_inc_m1, el_l, ev_i, ev_l, ev_n, ev_r, gt_0, gt_1, gt_2, gt_3, gt_4, gt_5, gt_6, gt_7, gt_8, gt_9, gt_10, gt_11, gt_12, ob_0, ob_6, ob_9, gt_b, ob_b, sq_n, sq_r, st_2n, st_2s, st_0, st_4, st_6, st_9, st_12, st_8, st_11, st_5n, st_5s, st_7n, st_7s, st_10n, st_10s, if_pos, if_neg, hq1, c79 (show j < be.1 by omega) (by omega) e1, c80, e2, c56']
      exact g
/-- the way that a fill takes -/
def fway (T R n b : Nat) (a : at_T) (pg : pg_T) (ld : Nat → Nat) (ps : ps_T) (wh : wh_T) : List (Nat × Nat) := (dfs T R b a pg ld (cands a ps n) (cands a ps n).length ([], 0) ps wh ([], 0)).1
set_option maxRecDepth 20000 in
theorem c20 (hz : dz B R T n) (ha : az n a) (hl : lz ld) (hp : pz B R T n a ps) (hw : wz B R T n wh) {b : Nat} (hb : b < B) : ∃ (cc' : Nat) (cd' : Nat → Option Nat) (tr' be' : wy_T), fr S (d + 16) (20, 0, [.ref (g0 0), .int (w b), pm_U], []) (CM B R T n a ps wh pg ld kp cc cd tr be ou X) = some (.inl (some (.int (w (fway T R n b a pg ld ps wh).length))), (CM B R T n a ((fway T R n b a pg ld ps wh).foldl (lay1 T b) (ps, wh)).1 ((fway T R n b a pg ld ps wh).foldl (lay1 T b) (ps, wh)).2 pg ld kp cc' cd' tr' be' ou X)) := by
  have hn := hz.2.2.2.2.2.2
  have hB := hz.2.1
  have hR := hz.2.2.2.1
  have hT := hz.2.2.2.2.2.1
  have hL : ∀ k ∈ cands a ps n, k < n ∧ ¬ (a k).1 = 40 := fun k hk => ⟨(cands_mem hk).1, (cands_mem hk).2.1⟩
  have hL4 := cands_le a ps n
  have r0 : ∀ f g, rep n (0, 0, f, g) ([], 0) := fun f g => ⟨rfl, rfl, Nat.zero_le _, Nat.zero_le _, fun i s hs => (nomatch hs), fun s hs => (nomatch hs)⟩
  obtain ⟨f', hf, e1⟩ := c52 (S := S) (d := d + 14) (wh := wh) (pg := pg) (ld := ld) (kp := kp) (cc := cc) (cd := cd) (tr := tr) (be := be) (ou := ou) (X := X) hz ha hp
  obtain ⟨tr1, be1, q1, q2, e2⟩ := c53 (S := S) (kp := kp) (ou := ou) (X := X) hz ha hl hb hL hL4 (cd := f') hf (cands a ps n).length (d + 9 - 2 * (cands a ps n).length) ps wh (0, 0, tr.2.2) (0, 0, be.2.2) ([], 0) ([], 0) hp hw (by show 0 + _ = _; omega) (r0 _ _) (r0 _ _)
  rw [show d + 9 - 2 * (cands a ps n).length + 2 * (cands a ps n).length + 6 = d + 15 by omega] at e2
  refine ⟨(cands a ps n).length, f', tr1, be1, ?_⟩
  have e3 := c20l (S := S) (d := d + 11) (pg := pg) (ld := ld) (kp := kp) (cc := (cands a ps n).length) (cd := f') (tr := tr1) (ou := ou) (X := X) hz ha hb hL q2 (dfs_mem _ _ _ _ _ (fun s hs => (nomatch hs)) (fun s hs => (nomatch hs))) (fway T R n b a pg ld ps wh).length 0 ps wh (by rw [Nat.zero_add]; rfl) hp hw
  rw [List.drop_zero] at e3
  have e2 : fr S (d + 15) (53, 0, [.ref (g0 0), .int (w b), .int (w 0), pm_U, pm_U], []) _ = _ := e2
  simp (disch := first | assumption | exact pm_g0_ne1 _ | exact bn_ne1 _ | exact pm_g1_ne1 _ | omega) only [f20_0, f20_1, f20_2, f20_5, f20_8, f20_11, f20_18, f20_19, f20_22, f20_23, f20_26, f20_29, f20_30, f20_33, f20_36, f20_37, f20_38, f20_39, f20_42, f20_43, List.getD_cons_zero, List.getD_cons_succ, List.set_cons_zero, List.set_cons_succ, List.length_cons, List.length_nil, pm_ty_i, pm_ty_l, pm_ty_n, pm_ty_r, pm_ty_u, pm_ty_q, pm_fit_i, pm_fit_l, pm_fit_n, pm_fit_r, pm_fit_q, pm_fit3_0, pm_fit3_1, ag_0, ag_s, List.headD_cons, List.cons_append, List.nil_append, Option.toList_some, Option.toList_none, if_true, if_false, ite_true, ite_false, ↓reduceIte, and_true, true_and, and_self, or_true, true_or, or_false, false_or, not_true_eq_false, not_false_eq_true, Nat.reduceLT, Nat.reduceLeDiff, Nat.reduceEqDiff, Nat.reduceAdd, Nat.reduceSub, reduceCtorEq, i_0, i_1, i_2, i_3, i_4, i_5, i_6, i_7, i_8, i_10, i_16, i_20, i_40, i_80, i_200, i_1000, i_m1, w_lt_t, w_lt_f, w_le_t, w_le_f, w_eq_t, w_eq_f, w_add, w_mul, w_sub, w_clamp, w_ne_m1, m1_lt, m1_le, w_lt_m1, w_le_m1, rf_null, rf_none, rf_some, Option.map_none, Option.map_some, Option.bind_some, el_i, el_r, w_div, w_dec0, w_inc_m1, el_l, ev_i, ev_l, ev_n, ev_r, gt_0, gt_1, gt_2, gt_3, gt_4, gt_5, gt_6, gt_7, gt_8, gt_9, gt_10, gt_11, gt_12, ob_0, ob_6, ob_9, gt_b, ob_b, sq_n, sq_r, st_2n, st_2s, st_0, st_4, st_6, st_9, st_12, st_8, st_11, st_5n, st_5s, st_7n, st_7s, st_10n, st_10s, if_pos, if_neg, c26b hz, e1, c76t, c76b, e2]
  exact e3
set_option maxRecDepth 20000 in
theorem c20n {x : Int32} (h : ¬ (w 0 ≤ x ∧ x < w B)) : fr S (d + 16) (20, 0, [.ref (g0 0), .int x, pm_U], []) (CM B R T n a ps wh pg ld kp cc cd tr be ou X) = some (.inr "java/lang/IndexOutOfBoundsException", (CM B R T n a ps wh pg ld kp cc cd tr be ou (X.1, (X.2.1 + 1, X.2.2 + 6)))) := by
  simp (disch := first | assumption | exact pm_g0_ne1 _ | exact bn_ne1 _ | exact pm_g1_ne1 _ | omega) only [f20_0, f20_1, f20_2, f20_5, f20_8, f20_11, f20_18, f20_19, f20_22, f20_23, f20_26, f20_29, f20_30, f20_33, f20_36, f20_37, f20_38, f20_39, f20_42, f20_43, List.getD_cons_zero, List.getD_cons_succ, List.set_cons_zero, List.set_cons_succ, List.length_cons, List.length_nil, pm_ty_i, pm_ty_l, pm_ty_n, pm_ty_r, pm_ty_u, pm_ty_q, pm_fit_i, pm_fit_l, pm_fit_n, pm_fit_r, pm_fit_q, pm_fit3_0, pm_fit3_1, ag_0, ag_s, List.headD_cons, List.cons_append, List.nil_append, Option.toList_some, Option.toList_none, if_true, if_false, ite_true, ite_false, ↓reduceIte, and_true, true_and, and_self, or_true, true_or, or_false, false_or, not_true_eq_false, not_false_eq_true, Nat.reduceLT, Nat.reduceLeDiff, Nat.reduceEqDiff, Nat.reduceAdd, Nat.reduceSub, reduceCtorEq, i_0, i_1, i_2, i_3, i_4, i_5, i_6, i_7, i_8, i_10, i_16, i_20, i_40, i_80, i_200, i_1000, i_m1, w_lt_t, w_lt_f, w_le_t, w_le_f, w_eq_t, w_eq_f, w_add, w_mul, w_sub, w_clamp, w_ne_m1, m1_lt, m1_le, w_lt_m1, w_le_m1, rf_null, rf_none, rf_some, Option.map_none, Option.map_some, Option.bind_some, el_i, el_r, w_div, w_dec0, w_inc_m1, el_l, ev_i, ev_l, ev_n, ev_r, gt_0, gt_1, gt_2, gt_3, gt_4, gt_5, gt_6, gt_7, gt_8, gt_9, gt_10, gt_11, gt_12, ob_0, ob_6, ob_9, gt_b, ob_b, sq_n, sq_r, st_2n, st_2s, st_0, st_4, st_6, st_9, st_12, st_8, st_11, st_5n, st_5s, st_7n, st_7s, st_10n, st_10s, if_pos, if_neg, c26, eq_false h, thr_C]
end C15
