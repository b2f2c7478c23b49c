/-! The reference's fill: the search. -/
def sq1 (q : Option (Nat × Nat)) : Int32 := match q with
  | none => m1
  | some (c, _) => w c
def sq2 (q : Option (Nat × Nat)) : Int32 := match q with
  | none => w 0
  | some (_, o) => w o
def srs (f : Nat → Option Nat) (v : Nat) (q : Option (Nat × Nat)) : Option (Nat × Nat) := match f v with
  | none => q
  | some o => match q with
    | none => some (v, o)
    | some (c, o') => if o < o' then some (v, o) else some (c, o')
def srl (f : Nat → Option Nat) : Nat → Nat → Option (Nat × Nat) → Option (Nat × Nat)
  | 0, _, q => q
  | m + 1, v, q => srl f m (v + 1) (srs f v q)
section SRC
variable (T R b : Nat) (a : at_T) (pg : pg_T) (ld : Nat → Nat) (L : List Nat)
def srf (ps : ps_T) (wh : wh_T) (len v : Nat) : Option Nat := if (doz T R b a pg ld L len v ps wh).length = len then some (oin R T a ((doz T R b a pg ld L len v ps wh).foldl (lay1 T b) (ps, wh)).2 0 true b) else none
def src (ps : ps_T) (wh : wh_T) : Nat → List (Nat × Nat)
  | 0 => []
  | len + 1 => match srl (srf T R b a pg ld L ps wh (len + 1)) (16 ^ (len + 1)) 0 none with
    | none => src ps wh len
    | some (c, _) => doz T R b a pg ld L (len + 1) c ps wh
end SRC
theorem og_le (a : at_T) (wh : wh_T) (p : Nat) (all : Bool) (b r t k : Nat) : og a wh p all b r t k ≤ 1 := by
  unfold og
  split
  · omega
  · split
    · omega
    · split <;> omega
theorem oin_le {R T : Nat} (hR : R ≤ 4) (hT : T ≤ 5) (a : at_T) (wh : wh_T) (p : Nat) (all : Bool) (b : Nat) : oin R T a wh p all b ≤ 100 := by
  unfold oin
  have h1 : ∀ r t, t < T → sm (fun k => og a wh p all b r t k) t ≤ 5 := fun r t ht => Nat.le_trans (sm_le (c := 1) (fun k _ => og_le a wh p all b r t k)) (by omega)
  have h2 : ∀ r, sm (fun t => sm (fun k => og a wh p all b r t k) t) T ≤ 25 := fun r => Nat.le_trans (sm_le (c := 5) (fun t ht => h1 r t ht)) (by omega)
  exact Nat.le_trans (sm_le (c := 25) (fun r _ => h2 r)) (by omega)
def qok (q : Option (Nat × Nat)) : Prop := ∀ c o, q = some (c, o) → c < 65536 ∧ o ≤ 100
theorem qok_srs {f : Nat → Option Nat} {v : Nat} {q : Option (Nat × Nat)} (hq : qok q) (hv : v < 65536) (hf : ∀ o, f v = some o → o ≤ 100) : qok (srs f v q) := by
  intro c o h
  unfold srs at h
  cases h1 : f v with
  | none => rw [h1] at h; exact hq c o h
  | some x =>
    rw [h1] at h
    cases q with
    | none => cases h; exact ⟨hv, hf _ h1⟩
    | some y =>
      obtain ⟨c', o'⟩ := y
      dsimp only at h
      split at h
      · cases h; exact ⟨hv, hf _ h1⟩
      · exact hq c o h
theorem qok_srl {f : Nat → Option Nat} (hf : ∀ v o, f v = some o → o ≤ 100) : ∀ (m v : Nat) (q : Option (Nat × Nat)), v + m ≤ 65536 → qok q → qok (srl f m v q)
  | 0, _, _, _, h => h
  | m + 1, v, q, hv, h => qok_srl hf m (v + 1) _ (by omega) (qok_srs h (by omega) (hf v))
theorem srf_le {T R b : Nat} {a : at_T} {pg : pg_T} {ld : Nat → Nat} {L : List Nat} {ps : ps_T} {wh : wh_T} {len : Nat} (hR : R ≤ 4) (hT : T ≤ 5) : ∀ v o, srf T R b a pg ld L ps wh len v = some o → o ≤ 100 := by
  intro v o h
  unfold srf at h
  split at h
  · cases h; exact oin_le hR hT _ _ _ _ _
  · exact nomatch h
theorem p16 {len : Nat} (h : len ≤ 4) : 16 ^ len ≤ 65536 := Nat.le_trans (Nat.pow_le_pow_right (by omega) h) (by decide)
section M8
variable {th B R T n : Nat} {a : at_T} {ps : ps_T} {wh : wh_T} {pg : pg_T} {ld : Nat → Nat} {ap : Nat → Nat → Bool} {my : Nat → Nat} {mc : Nat} {bs : Nat → Nat} {X : pm_A × (Nat × Nat)} {S : pm_S} {d : Nat}
set_option maxRecDepth 20000 in
theorem m134i (hz : dz B R T n) (ha : az n a) (hl : lz ld) {L : List Nat} (hL : ∀ k ∈ L, k < n ∧ ¬ (a k).1 = 40) (hL4 : L.length ≤ 4) (hmy : ∀ j k, L[j]? = some k → my j = k) {b len : Nat} (hb : b < B) (hlen : len ≤ 4) (hj : jj B R T n a ps wh) : ∀ (m v : Nat) (q : Option (Nat × Nat)) (bs : Nat → Nat) (v6 v7 : Value), v + m = 16 ^ len → qok q → ∃ (bs' : Nat → Nat) (v6' v7' : Value), fr S (d + 6) (134, 17, [.ref (g1 1), .int (w b), .int (w len), .int (sq1 q), .int (sq2 q), .int (w v), v6, v7], []) (MM th B R T n a ps wh pg ld ap my L.length bs X) = fr S (d + 6) (134, 92, [.ref (g1 1), .int (w b), .int (w len), .int (sq1 (srl (srf T R b a pg ld L ps wh len) m v q)), .int (sq2 (srl (srf T R b a pg ld L ps wh len) m v q)), .int (w (16 ^ len)), v6', v7'], []) (MM th B R T n a ps wh pg ld ap my L.length bs' X) := by
  have hn := hz.2.2.2.2.2.2
  have hB := hz.2.1
  have hR := hz.2.2.2.1
  have hT := hz.2.2.2.2.2.1
  have hB1 := hz.1
  have hR1 := hz.2.2.1
  have hT1 := hz.2.2.2.2.1
  have h16 := p16 hlen
  have hsh := w_shl (m := len) (by omega)
  intro m
  induction m with
  | zero =>
    intro v q bs v6 v7 hv hq
    obtain rfl : v = 16 ^ len := hv
    refine ⟨bs, v6, v7, ?_⟩
    rw [f134_17]
    simp (disch := first | assumption | exact pm_g0_ne1 _ | exact bn_ne1 _ | exact pm_g1_ne1 _ | omega) only [f134_19, f134_20, f134_21, f134_22, f134_23, f134_24, f134_27, f134_28, f134_29, f134_31, f134_32, f134_35, f134_37, f134_39, f134_40, f134_43, f134_44, f134_45, f134_46, f134_47, f134_50, f134_53, f134_54, f134_56, f134_58, f134_59, f134_62, f134_63, f134_66, f134_68, f134_70, f134_73, f134_75, f134_76, f134_78, f134_80, f134_81, f134_83, f134_86, f134_89, List.getD_cons_zero, List.getD_cons_succ, List.set_cons_zero, List.set_cons_succ, List.length_cons, List.length_nil, pm_ty_i, pm_ty_l, pm_ty_n, pm_ty_r, pm_ty_u, pm_ty_q, pm_fit_i, pm_fit_l, pm_fit_n, pm_fit_r, pm_fit_q, pm_fit3_0, pm_fit3_1, ag_0, ag_s, List.headD_cons, List.cons_append, List.nil_append, Option.toList_some, Option.toList_none, if_true, if_false, ite_true, ite_false, ↓reduceIte, and_true, true_and, and_self, or_true, true_or, or_false, false_or, not_true_eq_false, not_false_eq_true, Nat.reduceLT, Nat.reduceLeDiff, Nat.reduceEqDiff, Nat.reduceAdd, Nat.reduceSub, reduceCtorEq, i_0, i_1, i_2, i_3, i_4, i_5, i_6, i_7, i_8, i_10, i_16, i_20, i_40, i_80, i_200, i_1000, i_m1, w_lt_t, w_lt_f, w_le_t, w_le_f, w_eq_t, w_eq_f, w_add, w_mul, w_sub, w_clamp, w_ne_m1, m1_lt, m1_le, w_lt_m1, w_le_m1, rf_null, rf_none, rf_some, Option.map_none, Option.map_some, Option.bind_some, el_i, el_r, w_div, w_dec0, w_inc_m1, el_l, ev_i, ev_l, ev_n, ev_r, gm_1, gm_2, gm_3, gm_4, gm_5, gm_6, gm_7, gm_8, gm_9, gm_10, gm_11, gm_12, om_1, sm_th, sm_mc, sm_6s, sm_6n, sm_7n, sm_7s, sm_9, sm_11, sm_12, sm_8f, sm_8t, sm_10f, sm_10t, sq_i, ev_z0, ev_z1, if_pos, if_neg, hsh]
    rfl
  | succ m ih =>
    intro v q bs v6 v7 hv hq
    have hv1 : v < 65536 := by omega
    have hvl : v < 16 ^ len := by omega
    obtain ⟨bs1, g2, g3⟩ := m132 (S := S) (d := d) (th := th) (pg := pg) (ap := ap) (bs := bs) (X := X) hz ha hl hL hL4 hmy hb hv1 hlen hj
    have hvd := doz_v (T := T) (R := R) (b := b) (a := a) (pg := pg) (ld := ld) (L := L) len v ps wh
    have hle := doz_le (T := T) (R := R) (b := b) (a := a) (pg := pg) (ld := ld) (L := L) len v ps wh
    obtain ⟨p1, p2, p3⟩ := vld_p _ _ _ hvd
    have hj1 := vld_j hL hb _ _ _ hj hvd
    have hbk := vld_back hj.2.2.2 hvd
    have g4 := m133 (S := S) (d := d) (th := th) (pg := pg) (ld := ld) (ap := ap) (my := my) (mc := L.length) (bs := bs1) (X := X) hz ha (l := (doz T R b a pg ld L len v ps wh).map Prod.fst) (by rw [List.length_map]; omega) (fun j k h => by
      rw [List.getElem?_map] at h
      cases h1 : (doz T R b a pg ld L len v ps wh)[j]? with
      | none => rw [h1] at h; exact nomatch h
      | some s => rw [h1] at h; cases h; exact g2 j s h1) (fun k hk => by
      obtain ⟨s, hs, rfl⟩ := List.mem_map.mp hk
      obtain ⟨_, h2, _, h4⟩ := p2 s hs
      exact ⟨(hL _ h2).1, (hL _ h2).2, h4⟩) p3 hj1
    rw [List.length_map, hbk] at g4
    dsimp only at g4
    have g5 := m127 (S := S) (d := d + 2) (th := th) (ps := ((doz T R b a pg ld L len v ps wh).foldl (lay1 T b) (ps, wh)).1) (pg := pg) (ld := ld) (ap := ap) (my := my) (mc := L.length) (bs := bs1) (X := X) hz ha hj1.2.1 (p := 0) (all := true) (by omega) hb
    have ho := oin_le hR hT a ((doz T R b a pg ld L len v ps wh).foldl (lay1 T b) (ps, wh)).2 0 true b
    rw [bi_t] at g5
    have hqs : qok (srs (srf T R b a pg ld L ps wh len) v q) := qok_srs hq hv1 (srf_le hR hT v)
    show ∃ (bs' : Nat → Nat) (v6' v7' : Value), _ = fr S (d + 6) (134, 92, [.ref (g1 1), .int (w b), .int (w len), .int (sq1 (srl (srf T R b a pg ld L ps wh len) m (v + 1) (srs (srf T R b a pg ld L ps wh len) v q))), .int (sq2 (srl (srf T R b a pg ld L ps wh len) m (v + 1) (srs (srf T R b a pg ld L ps wh len) v q))), .int (w (16 ^ len)), v6', v7'], []) (MM th B R T n a ps wh pg ld ap my L.length bs' X)
    by_cases hc : (doz T R b a pg ld L len v ps wh).length = len
    · have hf : (srf T R b a pg ld L ps wh len) v = some (oin R T a ((doz T R b a pg ld L len v ps wh).foldl (lay1 T b) (ps, wh)).2 0 true b) := if_pos hc
      rw [hc] at g3 g4
      cases q with
      | none =>
        have hs : srs (srf T R b a pg ld L ps wh len) v none = some (v, oin R T a ((doz T R b a pg ld L len v ps wh).foldl (lay1 T b) (ps, wh)).2 0 true b) := by
          unfold srs
          rw [hf]
        obtain ⟨bs', v6', v7', g6⟩ := ih (v + 1) (srs (srf T R b a pg ld L ps wh len) v none) bs1 (.int (w len)) (.int (w (oin R T a ((doz T R b a pg ld L len v ps wh).foldl (lay1 T b) (ps, wh)).2 0 true b))) (by omega) hqs
        refine ⟨bs', v6', v7', ?_⟩
        refine Eq.trans ?_ g6
        rw [hs, f134_17]
        simp (disch := first | assumption | exact pm_g0_ne1 _ | exact bn_ne1 _ | exact pm_g1_ne1 _ | omega) only [f134_19, f134_20, f134_21, f134_22, f134_23, f134_24, f134_27, f134_28, f134_29, f134_31, f134_32, f134_35, f134_37, f134_39, f134_40, f134_43, f134_44, f134_45, f134_46, f134_47, f134_50, f134_53, f134_54, f134_56, f134_58, f134_59, f134_62, f134_63, f134_66, f134_68, f134_70, f134_73, f134_75, f134_76, f134_78, f134_80, f134_81, f134_83, f134_86, f134_89, List.getD_cons_zero, List.getD_cons_succ, List.set_cons_zero, List.set_cons_succ, List.length_cons, List.length_nil, pm_ty_i, pm_ty_l, pm_ty_n, pm_ty_r, pm_ty_u, pm_ty_q, pm_fit_i, pm_fit_l, pm_fit_n, pm_fit_r, pm_fit_q, pm_fit3_0, pm_fit3_1, ag_0, ag_s, List.headD_cons, List.cons_append, List.nil_append, Option.toList_some, Option.toList_none, if_true, if_false, ite_true, ite_false, ↓reduceIte, and_true, true_and, and_self, or_true, true_or, or_false, false_or, not_true_eq_false, not_false_eq_true, Nat.reduceLT, Nat.reduceLeDiff, Nat.reduceEqDiff, Nat.reduceAdd, Nat.reduceSub, reduceCtorEq, i_0, i_1, i_2, i_3, i_4, i_5, i_6, i_7, i_8, i_10, i_16, i_20, i_40, i_80, i_200, i_1000, i_m1, w_lt_t, w_lt_f, w_le_t, w_le_f, w_eq_t, w_eq_f, w_add, w_mul, w_sub, w_clamp, w_ne_m1, m1_lt, m1_le, w_lt_m1, w_le_m1, rf_null, rf_none, rf_some, Option.map_none, Option.map_some, Option.bind_some, el_i, el_r, w_div, w_dec0, w_inc_m1, el_l, ev_i, ev_l, ev_n, ev_r, gm_1, gm_2, gm_3, gm_4, gm_5, gm_6, gm_7, gm_8, gm_9, gm_10, gm_11, gm_12, om_1, sm_th, sm_mc, sm_6s, sm_6n, sm_7n, sm_7s, sm_9, sm_11, sm_12, sm_8f, sm_8t, sm_10f, sm_10t, sq_i, ev_z0, ev_z1, if_pos, if_neg, hsh, g3, g5, g4, show sq1 none = m1 from rfl, show sq2 none = w 0 from rfl]
        rfl
      | some y =>
        obtain ⟨c, o'⟩ := y
        obtain ⟨hq1, hq2⟩ := hq c o' rfl
        by_cases ho2 : oin R T a ((doz T R b a pg ld L len v ps wh).foldl (lay1 T b) (ps, wh)).2 0 true b < o'
        · have hs : srs (srf T R b a pg ld L ps wh len) v (some (c, o')) = some (v, oin R T a ((doz T R b a pg ld L len v ps wh).foldl (lay1 T b) (ps, wh)).2 0 true b) := by
            unfold srs
            rw [hf]
            exact if_pos ho2
          obtain ⟨bs', v6', v7', g6⟩ := ih (v + 1) (srs (srf T R b a pg ld L ps wh len) v (some (c, o'))) bs1 (.int (w len)) (.int (w (oin R T a ((doz T R b a pg ld L len v ps wh).foldl (lay1 T b) (ps, wh)).2 0 true b))) (by omega) hqs
          refine ⟨bs', v6', v7', ?_⟩
          refine Eq.trans ?_ g6
          rw [hs, f134_17]
          simp (disch := first | assumption | exact pm_g0_ne1 _ | exact bn_ne1 _ | exact pm_g1_ne1 _ | omega) only [f134_19, f134_20, f134_21, f134_22, f134_23, f134_24, f134_27, f134_28, f134_29, f134_31, f134_32, f134_35, f134_37, f134_39, f134_40, f134_43, f134_44, f134_45, f134_46, f134_47, f134_50, f134_53, f134_54, f134_56, f134_58, f134_59, f134_62, f134_63, f134_66, f134_68, f134_70, f134_73, f134_75, f134_76, f134_78, f134_80, f134_81, f134_83, f134_86, f134_89, List.getD_cons_zero, List.getD_cons_succ, List.set_cons_zero, List.set_cons_succ, List.length_cons, List.length_nil, pm_ty_i, pm_ty_l, pm_ty_n, pm_ty_r, pm_ty_u, pm_ty_q, pm_fit_i, pm_fit_l, pm_fit_n, pm_fit_r, pm_fit_q, pm_fit3_0, pm_fit3_1, ag_0, ag_s, List.headD_cons, List.cons_append, List.nil_append, Option.toList_some, Option.toList_none, if_true, if_false, ite_true, ite_false, ↓reduceIte, and_true, true_and, and_self, or_true, true_or, or_false, false_or, not_true_eq_false, not_false_eq_true, Nat.reduceLT, Nat.reduceLeDiff, Nat.reduceEqDiff, Nat.reduceAdd, Nat.reduceSub, reduceCtorEq, i_0, i_1, i_2, i_3, i_4, i_5, i_6, i_7, i_8, i_10, i_16, i_20, i_40, i_80, i_200, i_1000, i_m1, w_lt_t, w_lt_f, w_le_t, w_le_f, w_eq_t, w_eq_f, w_add, w_mul, w_sub, w_clamp, w_ne_m1, m1_lt, m1_le, w_lt_m1, w_le_m1, rf_null, rf_none, rf_some, Option.map_none, Option.map_some, Option.bind_some, el_i, el_r, w_div, w_dec0, w_inc_m1, el_l, ev_i, ev_l, ev_n, ev_r, gm_1, gm_2, gm_3, gm_4, gm_5, gm_6, gm_7, gm_8, gm_9, gm_10, gm_11, gm_12, om_1, sm_th, sm_mc, sm_6s, sm_6n, sm_7n, sm_7s, sm_9, sm_11, sm_12, sm_8f, sm_8t, sm_10f, sm_10t, sq_i, ev_z0, ev_z1, if_pos, if_neg, hsh, g3, g5, g4, show sq1 (some (c, o')) = w c from rfl, show sq2 (some (c, o')) = w o' from rfl]
          rfl
        · have hs : srs (srf T R b a pg ld L ps wh len) v (some (c, o')) = some (c, o') := by
            unfold srs
            rw [hf]
            exact if_neg ho2
          obtain ⟨bs', v6', v7', g6⟩ := ih (v + 1) (srs (srf T R b a pg ld L ps wh len) v (some (c, o'))) bs1 (.int (w len)) (.int (w (oin R T a ((doz T R b a pg ld L len v ps wh).foldl (lay1 T b) (ps, wh)).2 0 true b))) (by omega) hqs
          refine ⟨bs', v6', v7', ?_⟩
          refine Eq.trans ?_ g6
          rw [hs, f134_17]
          simp (disch := first | assumption | exact pm_g0_ne1 _ | exact bn_ne1 _ | exact pm_g1_ne1 _ | omega) only [f134_19, f134_20, f134_21, f134_22, f134_23, f134_24, f134_27, f134_28, f134_29, f134_31, f134_32, f134_35, f134_37, f134_39, f134_40, f134_43, f134_44, f134_45, f134_46, f134_47, f134_50, f134_53, f134_54, f134_56, f134_58, f134_59, f134_62, f134_63, f134_66, f134_68, f134_70, f134_73, f134_75, f134_76, f134_78, f134_80, f134_81, f134_83, f134_86, f134_89, List.getD_cons_zero, List.getD_cons_succ, List.set_cons_zero, List.set_cons_succ, List.length_cons, List.length_nil, pm_ty_i, pm_ty_l, pm_ty_n, pm_ty_r, pm_ty_u, pm_ty_q, pm_fit_i, pm_fit_l, pm_fit_n, pm_fit_r, pm_fit_q, pm_fit3_0, pm_fit3_1, ag_0, ag_s, List.headD_cons, List.cons_append, List.nil_append, Option.toList_some, Option.toList_none, if_true, if_false, ite_true, ite_false, ↓reduceIte, and_true, true_and, and_self, or_true, true_or, or_false, false_or, not_true_eq_false, not_false_eq_true, Nat.reduceLT, Nat.reduceLeDiff, Nat.reduceEqDiff, Nat.reduceAdd, Nat.reduceSub, reduceCtorEq, i_0, i_1, i_2, i_3, i_4, i_5, i_6, i_7, i_8, i_10, i_16, i_20, i_40, i_80, i_200, i_1000, i_m1, w_lt_t, w_lt_f, w_le_t, w_le_f, w_eq_t, w_eq_f, w_add, w_mul, w_sub, w_clamp, w_ne_m1, m1_lt, m1_le, w_lt_m1, w_le_m1, rf_null, rf_none, rf_some, Option.map_none, Option.map_some, Option.bind_some, el_i, el_r, w_div, w_dec0, w_inc_m1, el_l, ev_i, ev_l, ev_n, ev_r, gm_1, gm_2, gm_3, gm_4, gm_5, gm_6, gm_7, gm_8, gm_9, gm_10, gm_11, gm_12, om_1, sm_th, sm_mc, sm_6s, sm_6n, sm_7n, sm_7s, sm_9, sm_11, sm_12, sm_8f, sm_8t, sm_10f, sm_10t, sq_i, ev_z0, ev_z1, if_pos, if_neg, hsh, g3, g5, g4, show sq1 (some (c, o')) = w c from rfl, show sq2 (some (c, o')) = w o' from rfl]
    · have hf : (srf T R b a pg ld L ps wh len) v = none := if_neg hc
      have hs : srs (srf T R b a pg ld L ps wh len) v q = q := by
        unfold srs
        rw [hf]
      obtain ⟨bs', v6', v7', g6⟩ := ih (v + 1) (srs (srf T R b a pg ld L ps wh len) v q) bs1 (.int (w (doz T R b a pg ld L len v ps wh).length)) (.int (w 0)) (by omega) hqs
      refine ⟨bs', v6', v7', ?_⟩
      refine Eq.trans ?_ g6
      rw [hs, f134_17]
      simp (disch := first | assumption | exact pm_g0_ne1 _ | exact bn_ne1 _ | exact pm_g1_ne1 _ | omega) only [f134_19, f134_20, f134_21, f134_22, f134_23, f134_24, f134_27, f134_28, f134_29, f134_31, f134_32, f134_35, f134_37, f134_39, f134_40, f134_43, f134_44, f134_45, f134_46, f134_47, f134_50, f134_53, f134_54, f134_56, f134_58, f134_59, f134_62, f134_63, f134_66, f134_68, f134_70, f134_73, f134_75, f134_76, f134_78, f134_80, f134_81, f134_83, f134_86, f134_89, List.getD_cons_zero, List.getD_cons_succ, List.set_cons_zero, List.set_cons_succ, List.length_cons, List.length_nil, pm_ty_i, pm_ty_l, pm_ty_n, pm_ty_r, pm_ty_u, pm_ty_q, pm_fit_i, pm_fit_l, pm_fit_n, pm_fit_r, pm_fit_q, pm_fit3_0, pm_fit3_1, ag_0, ag_s, List.headD_cons, List.cons_append, List.nil_append, Option.toList_some, Option.toList_none, if_true, if_false, ite_true, ite_false, ↓reduceIte, and_true, true_and, and_self, or_true, true_or, or_false, false_or, not_true_eq_false, not_false_eq_true, Nat.reduceLT, Nat.reduceLeDiff, Nat.reduceEqDiff, Nat.reduceAdd, Nat.reduceSub, reduceCtorEq, i_0, i_1, i_2, i_3, i_4, i_5, i_6, i_7, i_8, i_10, i_16, i_20, i_40, i_80, i_200, i_1000, i_m1, w_lt_t, w_lt_f, w_le_t, w_le_f, w_eq_t, w_eq_f, w_add, w_mul, w_sub, w_clamp, w_ne_m1, m1_lt, m1_le, w_lt_m1, w_le_m1, rf_null, rf_none, rf_some, Option.map_none, Option.map_some, Option.bind_some, el_i, el_r, w_div, w_dec0, w_inc_m1, el_l, ev_i, ev_l, ev_n, ev_r, gm_1, gm_2, gm_3, gm_4, gm_5, gm_6, gm_7, gm_8, gm_9, gm_10, gm_11, gm_12, om_1, sm_th, sm_mc, sm_6s, sm_6n, sm_7n, sm_7s, sm_9, sm_11, sm_12, sm_8f, sm_8t, sm_10f, sm_10t, sq_i, ev_z0, ev_z1, if_pos, if_neg, hsh, g3, g4]
set_option maxRecDepth 20000 in
theorem m134o (hz : dz B R T n) (ha : az n a) (hl : lz ld) {L : List Nat} (hL : ∀ k ∈ L, k < n ∧ ¬ (a k).1 = 40) (hL4 : L.length ≤ 4) (hmy : ∀ j k, L[j]? = some k → my j = k) {b : Nat} (hb : b < B) (hj : jj B R T n a ps wh) : ∀ (len : Nat) (bs : Nat → Nat) (v3 v4 v5 v6 v7 : Value), len ≤ 4 → ∃ bs' : Nat → Nat, fr S (d + 6) (134, 5, [.ref (g1 1), .int (w b), .int (w len), v3, v4, v5, v6, v7], []) (MM th B R T n a ps wh pg ld ap my L.length bs X) = some (.inl (some (.int (w (src T R b a pg ld L ps wh len).length))), (MM th B R T n a ((src T R b a pg ld L ps wh len).foldl (lay1 T b) (ps, wh)).1 ((src T R b a pg ld L ps wh len).foldl (lay1 T b) (ps, wh)).2 pg ld ap my L.length bs' X)) := by
  have hn := hz.2.2.2.2.2.2
  have hB := hz.2.1
  have hR := hz.2.2.2.1
  have hT := hz.2.2.2.2.2.1
  have hB1 := hz.1
  have hR1 := hz.2.2.1
  have hT1 := hz.2.2.2.2.1
  intro len
  induction len with
  | zero =>
    intro bs v3 v4 v5 v6 v7 hlen
    refine ⟨bs, ?_⟩
    rw [f134_5]
    simp (disch := first | assumption | exact pm_g0_ne1 _ | exact bn_ne1 _ | exact pm_g1_ne1 _ | omega) only [f134_6, f134_9, f134_10, f134_11, f134_12, f134_14, f134_15, f134_92, f134_93, f134_96, f134_97, f134_98, f134_99, f134_100, f134_103, f134_104, f134_107, f134_110, f134_111, List.getD_cons_zero, List.getD_cons_succ, List.set_cons_zero, List.set_cons_succ, List.length_cons, List.length_nil, pm_ty_i, pm_ty_l, pm_ty_n, pm_ty_r, pm_ty_u, pm_ty_q, pm_fit_i, pm_fit_l, pm_fit_n, pm_fit_r, pm_fit_q, pm_fit3_0, pm_fit3_1, ag_0, ag_s, List.headD_cons, List.cons_append, List.nil_append, Option.toList_some, Option.toList_none, if_true, if_false, ite_true, ite_false, ↓reduceIte, and_true, true_and, and_self, or_true, true_or, or_false, false_or, not_true_eq_false, not_false_eq_true, Nat.reduceLT, Nat.reduceLeDiff, Nat.reduceEqDiff, Nat.reduceAdd, Nat.reduceSub, reduceCtorEq, i_0, i_1, i_2, i_3, i_4, i_5, i_6, i_7, i_8, i_10, i_16, i_20, i_40, i_80, i_200, i_1000, i_m1, w_lt_t, w_lt_f, w_le_t, w_le_f, w_eq_t, w_eq_f, w_add, w_mul, w_sub, w_clamp, w_ne_m1, m1_lt, m1_le, w_lt_m1, w_le_m1, rf_null, rf_none, rf_some, Option.map_none, Option.map_some, Option.bind_some, el_i, el_r, w_div, w_dec0, w_inc_m1, el_l, ev_i, ev_l, ev_n, ev_r, gm_1, gm_2, gm_3, gm_4, gm_5, gm_6, gm_7, gm_8, gm_9, gm_10, gm_11, gm_12, om_1, sm_th, sm_mc, sm_6s, sm_6n, sm_7n, sm_7s, sm_9, sm_11, sm_12, sm_8f, sm_8t, sm_10f, sm_10t, sq_i, ev_z0, ev_z1, if_pos, if_neg]
    rfl
  | succ len ih =>
    intro bs v3 v4 v5 v6 v7 hlen
    obtain ⟨bs1, v6', v7', g⟩ := m134i (S := S) (d := d) (th := th) (pg := pg) (ap := ap) (X := X) hz ha hl hL hL4 hmy hb hlen hj (16 ^ (len + 1)) 0 none bs v6 v7 (by omega) (fun c o h => nomatch h)
    have hqo := qok_srl (srf_le (b := b) (a := a) (pg := pg) (ld := ld) (L := L) (ps := ps) (wh := wh) (len := len + 1) hR hT) (16 ^ (len + 1)) 0 none (by have := p16 hlen; omega) (fun c o h => nomatch h)
    cases hq : srl (srf T R b a pg ld L ps wh (len + 1)) (16 ^ (len + 1)) 0 none with
    | none =>
      have hs : src T R b a pg ld L ps wh (len + 1) = src T R b a pg ld L ps wh len := by
        rw [src.eq_2, hq]
      rw [hq] at g
      obtain ⟨bs', g2⟩ := ih bs1 (.int m1) (.int (w 0)) (.int (w (16 ^ (len + 1)))) v6' v7' (by omega)
      refine ⟨bs', ?_⟩
      rw [hs, f134_5]
      simp (disch := first | assumption | exact pm_g0_ne1 _ | exact bn_ne1 _ | exact pm_g1_ne1 _ | omega) only [f134_6, f134_9, f134_10, f134_11, f134_12, f134_14, f134_15, List.getD_cons_zero, List.getD_cons_succ, List.set_cons_zero, List.set_cons_succ, List.length_cons, List.length_nil, pm_ty_i, pm_ty_l, pm_ty_n, pm_ty_r, pm_ty_u, pm_ty_q, pm_fit_i, pm_fit_l, pm_fit_n, pm_fit_r, pm_fit_q, pm_fit3_0, pm_fit3_1, ag_0, ag_s, List.headD_cons, List.cons_append, List.nil_append, Option.toList_some, Option.toList_none, if_true, if_false, ite_true, ite_false, ↓reduceIte, and_true, true_and, and_self, or_true, true_or, or_false, false_or, not_true_eq_false, not_false_eq_true, Nat.reduceLT, Nat.reduceLeDiff, Nat.reduceEqDiff, Nat.reduceAdd, Nat.reduceSub, reduceCtorEq, i_0, i_1, i_2, i_3, i_4, i_5, i_6, i_7, i_8, i_10, i_16, i_20, i_40, i_80, i_200, i_1000, i_m1, w_lt_t, w_lt_f, w_le_t, w_le_f, w_eq_t, w_eq_f, w_add, w_mul, w_sub, w_clamp, w_ne_m1, m1_lt, m1_le, w_lt_m1, w_le_m1, rf_null, rf_none, rf_some, Option.map_none, Option.map_some, Option.bind_some, el_i, el_r, w_div, w_dec0, w_inc_m1, el_l, ev_i, ev_l, ev_n, ev_r, gm_1, gm_2, gm_3, gm_4, gm_5, gm_6, gm_7, gm_8, gm_9, gm_10, gm_11, gm_12, om_1, sm_th, sm_mc, sm_6s, sm_6n, sm_7n, sm_7s, sm_9, sm_11, sm_12, sm_8f, sm_8t, sm_10f, sm_10t, sq_i, ev_z0, ev_z1, if_pos, if_neg]
      refine Eq.trans g ?_
      show fr S (d + 6) (134, 92, [_, _, _, .int m1, .int (w 0), _, _, _], _) _ = _
      simp (disch := first | assumption | exact pm_g0_ne1 _ | exact bn_ne1 _ | exact pm_g1_ne1 _ | omega) only [f134_92, f134_93, f134_96, f134_97, f134_98, f134_99, f134_100, f134_103, f134_104, f134_107, f134_110, f134_111, List.getD_cons_zero, List.getD_cons_succ, List.set_cons_zero, List.set_cons_succ, List.length_cons, List.length_nil, pm_ty_i, pm_ty_l, pm_ty_n, pm_ty_r, pm_ty_u, pm_ty_q, pm_fit_i, pm_fit_l, pm_fit_n, pm_fit_r, pm_fit_q, pm_fit3_0, pm_fit3_1, ag_0, ag_s, List.headD_cons, List.cons_append, List.nil_append, Option.toList_some, Option.toList_none, if_true, if_false, ite_true, ite_false, ↓reduceIte, and_true, true_and, and_self, or_true, true_or, or_false, false_or, not_true_eq_false, not_false_eq_true, Nat.reduceLT, Nat.reduceLeDiff, Nat.reduceEqDiff, Nat.reduceAdd, Nat.reduceSub, reduceCtorEq, i_0, i_1, i_2, i_3, i_4, i_5, i_6, i_7, i_8, i_10, i_16, i_20, i_40, i_80, i_200, i_1000, i_m1, w_lt_t, w_lt_f, w_le_t, w_le_f, w_eq_t, w_eq_f, w_add, w_mul, w_sub, w_clamp, w_ne_m1, m1_lt, m1_le, w_lt_m1, w_le_m1, rf_null, rf_none, rf_some, Option.map_none, Option.map_some, Option.bind_some, el_i, el_r, w_div, w_dec0, w_inc_m1, el_l, ev_i, ev_l, ev_n, ev_r, gm_1, gm_2, gm_3, gm_4, gm_5, gm_6, gm_7, gm_8, gm_9, gm_10, gm_11, gm_12, om_1, sm_th, sm_mc, sm_6s, sm_6n, sm_7n, sm_7s, sm_9, sm_11, sm_12, sm_8f, sm_8t, sm_10f, sm_10t, sq_i, ev_z0, ev_z1, if_pos, if_neg, dn_s]
      exact g2
    | some y =>
      obtain ⟨c, o⟩ := y
      have hs : src T R b a pg ld L ps wh (len + 1) = doz T R b a pg ld L (len + 1) c ps wh := by
        rw [src.eq_2, hq]
      rw [hq] at g
      obtain ⟨hc1, hc2⟩ := hqo c o hq
      obtain ⟨bs', _, g3⟩ := m132 (S := S) (d := d) (th := th) (pg := pg) (ap := ap) (bs := bs1) (X := X) hz ha hl hL hL4 hmy hb hc1 hlen hj
      refine ⟨bs', ?_⟩
      rw [hs, f134_5]
      simp (disch := first | assumption | exact pm_g0_ne1 _ | exact bn_ne1 _ | exact pm_g1_ne1 _ | omega) only [f134_6, f134_9, f134_10, f134_11, f134_12, f134_14, f134_15, List.getD_cons_zero, List.getD_cons_succ, List.set_cons_zero, List.set_cons_succ, List.length_cons, List.length_nil, pm_ty_i, pm_ty_l, pm_ty_n, pm_ty_r, pm_ty_u, pm_ty_q, pm_fit_i, pm_fit_l, pm_fit_n, pm_fit_r, pm_fit_q, pm_fit3_0, pm_fit3_1, ag_0, ag_s, List.headD_cons, List.cons_append, List.nil_append, Option.toList_some, Option.toList_none, if_true, if_false, ite_true, ite_false, ↓reduceIte, and_true, true_and, and_self, or_true, true_or, or_false, false_or, not_true_eq_false, not_false_eq_true, Nat.reduceLT, Nat.reduceLeDiff, Nat.reduceEqDiff, Nat.reduceAdd, Nat.reduceSub, reduceCtorEq, i_0, i_1, i_2, i_3, i_4, i_5, i_6, i_7, i_8, i_10, i_16, i_20, i_40, i_80, i_200, i_1000, i_m1, w_lt_t, w_lt_f, w_le_t, w_le_f, w_eq_t, w_eq_f, w_add, w_mul, w_sub, w_clamp, w_ne_m1, m1_lt, m1_le, w_lt_m1, w_le_m1, rf_null, rf_none, rf_some, Option.map_none, Option.map_some, Option.bind_some, el_i, el_r, w_div, w_dec0, w_inc_m1, el_l, ev_i, ev_l, ev_n, ev_r, gm_1, gm_2, gm_3, gm_4, gm_5, gm_6, gm_7, gm_8, gm_9, gm_10, gm_11, gm_12, om_1, sm_th, sm_mc, sm_6s, sm_6n, sm_7n, sm_7s, sm_9, sm_11, sm_12, sm_8f, sm_8t, sm_10f, sm_10t, sq_i, ev_z0, ev_z1, if_pos, if_neg]
      refine Eq.trans g ?_
      show fr S (d + 6) (134, 92, [_, _, _, .int (w c), .int (w o), _, _, _], _) _ = _
      simp (disch := first | assumption | exact pm_g0_ne1 _ | exact bn_ne1 _ | exact pm_g1_ne1 _ | omega) only [f134_92, f134_93, f134_96, f134_97, f134_98, f134_99, f134_100, f134_103, f134_104, f134_107, f134_110, f134_111, List.getD_cons_zero, List.getD_cons_succ, List.set_cons_zero, List.set_cons_succ, List.length_cons, List.length_nil, pm_ty_i, pm_ty_l, pm_ty_n, pm_ty_r, pm_ty_u, pm_ty_q, pm_fit_i, pm_fit_l, pm_fit_n, pm_fit_r, pm_fit_q, pm_fit3_0, pm_fit3_1, ag_0, ag_s, List.headD_cons, List.cons_append, List.nil_append, Option.toList_some, Option.toList_none, if_true, if_false, ite_true, ite_false, ↓reduceIte, and_true, true_and, and_self, or_true, true_or, or_false, false_or, not_true_eq_false, not_false_eq_true, Nat.reduceLT, Nat.reduceLeDiff, Nat.reduceEqDiff, Nat.reduceAdd, Nat.reduceSub, reduceCtorEq, i_0, i_1, i_2, i_3, i_4, i_5, i_6, i_7, i_8, i_10, i_16, i_20, i_40, i_80, i_200, i_1000, i_m1, w_lt_t, w_lt_f, w_le_t, w_le_f, w_eq_t, w_eq_f, w_add, w_mul, w_sub, w_clamp, w_ne_m1, m1_lt, m1_le, w_lt_m1, w_le_m1, rf_null, rf_none, rf_some, Option.map_none, Option.map_some, Option.bind_some, el_i, el_r, w_div, w_dec0, w_inc_m1, el_l, ev_i, ev_l, ev_n, ev_r, gm_1, gm_2, gm_3, gm_4, gm_5, gm_6, gm_7, gm_8, gm_9, gm_10, gm_11, gm_12, om_1, sm_th, sm_mc, sm_6s, sm_6n, sm_7n, sm_7s, sm_9, sm_11, sm_12, sm_8f, sm_8t, sm_10f, sm_10t, sq_i, ev_z0, ev_z1, if_pos, if_neg, g3]
set_option maxRecDepth 20000 in
theorem m134 (hz : dz B R T n) (ha : az n a) (hl : lz ld) {L : List Nat} (hL : ∀ k ∈ L, k < n ∧ ¬ (a k).1 = 40) (hL4 : L.length ≤ 4) (hmy : ∀ j k, L[j]? = some k → my j = k) {b : Nat} (hb : b < B) (hj : jj B R T n a ps wh) : ∃ bs' : Nat → Nat, fr S (d + 6) (134, 0, [.ref (g1 1), .int (w b), pm_U, pm_U, pm_U, pm_U, pm_U, pm_U], []) (MM th B R T n a ps wh pg ld ap my L.length bs X) = some (.inl (some (.int (w (src T R b a pg ld L ps wh L.length).length))), (MM th B R T n a ((src T R b a pg ld L ps wh L.length).foldl (lay1 T b) (ps, wh)).1 ((src T R b a pg ld L ps wh L.length).foldl (lay1 T b) (ps, wh)).2 pg ld ap my L.length bs' X)) := by
  obtain ⟨bs', g⟩ := m134o (S := S) (d := d) (th := th) (pg := pg) (ap := ap) (X := X) hz ha hl hL hL4 hmy hb hj L.length bs pm_U pm_U pm_U pm_U pm_U hL4
  refine ⟨bs', ?_⟩
  simp (disch := first | assumption | exact pm_g0_ne1 _ | exact bn_ne1 _ | exact pm_g1_ne1 _ | omega) only [f134_0, f134_1, f134_4, List.getD_cons_zero, List.getD_cons_succ, List.set_cons_zero, List.set_cons_succ, List.length_cons, List.length_nil, pm_ty_i, pm_ty_l, pm_ty_n, pm_ty_r, pm_ty_u, pm_ty_q, pm_fit_i, pm_fit_l, pm_fit_n, pm_fit_r, pm_fit_q, pm_fit3_0, pm_fit3_1, ag_0, ag_s, List.headD_cons, List.cons_append, List.nil_append, Option.toList_some, Option.toList_none, if_true, if_false, ite_true, ite_false, ↓reduceIte, and_true, true_and, and_self, or_true, true_or, or_false, false_or, not_true_eq_false, not_false_eq_true, Nat.reduceLT, Nat.reduceLeDiff, Nat.reduceEqDiff, Nat.reduceAdd, Nat.reduceSub, reduceCtorEq, i_0, i_1, i_2, i_3, i_4, i_5, i_6, i_7, i_8, i_10, i_16, i_20, i_40, i_80, i_200, i_1000, i_m1, w_lt_t, w_lt_f, w_le_t, w_le_f, w_eq_t, w_eq_f, w_add, w_mul, w_sub, w_clamp, w_ne_m1, m1_lt, m1_le, w_lt_m1, w_le_m1, rf_null, rf_none, rf_some, Option.map_none, Option.map_some, Option.bind_some, el_i, el_r, w_div, w_dec0, w_inc_m1, el_l, ev_i, ev_l, ev_n, ev_r, gm_1, gm_2, gm_3, gm_4, gm_5, gm_6, gm_7, gm_8, gm_9, gm_10, gm_11, gm_12, om_1, sm_th, sm_mc, sm_6s, sm_6n, sm_7n, sm_7s, sm_9, sm_11, sm_12, sm_8f, sm_8t, sm_10f, sm_10t, sq_i, ev_z0, ev_z1, if_pos, if_neg]
  exact g
set_option maxRecDepth 20000 in
theorem m135l (hz : dz B R T n) (ha : az n a) (hp : pz B R T n a ps) {b : Nat} : ∀ (m i : Nat) (my : Nat → Nat), i + m = n → (∀ j k, (cands a ps i)[j]? = some k → my j = k) → ∃ my' : Nat → Nat, (∀ j k, (cands a ps n)[j]? = some k → my' j = k) ∧ fr S (d + 7) (135, 26, [.ref (g1 1), .int (w b), .int (w i)], []) (MM th B R T n a ps wh pg ld ap my (cands a ps i).length bs X) = fr S (d + 7) (135, 89, [.ref (g1 1), .int (w b), .int (w n)], []) (MM th B R T n a ps wh pg ld ap my' (cands a ps n).length bs X) := by
  have hn := hz.2.2.2.2.2.2
  have hB := hz.2.1
  have hR := hz.2.2.2.1
  have hT := hz.2.2.2.2.2.1
  have hB1 := hz.1
  have hR1 := hz.2.2.1
  have hT1 := hz.2.2.2.2.1
  intro m
  induction m with
  | zero =>
    intro i my hi hf
    obtain rfl : i = n := hi
    refine ⟨my, hf, ?_⟩
    rw [f135_26]
    simp (disch := first | assumption | exact pm_g0_ne1 _ | exact bn_ne1 _ | exact pm_g1_ne1 _ | omega) only [f135_27, f135_28, f135_31, f135_34, f135_35, f135_38, f135_39, f135_40, f135_42, f135_45, f135_46, f135_49, f135_50, f135_51, f135_52, f135_55, f135_56, f135_59, f135_60, f135_63, f135_64, f135_67, f135_68, f135_71, f135_72, f135_73, f135_74, f135_75, f135_78, f135_79, f135_80, f135_83, f135_86, List.getD_cons_zero, List.getD_cons_succ, List.set_cons_zero, List.set_cons_succ, List.length_cons, List.length_nil, pm_ty_i, pm_ty_l, pm_ty_n, pm_ty_r, pm_ty_u, pm_ty_q, pm_fit_i, pm_fit_l, pm_fit_n, pm_fit_r, pm_fit_q, pm_fit3_0, pm_fit3_1, ag_0, ag_s, List.headD_cons, List.cons_append, List.nil_append, Option.toList_some, Option.toList_none, if_true, if_false, ite_true, ite_false, ↓reduceIte, and_true, true_and, and_self, or_true, true_or, or_false, false_or, not_true_eq_false, not_false_eq_true, Nat.reduceLT, Nat.reduceLeDiff, Nat.reduceEqDiff, Nat.reduceAdd, Nat.reduceSub, reduceCtorEq, i_0, i_1, i_2, i_3, i_4, i_5, i_6, i_7, i_8, i_10, i_16, i_20, i_40, i_80, i_200, i_1000, i_m1, w_lt_t, w_lt_f, w_le_t, w_le_f, w_eq_t, w_eq_f, w_add, w_mul, w_sub, w_clamp, w_ne_m1, m1_lt, m1_le, w_lt_m1, w_le_m1, rf_null, rf_none, rf_some, Option.map_none, Option.map_some, Option.bind_some, el_i, el_r, w_div, w_dec0, w_inc_m1, el_l, ev_i, ev_l, ev_n, ev_r, gm_1, gm_2, gm_3, gm_4, gm_5, gm_6, gm_7, gm_8, gm_9, gm_10, gm_11, gm_12, om_1, sm_th, sm_mc, sm_6s, sm_6n, sm_7n, sm_7s, sm_9, sm_11, sm_12, sm_8f, sm_8t, sm_10f, sm_10t, sq_i, ev_z0, ev_z1, if_pos, if_neg]
  | succ m ih =>
    intro i my hi hf
    have hin : i < n := by omega
    have h4 := cands_le a ps i
    have hsz := (ha i hin).1
    by_cases hs : (a i).1 = 40
    · have hc : cands a ps (i + 1) = cands a ps i := if_neg (fun z => z.2.1 hs)
      obtain ⟨f', h1, h2⟩ := ih (i + 1) my (by omega) (by rw [hc]; exact hf)
      rw [hc] at h2
      refine ⟨f', h1, ?_⟩
      rw [f135_26]
      simp (disch := first | assumption | exact pm_g0_ne1 _ | exact bn_ne1 _ | exact pm_g1_ne1 _ | omega) only [f135_27, f135_28, f135_31, f135_34, f135_35, f135_38, f135_39, f135_40, f135_42, f135_45, f135_46, f135_49, f135_50, f135_51, f135_52, f135_55, f135_56, f135_59, f135_60, f135_63, f135_64, f135_67, f135_68, f135_71, f135_72, f135_73, f135_74, f135_75, f135_78, f135_79, f135_80, f135_83, f135_86, List.getD_cons_zero, List.getD_cons_succ, List.set_cons_zero, List.set_cons_succ, List.length_cons, List.length_nil, pm_ty_i, pm_ty_l, pm_ty_n, pm_ty_r, pm_ty_u, pm_ty_q, pm_fit_i, pm_fit_l, pm_fit_n, pm_fit_r, pm_fit_q, pm_fit3_0, pm_fit3_1, ag_0, ag_s, List.headD_cons, List.cons_append, List.nil_append, Option.toList_some, Option.toList_none, if_true, if_false, ite_true, ite_false, ↓reduceIte, and_true, true_and, and_self, or_true, true_or, or_false, false_or, not_true_eq_false, not_false_eq_true, Nat.reduceLT, Nat.reduceLeDiff, Nat.reduceEqDiff, Nat.reduceAdd, Nat.reduceSub, reduceCtorEq, i_0, i_1, i_2, i_3, i_4, i_5, i_6, i_7, i_8, i_10, i_16, i_20, i_40, i_80, i_200, i_1000, i_m1, w_lt_t, w_lt_f, w_le_t, w_le_f, w_eq_t, w_eq_f, w_add, w_mul, w_sub, w_clamp, w_ne_m1, m1_lt, m1_le, w_lt_m1, w_le_m1, rf_null, rf_none, rf_some, Option.map_none, Option.map_some, Option.bind_some, el_i, el_r, w_div, w_dec0, w_inc_m1, el_l, ev_i, ev_l, ev_n, ev_r, gm_1, gm_2, gm_3, gm_4, gm_5, gm_6, gm_7, gm_8, gm_9, gm_10, gm_11, gm_12, om_1, sm_th, sm_mc, sm_6s, sm_6n, sm_7n, sm_7s, sm_9, sm_11, sm_12, sm_8f, sm_8t, sm_10f, sm_10t, sq_i, ev_z0, ev_z1, if_pos, if_neg]
      exact h2
    · have hs2 : (a i).1 = 20 := hsz.resolve_right hs
      cases hpi : ps i with
      | some q =>
        have hc : cands a ps (i + 1) = cands a ps i := if_neg (fun z => by rw [hpi] at z; exact nomatch z.2.2)
        obtain ⟨f', h1, h2⟩ := ih (i + 1) my (by omega) (by rw [hc]; exact hf)
        rw [hc] at h2
        refine ⟨f', h1, ?_⟩
        obtain ⟨b', r', t'⟩ := q
        obtain ⟨_, hb', hr', ht', _⟩ := hp i b' r' t' hpi
        have hm' := me_lt (b := b') (r := r') (t := t') (by omega) (by omega) (by omega)
        rw [f135_26]
        simp (disch := first | assumption | exact pm_g0_ne1 _ | exact bn_ne1 _ | exact pm_g1_ne1 _ | omega) only [f135_27, f135_28, f135_31, f135_34, f135_35, f135_38, f135_39, f135_40, f135_42, f135_45, f135_46, f135_49, f135_50, f135_51, f135_52, f135_55, f135_56, f135_59, f135_60, f135_63, f135_64, f135_67, f135_68, f135_71, f135_72, f135_73, f135_74, f135_75, f135_78, f135_79, f135_80, f135_83, f135_86, List.getD_cons_zero, List.getD_cons_succ, List.set_cons_zero, List.set_cons_succ, List.length_cons, List.length_nil, pm_ty_i, pm_ty_l, pm_ty_n, pm_ty_r, pm_ty_u, pm_ty_q, pm_fit_i, pm_fit_l, pm_fit_n, pm_fit_r, pm_fit_q, pm_fit3_0, pm_fit3_1, ag_0, ag_s, List.headD_cons, List.cons_append, List.nil_append, Option.toList_some, Option.toList_none, if_true, if_false, ite_true, ite_false, ↓reduceIte, and_true, true_and, and_self, or_true, true_or, or_false, false_or, not_true_eq_false, not_false_eq_true, Nat.reduceLT, Nat.reduceLeDiff, Nat.reduceEqDiff, Nat.reduceAdd, Nat.reduceSub, reduceCtorEq, i_0, i_1, i_2, i_3, i_4, i_5, i_6, i_7, i_8, i_10, i_16, i_20, i_40, i_80, i_200, i_1000, i_m1, w_lt_t, w_lt_f, w_le_t, w_le_f, w_eq_t, w_eq_f, w_add, w_mul, w_sub, w_clamp, w_ne_m1, m1_lt, m1_le, w_lt_m1, w_le_m1, rf_null, rf_none, rf_some, Option.map_none, Option.map_some, Option.bind_some, el_i, el_r, w_div, w_dec0, w_inc_m1, el_l, ev_i, ev_l, ev_n, ev_r, gm_1, gm_2, gm_3, gm_4, gm_5, gm_6, gm_7, gm_8, gm_9, gm_10, gm_11, gm_12, om_1, sm_th, sm_mc, sm_6s, sm_6n, sm_7n, sm_7s, sm_9, sm_11, sm_12, sm_8f, sm_8t, sm_10f, sm_10t, sq_i, ev_z0, ev_z1, if_pos, if_neg, hpi, mcl_s]
        exact h2
      | none =>
        by_cases hlt : (cands a ps i).length < 4
        · have hc : cands a ps (i + 1) = cands a ps i ++ [i] := if_pos ⟨hlt, hs, hpi⟩
          obtain ⟨f', h1, h2⟩ := ih (i + 1) (va_up my (cands a ps i).length i) (by omega) (by
            rw [hc]
            intro j k hj
            by_cases hje : j = (cands a ps i).length
            · rw [hje, List.getElem?_append_right (Nat.le_refl _), Nat.sub_self] at hj
              cases hj
              rw [hje, vup_self]
            · by_cases hjl : j < (cands a ps i).length
              · rw [List.getElem?_append_left hjl] at hj
                rw [vup_ne _ _ hje]
                exact hf j k hj
              · rw [List.getElem?_eq_none (by rw [List.length_append]; show (cands a ps i).length + 1 ≤ j; omega)] at hj
                exact nomatch hj)
          rw [hc, List.length_append] at h2
          refine ⟨f', h1, ?_⟩
          rw [f135_26]
          simp (disch := first | assumption | exact pm_g0_ne1 _ | exact bn_ne1 _ | exact pm_g1_ne1 _ | omega) only [f135_27, f135_28, f135_31, f135_34, f135_35, f135_38, f135_39, f135_40, f135_42, f135_45, f135_46, f135_49, f135_50, f135_51, f135_52, f135_55, f135_56, f135_59, f135_60, f135_63, f135_64, f135_67, f135_68, f135_71, f135_72, f135_73, f135_74, f135_75, f135_78, f135_79, f135_80, f135_83, f135_86, List.getD_cons_zero, List.getD_cons_succ, List.set_cons_zero, List.set_cons_succ, List.length_cons, List.length_nil, pm_ty_i, pm_ty_l, pm_ty_n, pm_ty_r, pm_ty_u, pm_ty_q, pm_fit_i, pm_fit_l, pm_fit_n, pm_fit_r, pm_fit_q, pm_fit3_0, pm_fit3_1, ag_0, ag_s, List.headD_cons, List.cons_append, List.nil_append, Option.toList_some, Option.toList_none, if_true, if_false, ite_true, ite_false, ↓reduceIte, and_true, true_and, and_self, or_true, true_or, or_false, false_or, not_true_eq_false, not_false_eq_true, Nat.reduceLT, Nat.reduceLeDiff, Nat.reduceEqDiff, Nat.reduceAdd, Nat.reduceSub, reduceCtorEq, i_0, i_1, i_2, i_3, i_4, i_5, i_6, i_7, i_8, i_10, i_16, i_20, i_40, i_80, i_200, i_1000, i_m1, w_lt_t, w_lt_f, w_le_t, w_le_f, w_eq_t, w_eq_f, w_add, w_mul, w_sub, w_clamp, w_ne_m1, m1_lt, m1_le, w_lt_m1, w_le_m1, rf_null, rf_none, rf_some, Option.map_none, Option.map_some, Option.bind_some, el_i, el_r, w_div, w_dec0, w_inc_m1, el_l, ev_i, ev_l, ev_n, ev_r, gm_1, gm_2, gm_3, gm_4, gm_5, gm_6, gm_7, gm_8, gm_9, gm_10, gm_11, gm_12, om_1, sm_th, sm_mc, sm_6s, sm_6n, sm_7n, sm_7s, sm_9, sm_11, sm_12, sm_8f, sm_8t, sm_10f, sm_10t, sq_i, ev_z0, ev_z1, if_pos, if_neg, hpi, mcl_n]
          exact h2
        · have hc : cands a ps (i + 1) = cands a ps i := if_neg (fun z => hlt z.1)
          obtain ⟨f', h1, h2⟩ := ih (i + 1) my (by omega) (by rw [hc]; exact hf)
          rw [hc] at h2
          refine ⟨f', h1, ?_⟩
          rw [f135_26]
          simp (disch := first | assumption | exact pm_g0_ne1 _ | exact bn_ne1 _ | exact pm_g1_ne1 _ | omega) only [f135_27, f135_28, f135_31, f135_34, f135_35, f135_38, f135_39, f135_40, f135_42, f135_45, f135_46, f135_49, f135_50, f135_51, f135_52, f135_55, f135_56, f135_59, f135_60, f135_63, f135_64, f135_67, f135_68, f135_71, f135_72, f135_73, f135_74, f135_75, f135_78, f135_79, f135_80, f135_83, f135_86, List.getD_cons_zero, List.getD_cons_succ, List.set_cons_zero, List.set_cons_succ, List.length_cons, List.length_nil, pm_ty_i, pm_ty_l, pm_ty_n, pm_ty_r, pm_ty_u, pm_ty_q, pm_fit_i, pm_fit_l, pm_fit_n, pm_fit_r, pm_fit_q, pm_fit3_0, pm_fit3_1, ag_0, ag_s, List.headD_cons, List.cons_append, List.nil_append, Option.toList_some, Option.toList_none, if_true, if_false, ite_true, ite_false, ↓reduceIte, and_true, true_and, and_self, or_true, true_or, or_false, false_or, not_true_eq_false, not_false_eq_true, Nat.reduceLT, Nat.reduceLeDiff, Nat.reduceEqDiff, Nat.reduceAdd, Nat.reduceSub, reduceCtorEq, i_0, i_1, i_2, i_3, i_4, i_5, i_6, i_7, i_8, i_10, i_16, i_20, i_40, i_80, i_200, i_1000, i_m1, w_lt_t, w_lt_f, w_le_t, w_le_f, w_eq_t, w_eq_f, w_add, w_mul, w_sub, w_clamp, w_ne_m1, m1_lt, m1_le, w_lt_m1, w_le_m1, rf_null, rf_none, rf_some, Option.map_none, Option.map_some, Option.bind_some, el_i, el_r, w_div, w_dec0, w_inc_m1, el_l, ev_i, ev_l, ev_n, ev_r, gm_1, gm_2, gm_3, gm_4, gm_5, gm_6, gm_7, gm_8, gm_9, gm_10, gm_11, gm_12, om_1, sm_th, sm_mc, sm_6s, sm_6n, sm_7n, sm_7s, sm_9, sm_11, sm_12, sm_8f, sm_8t, sm_10f, sm_10t, sq_i, ev_z0, ev_z1, if_pos, if_neg, hpi, mcl_n]
          exact h2
/-- the way that the reference's fill takes -/
def rway (T R n b : Nat) (a : at_T) (pg : pg_T) (ld : Nat → Nat) (ps : ps_T) (wh : wh_T) : List (Nat × Nat) := src T R b a pg ld (cands a ps n) ps wh (cands a ps n).length
set_option maxRecDepth 20000 in
theorem m135 (hz : dz B R T n) (ha : az n a) (hl : lz ld) {b : Nat} (hb : b < B) (hj : jj B R T n a ps wh) : ∃ (my' : Nat → Nat) (mc' : Nat) (bs' : Nat → Nat), fr S (d + 7) (135, 0, [.ref (g1 1), .int (w b), pm_U], []) (MM th B R T n a ps wh pg ld ap my mc bs X) = some (.inl (some (.int (w (rway T R n b a pg ld ps wh).length))), (MM 0 B R T n a ((rway T R n b a pg ld ps wh).foldl (lay1 T b) (ps, wh)).1 ((rway T R n b a pg ld ps wh).foldl (lay1 T b) (ps, wh)).2 pg ld ap my' mc' bs' X)) := by
  have hn := hz.2.2.2.2.2.2
  have hB := hz.2.1
  have hR := hz.2.2.2.1
  have hT := hz.2.2.2.2.2.1
  have hB1 := hz.1
  have hR1 := hz.2.2.1
  have hT1 := hz.2.2.2.2.1
  have hL : ∀ k ∈ cands a ps n, k < n ∧ ¬ (a k).1 = 40 := fun k hk => ⟨(cands_mem hk).1, (cands_mem hk).2.1⟩
  obtain ⟨my', h1, k1⟩ := m135l (S := S) (d := d) (th := 0) (wh := wh) (pg := pg) (ld := ld) (ap := ap) (bs := bs) (X := X) hz ha hj.1 (b := b) n 0 my (by omega) (fun j k h => nomatch h)
  obtain ⟨bs', g2⟩ := m134 (S := S) (d := d) (th := 0) (pg := pg) (ap := ap) (bs := bs) (X := X) hz ha hl hL (cands_le a ps n) h1 hb hj
  refine ⟨my', (cands a ps n).length, bs', ?_⟩
  have k1 : fr S (d + 7) (135, 26, [.ref (g1 1), .int (w b), .int (w 0)], []) (MM 0 B R T n a ps wh pg ld ap my 0 bs X) = _ := k1
  simp (disch := first | assumption | exact pm_g0_ne1 _ | exact bn_ne1 _ | exact pm_g1_ne1 _ | omega) only [f135_0, f135_1, f135_2, f135_5, f135_8, f135_9, f135_10, f135_13, f135_14, f135_15, f135_16, f135_19, f135_20, f135_21, f135_24, f135_25, List.getD_cons_zero, List.getD_cons_succ, List.set_cons_zero, List.set_cons_succ, List.length_cons, List.length_nil, pm_ty_i, pm_ty_l, pm_ty_n, pm_ty_r, pm_ty_u, pm_ty_q, pm_fit_i, pm_fit_l, pm_fit_n, pm_fit_r, pm_fit_q, pm_fit3_0, pm_fit3_1, ag_0, ag_s, List.headD_cons, List.cons_append, List.nil_append, Option.toList_some, Option.toList_none, if_true, if_false, ite_true, ite_false, ↓reduceIte, and_true, true_and, and_self, or_true, true_or, or_false, false_or, not_true_eq_false, not_false_eq_true, Nat.reduceLT, Nat.reduceLeDiff, Nat.reduceEqDiff, Nat.reduceAdd, Nat.reduceSub, reduceCtorEq, i_0, i_1, i_2, i_3, i_4, i_5, i_6, i_7, i_8, i_10, i_16, i_20, i_40, i_80, i_200, i_1000, i_m1, w_lt_t, w_lt_f, w_le_t, w_le_f, w_eq_t, w_eq_f, w_add, w_mul, w_sub, w_clamp, w_ne_m1, m1_lt, m1_le, w_lt_m1, w_le_m1, rf_null, rf_none, rf_some, Option.map_none, Option.map_some, Option.bind_some, el_i, el_r, w_div, w_dec0, w_inc_m1, el_l, ev_i, ev_l, ev_n, ev_r, gm_1, gm_2, gm_3, gm_4, gm_5, gm_6, gm_7, gm_8, gm_9, gm_10, gm_11, gm_12, om_1, sm_th, sm_mc, sm_6s, sm_6n, sm_7n, sm_7s, sm_9, sm_11, sm_12, sm_8f, sm_8t, sm_10f, sm_10t, sq_i, ev_z0, ev_z1, if_pos, if_neg, m106b hz]
  refine Eq.trans k1 ?_
  simp (disch := first | assumption | exact pm_g0_ne1 _ | exact bn_ne1 _ | exact pm_g1_ne1 _ | omega) only [f135_89, f135_90, f135_91, f135_94, List.getD_cons_zero, List.getD_cons_succ, List.set_cons_zero, List.set_cons_succ, List.length_cons, List.length_nil, pm_ty_i, pm_ty_l, pm_ty_n, pm_ty_r, pm_ty_u, pm_ty_q, pm_fit_i, pm_fit_l, pm_fit_n, pm_fit_r, pm_fit_q, pm_fit3_0, pm_fit3_1, ag_0, ag_s, List.headD_cons, List.cons_append, List.nil_append, Option.toList_some, Option.toList_none, if_true, if_false, ite_true, ite_false, ↓reduceIte, and_true, true_and, and_self, or_true, true_or, or_false, false_or, not_true_eq_false, not_false_eq_true, Nat.reduceLT, Nat.reduceLeDiff, Nat.reduceEqDiff, Nat.reduceAdd, Nat.reduceSub, reduceCtorEq, i_0, i_1, i_2, i_3, i_4, i_5, i_6, i_7, i_8, i_10, i_16, i_20, i_40, i_80, i_200, i_1000, i_m1, w_lt_t, w_lt_f, w_le_t, w_le_f, w_eq_t, w_eq_f, w_add, w_mul, w_sub, w_clamp, w_ne_m1, m1_lt, m1_le, w_lt_m1, w_le_m1, rf_null, rf_none, rf_some, Option.map_none, Option.map_some, Option.bind_some, el_i, el_r, w_div, w_dec0, w_inc_m1, el_l, ev_i, ev_l, ev_n, ev_r, gm_1, gm_2, gm_3, gm_4, gm_5, gm_6, gm_7, gm_8, gm_9, gm_10, gm_11, gm_12, om_1, sm_th, sm_mc, sm_6s, sm_6n, sm_7n, sm_7s, sm_9, sm_11, sm_12, sm_8f, sm_8t, sm_10f, sm_10t, sq_i, ev_z0, ev_z1, if_pos, if_neg, g2]
  rfl
set_option maxRecDepth 20000 in
theorem m135n {x : Int32} (h : ¬ (w 0 ≤ x ∧ x < w B)) : fr S (d + 7) (135, 0, [.ref (g1 1), .int x, pm_U], []) (MM th B R T n a ps wh pg ld ap my mc bs X) = some (.inl (some (.int (w 0))), (MM 1 B R T n a ps wh pg ld ap my mc bs X)) := by
  simp (disch := first | assumption | exact pm_g0_ne1 _ | exact bn_ne1 _ | exact pm_g1_ne1 _ | omega) only [f135_0, f135_1, f135_2, f135_5, f135_8, f135_9, f135_10, f135_13, f135_14, f135_15, f135_16, f135_19, f135_20, f135_21, f135_24, f135_25, List.getD_cons_zero, List.getD_cons_succ, List.set_cons_zero, List.set_cons_succ, List.length_cons, List.length_nil, pm_ty_i, pm_ty_l, pm_ty_n, pm_ty_r, pm_ty_u, pm_ty_q, pm_fit_i, pm_fit_l, pm_fit_n, pm_fit_r, pm_fit_q, pm_fit3_0, pm_fit3_1, ag_0, ag_s, List.headD_cons, List.cons_append, List.nil_append, Option.toList_some, Option.toList_none, if_true, if_false, ite_true, ite_false, ↓reduceIte, and_true, true_and, and_self, or_true, true_or, or_false, false_or, not_true_eq_false, not_false_eq_true, Nat.reduceLT, Nat.reduceLeDiff, Nat.reduceEqDiff, Nat.reduceAdd, Nat.reduceSub, reduceCtorEq, i_0, i_1, i_2, i_3, i_4, i_5, i_6, i_7, i_8, i_10, i_16, i_20, i_40, i_80, i_200, i_1000, i_m1, w_lt_t, w_lt_f, w_le_t, w_le_f, w_eq_t, w_eq_f, w_add, w_mul, w_sub, w_clamp, w_ne_m1, m1_lt, m1_le, w_lt_m1, w_le_m1, rf_null, rf_none, rf_some, Option.map_none, Option.map_some, Option.bind_some, el_i, el_r, w_div, w_dec0, w_inc_m1, el_l, ev_i, ev_l, ev_n, ev_r, gm_1, gm_2, gm_3, gm_4, gm_5, gm_6, gm_7, gm_8, gm_9, gm_10, gm_11, gm_12, om_1, sm_th, sm_mc, sm_6s, sm_6n, sm_7n, sm_7s, sm_9, sm_11, sm_12, sm_8f, sm_8t, sm_10f, sm_10t, sq_i, ev_z0, ev_z1, if_pos, if_neg, m106n h, m103]
end M8
