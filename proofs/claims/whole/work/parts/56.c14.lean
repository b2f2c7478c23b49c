/-! The class: the search of a fill. -/
abbrev wl_T : Type := List (Nat × Nat) × Nat
def bet (p q : wl_T) : Bool := decide (q.1.length < p.1.length ∨ (q.1.length = p.1.length ∧ p.2 < q.2))
section DFS
variable (T R b : Nat) (a : at_T) (pg : pg_T) (ld : Nat → Nat)
def okc (ps : ps_T) (wh : wh_T) (s : Nat × Nat) : Bool := decide (ps s.1 = none) && decide (hgt wh b s.2 T < T) && !(hvy a (up3 wh b s.2 (hgt wh b s.2 T) (some s.1)) ld s.1 b s.2 (hgt wh b s.2 T)) && !(ltr a (up3 wh b s.2 (hgt wh b s.2 T) (some s.1)) s.1 b s.2 (hgt wh b s.2 T)) && !(decide ((a s.1).2.2.2 = 1 ∧ pg b s.2 (hgt wh b s.2 T) = false))
def mdc (ps : ps_T) (wh : wh_T) (s : Nat × Nat) : Nat := sm (fun j => ob1 a (va_up ps s.1 (some (b, s.2, hgt wh b s.2 T))) s.1 (up3 wh b s.2 (hgt wh b s.2 T) (some s.1) b s.2 j)) (hgt wh b s.2 T)
def dfs (L : List Nat) : Nat → wl_T → ps_T → wh_T → wl_T → wl_T
  | 0, p, _, _, q => if bet p q = true then p else q
  | m + 1, p, ps, wh, q => (L.flatMap (fun k => (List.range R).map (fun r => (k, r)))).foldl (fun q s => if okc T b a pg ld ps wh s = true ∧ ¬ (q.1.length = L.length ∧ q.2 ≤ p.2 + mdc T b a ps wh s) then dfs L m (p.1 ++ [s], p.2 + mdc T b a ps wh s) (va_up ps s.1 (some (b, s.2, hgt wh b s.2 T))) (up3 wh b s.2 (hgt wh b s.2 T) (some s.1)) q else q) (if bet p q = true then p else q)
def dst1 (L : List Nat) (m : Nat) (p : wl_T) (ps : ps_T) (wh : wh_T) (q : wl_T) (s : Nat × Nat) : wl_T := if okc T b a pg ld ps wh s = true ∧ ¬ (q.1.length = L.length ∧ q.2 ≤ p.2 + mdc T b a ps wh s) then dfs T R b a pg ld L m (p.1 ++ [s], p.2 + mdc T b a ps wh s) (va_up ps s.1 (some (b, s.2, hgt wh b s.2 T))) (up3 wh b s.2 (hgt wh b s.2 T) (some s.1)) q else q
theorem dfs_s (L : List Nat) (m : Nat) (p : wl_T) (ps : ps_T) (wh : wh_T) (q : wl_T) : dfs T R b a pg ld L (m + 1) p ps wh q = (L.flatMap (fun k => (List.range R).map (fun r => (k, r)))).foldl (dst1 T R b a pg ld L m p ps wh) (if bet p q = true then p else q) := rfl
end DFS
/-- a way of the class's holds this one -/
def rep (n : Nat) (y : wy_T) (p : wl_T) : Prop := y.1 = p.1.length ∧ y.2.1 = p.2 ∧ p.2 ≤ 5 * p.1.length ∧ p.1.length ≤ 4 ∧ (∀ i s, p.1[i]? = some s → y.2.2.1 i = some s.1 ∧ y.2.2.2 i = s.2) ∧ ∀ s ∈ p.1, s.1 < n
theorem rep_add {n : Nat} {y : wy_T} {p : wl_T} {s : Nat × Nat} {m : Nat} (h : rep n y p) (hs : s.1 < n) (hm : m ≤ 5) (hl : p.1.length < 4) : rep n (y.1 + 1, y.2.1 + m, va_up y.2.2.1 y.1 (some s.1), va_up y.2.2.2 y.1 s.2) (p.1 ++ [s], p.2 + m) := by
  obtain ⟨h1, h2, h3, h4, h5, h6⟩ := h
  have hle : (p.1 ++ [s]).length = p.1.length + 1 := by rw [List.length_append]; rfl
  refine ⟨by dsimp only; rw [hle, h1], by dsimp only; rw [h2], by dsimp only; rw [hle]; omega, by dsimp only; rw [hle]; omega, fun i z hz => ?_, fun z hz => ?_⟩
  · dsimp only at hz ⊢
    by_cases hi : i < p.1.length
    · rw [List.getElem?_append_left hi] at hz
      rw [va_up_ne _ _ (by omega), va_up_ne _ _ (by omega)]
      exact h5 i z hz
    · rw [List.getElem?_append_right (by omega)] at hz
      have hi0 : i - p.1.length < 1 := (List.getElem?_eq_some_iff.mp hz).1
      rw [show i - p.1.length = 0 by omega] at hz
      cases hz
      rw [show i = y.1 by omega, va_up_self, va_up_self]
      exact ⟨rfl, rfl⟩
  · rcases List.mem_append.mp hz with hz | hz
    · exact h6 z hz
    · rw [List.mem_singleton.mp hz]; exact hs
theorem rep_drop {n : Nat} {y : wy_T} {p : wl_T} {s : Nat × Nat} {m : Nat} (h : rep n y (p.1 ++ [s], p.2 + m)) (hp : p.2 ≤ 5 * p.1.length) : rep n (y.1 - 1, y.2.1 - m, y.2.2) p := by
  obtain ⟨h1, h2, h3, h4, h5, h6⟩ := h
  dsimp only at h1 h2 h3 h4 h5 h6
  have hle : (p.1 ++ [s]).length = p.1.length + 1 := by rw [List.length_append]; rfl
  refine ⟨by dsimp only; omega, by dsimp only; omega, hp, by omega, fun i z hz => h5 i z ?_, fun z hz => h6 z (List.mem_append_left _ hz)⟩
  rw [List.getElem?_append_left (List.getElem?_eq_some_iff.mp hz).1]
  exact hz
theorem rep_cp {n : Nat} {y z : wy_T} {p : wl_T} (h : rep n y p) : rep n (y.1, y.2.1, cp y.2.2.1 z.2.2.1 y.1, cp y.2.2.2 z.2.2.2 y.1) p := by
  obtain ⟨h1, h2, h3, h4, h5, h6⟩ := h
  refine ⟨h1, h2, h3, h4, fun i s hs => ?_, h6⟩
  have hi := (List.getElem?_eq_some_iff.mp hs).1
  dsimp only
  rw [show cp y.2.2.1 z.2.2.1 y.1 i = y.2.2.1 i from if_pos (by omega), show cp y.2.2.2 z.2.2.2 y.1 i = y.2.2.2 i from if_pos (by omega)]
  exact h5 i s hs
theorem wz_up {B R T n : Nat} {wh : wh_T} (h : wz B R T n wh) {b r t k : Nat} (hk : k < n) (hb : b < B) (hr : r < R) (ht : t < T) : wz B R T n (up3 wh b r t (some k)) := by
  intro b' r' t' k' hk'
  unfold up3 at hk'
  split at hk'
  · rename_i e
    cases hk'
    rw [e.1, e.2.1, e.2.2]
    exact ⟨hk, hb, hr, ht⟩
  · exact h b' r' t' k' hk'
theorem pz_up {B R T n : Nat} {a : at_T} {ps : ps_T} (h : pz B R T n a ps) {b r t k : Nat} (hk : k < n) (hs : ¬ (a k).1 = 40) (hb : b < B) (hr : r < R) (ht : t < T) : pz B R T n a (va_up ps k (some (b, r, t))) := by
  intro k' b' r' t' hk'
  unfold va_up at hk'
  split at hk'
  · rename_i e
    cases hk'
    rw [e]
    exact ⟨hk, hb, hr, ht, fun z => absurd z hs⟩
  · exact h k' b' r' t' hk'
theorem hgt_none {wh : wh_T} {b r : Nat} : ∀ {t : Nat}, hgt wh b r t < t → wh b r (hgt wh b r t) = none
  | 0, h => absurd h (Nat.not_lt_zero _)
  | t + 1, h => by
    unfold hgt at h ⊢
    split at h
    · rename_i e
      rw [if_pos e]
      by_cases h1 : hgt wh b r t < t
      · exact hgt_none h1
      · have := hgt_le wh b r t
        rw [show hgt wh b r t = t by omega]
        exact e
    · exact absurd h (by omega)
theorem up3_back {wh : wh_T} {b r t k : Nat} (h : wh b r t = none) : up3 (up3 wh b r t (some k)) b r t none = wh := by
  funext b' r' t'
  unfold up3
  split
  · rename_i e
    rw [e.1, e.2.1, e.2.2, h]
  · rfl
theorem up_back {ps : ps_T} {k : Nat} {q : Nat × Nat × Nat} (h : ps k = none) : va_up (va_up ps k (some q)) k none = ps := by
  funext i
  unfold va_up
  split
  · rename_i e; rw [e, h]
  · rfl
theorem ob1_le (a : at_T) (ps : ps_T) (u : Nat) (o : Option Nat) : ob1 a ps u o ≤ 1 := by
  cases o with
  | none => exact Nat.zero_le _
  | some l =>
    show (if ovs a ps u l = true then 1 else 0) ≤ 1
    split <;> omega
theorem mdc_le {T b : Nat} {a : at_T} {ps : ps_T} {wh : wh_T} {s : Nat × Nat} (hT : T ≤ 5) : mdc T b a ps wh s ≤ 5 := by
  have h1 := hgt_le wh b s.2 T
  have h2 : mdc T b a ps wh s ≤ 1 * hgt wh b s.2 T := sm_le (fun j _ => ob1_le _ _ _ _)
  omega
section C14
variable {B R T n : Nat} {a : at_T} {ps : ps_T} {wh : wh_T} {pg : pg_T} {ld : Nat → Nat} {kp : Nat → Int64} {cc : Nat} {cd : Nat → Option Nat} {tr be : wy_T} {ou : Int64} {X : pm_A × (Nat × Nat)} {S : pm_S} {d : Nat}
/-- what the search knows, and how it ends, with m steps to go -/
def ext_ok (S : pm_S) (B R T n : Nat) (a : at_T) (pg : pg_T) (ld : Nat → Nat) (kp : Nat → Int64) (cd : Nat → Option Nat) (ou : Int64) (X : pm_A × (Nat × Nat)) (b : Nat) (L : List Nat) (m : Nat) : Prop :=
  ∀ (d : Nat) (ps : ps_T) (wh : wh_T) (tr be : wy_T) (p q : wl_T), pz B R T n a ps → wz B R T n wh → p.1.length + m = L.length → rep n tr p → rep n be q → ∃ tr' be' : wy_T, rep n tr' p ∧ rep n be' (dfs T R b a pg ld L m p ps wh q) ∧
    fr S (d + 2 * m + 6) (53, 0, [.ref (g0 0), .int (w b), .int (w p.1.length), pm_U, pm_U], []) (CM B R T n a ps wh pg ld kp L.length cd tr be ou X) = some (.inl none, (CM B R T n a ps wh pg ld kp L.length cd tr' be' ou X))
set_option maxRecDepth 20000 in
theorem c54 (hz : dz B R T n) (ha : az n a) (hl : lz ld) {b : Nat} (hb : b < B) {L : List Nat} (hL : ∀ k ∈ L, k < n ∧ ¬ (a k).1 = 40) (hL4 : L.length ≤ 4) {m : Nat} (ih : ext_ok S B R T n a pg ld kp cd ou X b L m) (hp : pz B R T n a ps) (hw : wz B R T n wh) {p q : wl_T} (hm : p.1.length + (m + 1) = L.length) (ht : rep n tr p) (hq : rep n be q) {k r : Nat} (hk : k ∈ L) (hr : r < R) : ∃ tr' be' : wy_T, rep n tr' p ∧ rep n be' (dst1 T R b a pg ld L m p ps wh q (k, r)) ∧
    fr S (d + 2 * m + 7) (54, 0, [.ref (g0 0), .ref (bn k), .int (w b), .int (w r), .int (w p.1.length), pm_U, pm_U], []) (CM B R T n a ps wh pg ld kp L.length cd tr be ou X) = some (.inl none, (CM B R T n a ps wh pg ld kp L.length cd tr' be' ou X)) := by
  have hn := hz.2.2.2.2.2.2
  have hB := hz.2.1
  have hR := hz.2.2.2.1
  have hT := hz.2.2.2.2.2.1
  obtain ⟨hkn, hs⟩ := hL k hk
  have c64' := c64 (S := S) (d := d + 2 * m + 6) (cc := L.length) (wh := wh) (pg := pg) (ld := ld) (kp := kp) (cd := cd) (tr := tr) (be := be) (ou := ou) (X := X) hn hp hz hkn
  have c56' := c56 (S := S) (d := d + 2 * m + 2) (cc := L.length) (ps := ps) (pg := pg) (ld := ld) (kp := kp) (cd := cd) (tr := tr) (be := be) (ou := ou) (X := X) hz ha hw hkn hs hb hr
  generalize hD : d + 2 * m = D at *
  by_cases h1 : ps k = none
  · by_cases h2 : hgt wh b r T < T
    · have hps' := pz_up hp hkn hs hb hr h2
      have hwh' := wz_up hw hkn hb hr h2
      have hpk : va_up ps k (some (b, r, hgt wh b r T)) k = some (b, r, hgt wh b r T) := va_up_self _ _ _
      rw [if_pos h2] at c56'
      have c43' := c43 (S := S) (d := D + 3) (cc := L.length) (pg := pg) (kp := kp) (cd := cd) (tr := tr) (be := be) (ou := ou) (X := X) hz ha hwh' hl hkn hpk hb (by omega) (by omega) (fun z => absurd z hs)
      have c45' := c45 (S := S) (d := D + 4) (cc := L.length) (pg := pg) (ld := ld) (kp := kp) (cd := cd) (tr := tr) (be := be) (ou := ou) (X := X) hz ha hwh' hkn hpk hb (by omega) (by omega)
      have c46' := c46 (S := S) (d := D + 5) (cc := L.length) (wh := up3 wh b r (hgt wh b r T) (some k)) (pg := pg) (ld := ld) (kp := kp) (cd := cd) (tr := tr) (be := be) (ou := ou) (X := X) hz ha hkn hpk hb hr h2
      have c51' := c51 (S := S) (d := D + 2) (cc := L.length) (pg := pg) (ld := ld) (kp := kp) (cd := cd) (tr := tr) (be := be) (ou := ou) (X := X) hz ha hps' hwh' hkn hpk
      have c34' := fun tr be => c34 (S := S) (d := D + 3) (cc := L.length) (wh := up3 wh b r (hgt wh b r T) (some k)) (pg := pg) (ld := ld) (kp := kp) (cd := cd) (tr := tr) (be := be) (ou := ou) (X := X) hz ha hkn hpk hb hr h2 (fun z => absurd z hs)
      rw [up_back h1] at c34'
      simp only [show upc (up3 wh b r (hgt wh b r T) (some k)) (a k).1 b r (hgt wh b r T) none = up3 (up3 wh b r (hgt wh b r T) (some k)) b r (hgt wh b r T) none from if_neg hs, up3_back (hgt_none h2)] at c34'
      have hmd : sm (fun j => ob1 a (va_up ps k (some (b, r, hgt wh b r T))) k (up3 wh b r (hgt wh b r T) (some k) b r j)) (hgt wh b r T) = mdc T b a ps wh (k, r) := rfl
      rw [hmd] at c51'
      have hmd5 := mdc_le (T := T) (b := b) (a := a) (ps := ps) (wh := wh) (s := (k, r)) hT
      simp only [hs, false_and, or_false] at c43' c45'
      have ht1 := ht.1
      have ht2 := ht.2.1
      have ht3 := ht.2.2.1
      have ht4 := ht.2.2.2.1
      have hq1 := hq.1
      have hq2 := hq.2.1
      have hq3 := hq.2.2.1
      have hq4 := hq.2.2.2.1
      by_cases g1 : hvy a (up3 wh b r (hgt wh b r T) (some k)) ld k b r (hgt wh b r T) = true
      · refine ⟨tr, be, ht, ?_, ?_⟩
        · rw [show dst1 T R b a pg ld L m p ps wh q (k, r) = q from if_neg (fun z => by
            have := z.1
            unfold okc at this
            rw [g1] at this
            simp at this)]
          exact hq
        · rw [if_pos g1] at c43'
          simp (disch := first | assumption | exact pm_g0_ne1 _ | exact bn_ne1 _ | exact pm_g1_ne1 _ | omega) only [f54_0, f54_1, f54_4, f54_5, f54_8, f54_11, f54_12, f54_13, f54_14, f54_15, f54_18, f54_21, f54_22, f54_23, f54_24, f54_27, f54_30, f54_31, f54_32, f54_35, f54_38, f54_39, f54_40, f54_43, f54_46, f54_47, f54_50, f54_51, f54_53, f54_55, f54_58, f54_59, f54_60, f54_63, f54_66, f54_67, f54_69, f54_71, f54_74, f54_75, f54_76, f54_79, f54_82, f54_84, f54_85, f54_88, f54_91, f54_92, f54_95, f54_96, f54_97, f54_99, f54_102, f54_103, f54_104, f54_106, f54_107, f54_108, f54_111, f54_112, f54_115, f54_117, f54_120, f54_121, f54_122, f54_125, List.getD_cons_zero, List.getD_cons_succ, List.set_cons_zero, List.set_cons_succ, List.length_cons, List.length_nil, pm_ty_i, pm_ty_l, pm_ty_n, pm_ty_r, pm_ty_u, pm_ty_q, pm_fit_i, pm_fit_l, pm_fit_n, pm_fit_r, pm_fit_q, pm_fit3_0, pm_fit3_1, ag_0, ag_s, List.headD_cons, List.cons_append, List.nil_append, Option.toList_some, Option.toList_none, if_true, if_false, ite_true, ite_false, ↓reduceIte, and_true, true_and, and_self, or_true, true_or, or_false, false_or, not_true_eq_false, not_false_eq_true, Nat.reduceLT, Nat.reduceLeDiff, Nat.reduceEqDiff, Nat.reduceAdd, Nat.reduceSub, reduceCtorEq, i_0, i_1, i_2, i_3, i_4, i_5, i_6, i_7, i_8, i_10, i_16, i_20, i_40, i_80, i_200, i_1000, i_m1, w_lt_t, w_lt_f, w_le_t, w_le_f, w_eq_t, w_eq_f, w_add, w_mul, w_sub, w_clamp, w_ne_m1, m1_lt, m1_le, w_lt_m1, w_le_m1, rf_null, rf_none, rf_some, Option.map_none, Option.map_some, Option.bind_some, el_i, el_r, w_div, w_dec0, w_inc_m1, el_l, ev_i, ev_l, ev_n, ev_r, gt_0, gt_1, gt_2, gt_3, gt_4, gt_5, gt_6, gt_7, gt_8, gt_9, gt_10, gt_11, gt_12, ob_0, ob_6, ob_9, gt_b, ob_b, sq_n, sq_r, st_2n, st_2s, st_0, st_4, st_6, st_9, st_12, st_8, st_11, st_5n, st_5s, st_7n, st_7s, st_10n, st_10s, if_pos, if_neg, c64', h1, Option.isSome_none, Bool.false_eq_true, c56', c43', c34']
      · rw [if_neg g1] at c43'
        by_cases g2 : ltr a (up3 wh b r (hgt wh b r T) (some k)) k b r (hgt wh b r T) = true
        · refine ⟨tr, be, ht, ?_, ?_⟩
          · rw [show dst1 T R b a pg ld L m p ps wh q (k, r) = q from if_neg (fun z => by
              have := z.1
              unfold okc at this
              rw [g2] at this
              simp at this)]
            exact hq
          · rw [if_pos g2] at c45'
            simp (disch := first | assumption | exact pm_g0_ne1 _ | exact bn_ne1 _ | exact pm_g1_ne1 _ | omega) only [f54_0, f54_1, f54_4, f54_5, f54_8, f54_11, f54_12, f54_13, f54_14, f54_15, f54_18, f54_21, f54_22, f54_23, f54_24, f54_27, f54_30, f54_31, f54_32, f54_35, f54_38, f54_39, f54_40, f54_43, f54_46, f54_47, f54_50, f54_51, f54_53, f54_55, f54_58, f54_59, f54_60, f54_63, f54_66, f54_67, f54_69, f54_71, f54_74, f54_75, f54_76, f54_79, f54_82, f54_84, f54_85, f54_88, f54_91, f54_92, f54_95, f54_96, f54_97, f54_99, f54_102, f54_103, f54_104, f54_106, f54_107, f54_108, f54_111, f54_112, f54_115, f54_117, f54_120, f54_121, f54_122, f54_125, List.getD_cons_zero, List.getD_cons_succ, List.set_cons_zero, List.set_cons_succ, List.length_cons, List.length_nil, pm_ty_i, pm_ty_l, pm_ty_n, pm_ty_r, pm_ty_u, pm_ty_q, pm_fit_i, pm_fit_l, pm_fit_n, pm_fit_r, pm_fit_q, pm_fit3_0, pm_fit3_1, ag_0, ag_s, List.headD_cons, List.cons_append, List.nil_append, Option.toList_some, Option.toList_none, if_true, if_false, ite_true, ite_false, ↓reduceIte, and_true, true_and, and_self, or_true, true_or, or_false, false_or, not_true_eq_false, not_false_eq_true, Nat.reduceLT, Nat.reduceLeDiff, Nat.reduceEqDiff, Nat.reduceAdd, Nat.reduceSub, reduceCtorEq, i_0, i_1, i_2, i_3, i_4, i_5, i_6, i_7, i_8, i_10, i_16, i_20, i_40, i_80, i_200, i_1000, i_m1, w_lt_t, w_lt_f, w_le_t, w_le_f, w_eq_t, w_eq_f, w_add, w_mul, w_sub, w_clamp, w_ne_m1, m1_lt, m1_le, w_lt_m1, w_le_m1, rf_null, rf_none, rf_some, Option.map_none, Option.map_some, Option.bind_some, el_i, el_r, w_div, w_dec0, w_inc_m1, el_l, ev_i, ev_l, ev_n, ev_r, gt_0, gt_1, gt_2, gt_3, gt_4, gt_5, gt_6, gt_7, gt_8, gt_9, gt_10, gt_11, gt_12, ob_0, ob_6, ob_9, gt_b, ob_b, sq_n, sq_r, st_2n, st_2s, st_0, st_4, st_6, st_9, st_12, st_8, st_11, st_5n, st_5s, st_7n, st_7s, st_10n, st_10s, if_pos, if_neg, c64', h1, Option.isSome_none, Bool.false_eq_true, c56', c43', c45', c34']
        · rw [if_neg g2] at c45'
          by_cases g3 : (a k).2.2.2 = 1 ∧ pg b r (hgt wh b r T) = false
          · refine ⟨tr, be, ht, ?_, ?_⟩
            · rw [show dst1 T R b a pg ld L m p ps wh q (k, r) = q from if_neg (fun z => by
                have := z.1
                unfold okc at this
                rw [decide_eq_true g3] at this
                simp at this)]
              exact hq
            · rw [if_pos g3] at c46'
              simp (disch := first | assumption | exact pm_g0_ne1 _ | exact bn_ne1 _ | exact pm_g1_ne1 _ | omega) only [f54_0, f54_1, f54_4, f54_5, f54_8, f54_11, f54_12, f54_13, f54_14, f54_15, f54_18, f54_21, f54_22, f54_23, f54_24, f54_27, f54_30, f54_31, f54_32, f54_35, f54_38, f54_39, f54_40, f54_43, f54_46, f54_47, f54_50, f54_51, f54_53, f54_55, f54_58, f54_59, f54_60, f54_63, f54_66, f54_67, f54_69, f54_71, f54_74, f54_75, f54_76, f54_79, f54_82, f54_84, f54_85, f54_88, f54_91, f54_92, f54_95, f54_96, f54_97, f54_99, f54_102, f54_103, f54_104, f54_106, f54_107, f54_108, f54_111, f54_112, f54_115, f54_117, f54_120, f54_121, f54_122, f54_125, List.getD_cons_zero, List.getD_cons_succ, List.set_cons_zero, List.set_cons_succ, List.length_cons, List.length_nil, pm_ty_i, pm_ty_l, pm_ty_n, pm_ty_r, pm_ty_u, pm_ty_q, pm_fit_i, pm_fit_l, pm_fit_n, pm_fit_r, pm_fit_q, pm_fit3_0, pm_fit3_1, ag_0, ag_s, List.headD_cons, List.cons_append, List.nil_append, Option.toList_some, Option.toList_none, if_true, if_false, ite_true, ite_false, ↓reduceIte, and_true, true_and, and_self, or_true, true_or, or_false, false_or, not_true_eq_false, not_false_eq_true, Nat.reduceLT, Nat.reduceLeDiff, Nat.reduceEqDiff, Nat.reduceAdd, Nat.reduceSub, reduceCtorEq, i_0, i_1, i_2, i_3, i_4, i_5, i_6, i_7, i_8, i_10, i_16, i_20, i_40, i_80, i_200, i_1000, i_m1, w_lt_t, w_lt_f, w_le_t, w_le_f, w_eq_t, w_eq_f, w_add, w_mul, w_sub, w_clamp, w_ne_m1, m1_lt, m1_le, w_lt_m1, w_le_m1, rf_null, rf_none, rf_some, Option.map_none, Option.map_some, Option.bind_some, el_i, el_r, w_div, w_dec0, w_inc_m1, el_l, ev_i, ev_l, ev_n, ev_r, gt_0, gt_1, gt_2, gt_3, gt_4, gt_5, gt_6, gt_7, gt_8, gt_9, gt_10, gt_11, gt_12, ob_0, ob_6, ob_9, gt_b, ob_b, sq_n, sq_r, st_2n, st_2s, st_0, st_4, st_6, st_9, st_12, st_8, st_11, st_5n, st_5s, st_7n, st_7s, st_10n, st_10s, if_pos, if_neg, c64', h1, Option.isSome_none, Bool.false_eq_true, c56', c43', c45', c46', c34']
          · rw [if_neg g3] at c46'
            have hok : okc T b a pg ld ps wh (k, r) = true := by
              unfold okc
              dsimp only
              rw [decide_eq_true h1, decide_eq_true h2, decide_eq_false g3, Bool.eq_false_iff.mpr g1, Bool.eq_false_iff.mpr g2]
              rfl
            by_cases g4 : q.1.length = L.length ∧ q.2 ≤ p.2 + mdc T b a ps wh (k, r)
            · refine ⟨tr, be, ht, ?_, ?_⟩
              · rw [show dst1 T R b a pg ld L m p ps wh q (k, r) = q from if_neg (fun z => z.2 g4)]
                exact hq
              · simp (disch := first | assumption | exact pm_g0_ne1 _ | exact bn_ne1 _ | exact pm_g1_ne1 _ | omega) only [f54_0, f54_1, f54_4, f54_5, f54_8, f54_11, f54_12, f54_13, f54_14, f54_15, f54_18, f54_21, f54_22, f54_23, f54_24, f54_27, f54_30, f54_31, f54_32, f54_35, f54_38, f54_39, f54_40, f54_43, f54_46, f54_47, f54_50, f54_51, f54_53, f54_55, f54_58, f54_59, f54_60, f54_63, f54_66, f54_67, f54_69, f54_71, f54_74, f54_75, f54_76, f54_79, f54_82, f54_84, f54_85, f54_88, f54_91, f54_92, f54_95, f54_96, f54_97, f54_99, f54_102, f54_103, f54_104, f54_106, f54_107, f54_108, f54_111, f54_112, f54_115, f54_117, f54_120, f54_121, f54_122, f54_125, List.getD_cons_zero, List.getD_cons_succ, List.set_cons_zero, List.set_cons_succ, List.length_cons, List.length_nil, pm_ty_i, pm_ty_l, pm_ty_n, pm_ty_r, pm_ty_u, pm_ty_q, pm_fit_i, pm_fit_l, pm_fit_n, pm_fit_r, pm_fit_q, pm_fit3_0, pm_fit3_1, ag_0, ag_s, List.headD_cons, List.cons_append, List.nil_append, Option.toList_some, Option.toList_none, if_true, if_false, ite_true, ite_false, ↓reduceIte, and_true, true_and, and_self, or_true, true_or, or_false, false_or, not_true_eq_false, not_false_eq_true, Nat.reduceLT, Nat.reduceLeDiff, Nat.reduceEqDiff, Nat.reduceAdd, Nat.reduceSub, reduceCtorEq, i_0, i_1, i_2, i_3, i_4, i_5, i_6, i_7, i_8, i_10, i_16, i_20, i_40, i_80, i_200, i_1000, i_m1, w_lt_t, w_lt_f, w_le_t, w_le_f, w_eq_t, w_eq_f, w_add, w_mul, w_sub, w_clamp, w_ne_m1, m1_lt, m1_le, w_lt_m1, w_le_m1, rf_null, rf_none, rf_some, Option.map_none, Option.map_some, Option.bind_some, el_i, el_r, w_div, w_dec0, w_inc_m1, el_l, ev_i, ev_l, ev_n, ev_r, gt_0, gt_1, gt_2, gt_3, gt_4, gt_5, gt_6, gt_7, gt_8, gt_9, gt_10, gt_11, gt_12, ob_0, ob_6, ob_9, gt_b, ob_b, sq_n, sq_r, st_2n, st_2s, st_0, st_4, st_6, st_9, st_12, st_8, st_11, st_5n, st_5s, st_7n, st_7s, st_10n, st_10s, if_pos, if_neg, c64', h1, Option.isSome_none, Bool.false_eq_true, c56', c43', c45', c46', c51', c55, c34']
            · have hle : (p.1 ++ [(k, r)]).length = p.1.length + 1 := by rw [List.length_append]; rfl
              obtain ⟨tr2, be2, r1, r2, r3⟩ := ih d _ _ _ _ (p.1 ++ [(k, r)], p.2 + mdc T b a ps wh (k, r)) q hps' hwh' (by show (p.1 ++ [(k, r)]).length + m = _; omega) (rep_add ht (s := (k, r)) hkn hmd5 (by omega)) hq
              rw [hD] at r3
              have r3 := r3
              dsimp only at r3
              rw [hle] at r3
              have q1 : tr2.1 = p.1.length + 1 := by rw [r1.1]; exact hle
              have q2 : tr2.2.1 = p.2 + mdc T b a ps wh (k, r) := r1.2.1
              refine ⟨(tr2.1 - 1, tr2.2.1 - mdc T b a ps wh (k, r), tr2.2.2), be2, rep_drop r1 ht3, ?_, ?_⟩
              · rw [show dst1 T R b a pg ld L m p ps wh q (k, r) = _ from if_pos ⟨hok, g4⟩]
                exact r2
              · simp (disch := first | assumption | exact pm_g0_ne1 _ | exact bn_ne1 _ | exact pm_g1_ne1 _ | omega) only [f54_0, f54_1, f54_4, f54_5, f54_8, f54_11, f54_12, f54_13, f54_14, f54_15, f54_18, f54_21, f54_22, f54_23, f54_24, f54_27, f54_30, f54_31, f54_32, f54_35, f54_38, f54_39, f54_40, f54_43, f54_46, f54_47, f54_50, f54_51, f54_53, f54_55, f54_58, f54_59, f54_60, f54_63, f54_66, f54_67, f54_69, f54_71, f54_74, f54_75, f54_76, f54_79, f54_82, f54_84, f54_85, f54_88, f54_91, f54_92, f54_95, f54_96, f54_97, f54_99, f54_102, f54_103, f54_104, f54_106, f54_107, f54_108, f54_111, f54_112, f54_115, f54_117, f54_120, f54_121, f54_122, f54_125, List.getD_cons_zero, List.getD_cons_succ, List.set_cons_zero, List.set_cons_succ, List.length_cons, List.length_nil, pm_ty_i, pm_ty_l, pm_ty_n, pm_ty_r, pm_ty_u, pm_ty_q, pm_fit_i, pm_fit_l, pm_fit_n, pm_fit_r, pm_fit_q, pm_fit3_0, pm_fit3_1, ag_0, ag_s, List.headD_cons, List.cons_append, List.nil_append, Option.toList_some, Option.toList_none, if_true, if_false, ite_true, ite_false, ↓reduceIte, and_true, true_and, and_self, or_true, true_or, or_false, false_or, not_true_eq_false, not_false_eq_true, Nat.reduceLT, Nat.reduceLeDiff, Nat.reduceEqDiff, Nat.reduceAdd, Nat.reduceSub, reduceCtorEq, i_0, i_1, i_2, i_3, i_4, i_5, i_6, i_7, i_8, i_10, i_16, i_20, i_40, i_80, i_200, i_1000, i_m1, w_lt_t, w_lt_f, w_le_t, w_le_f, w_eq_t, w_eq_f, w_add, w_mul, w_sub, w_clamp, w_ne_m1, m1_lt, m1_le, w_lt_m1, w_le_m1, rf_null, rf_none, rf_some, Option.map_none, Option.map_some, Option.bind_some, el_i, el_r, w_div, w_dec0, w_inc_m1, el_l, ev_i, ev_l, ev_n, ev_r, gt_0, gt_1, gt_2, gt_3, gt_4, gt_5, gt_6, gt_7, gt_8, gt_9, gt_10, gt_11, gt_12, ob_0, ob_6, ob_9, gt_b, ob_b, sq_n, sq_r, st_2n, st_2s, st_0, st_4, st_6, st_9, st_12, st_8, st_11, st_5n, st_5s, st_7n, st_7s, st_10n, st_10s, if_pos, if_neg, c64', h1, Option.isSome_none, Bool.false_eq_true, c56', c43', c45', c46', c51', c55, c77, r3, c78, c34']
    · refine ⟨tr, be, ht, ?_, ?_⟩
      · rw [show dst1 T R b a pg ld L m p ps wh q (k, r) = q from if_neg (fun z => by
          have := z.1
          unfold okc at this
          rw [decide_eq_false h2] at this
          simp at this)]
        exact hq
      · rw [if_neg h2] at c56'
        simp (disch := first | assumption | exact pm_g0_ne1 _ | exact bn_ne1 _ | exact pm_g1_ne1 _ | omega) only [f54_0, f54_1, f54_4, f54_5, f54_8, f54_11, f54_12, f54_13, f54_14, f54_15, f54_18, f54_21, f54_22, f54_23, f54_24, f54_27, f54_30, f54_31, f54_32, f54_35, f54_38, f54_39, f54_40, f54_43, f54_46, f54_47, f54_50, f54_51, f54_53, f54_55, f54_58, f54_59, f54_60, f54_63, f54_66, f54_67, f54_69, f54_71, f54_74, f54_75, f54_76, f54_79, f54_82, f54_84, f54_85, f54_88, f54_91, f54_92, f54_95, f54_96, f54_97, f54_99, f54_102, f54_103, f54_104, f54_106, f54_107, f54_108, f54_111, f54_112, f54_115, f54_117, f54_120, f54_121, f54_122, f54_125, List.getD_cons_zero, List.getD_cons_succ, List.set_cons_zero, List.set_cons_succ, List.length_cons, List.length_nil, pm_ty_i, pm_ty_l, pm_ty_n, pm_ty_r, pm_ty_u, pm_ty_q, pm_fit_i, pm_fit_l, pm_fit_n, pm_fit_r, pm_fit_q, pm_fit3_0, pm_fit3_1, ag_0, ag_s, List.headD_cons, List.cons_append, List.nil_append, Option.toList_some, Option.toList_none, if_true, if_false, ite_true, ite_false, ↓reduceIte, and_true, true_and, and_self, or_true, true_or, or_false, false_or, not_true_eq_false, not_false_eq_true, Nat.reduceLT, Nat.reduceLeDiff, Nat.reduceEqDiff, Nat.reduceAdd, Nat.reduceSub, reduceCtorEq, i_0, i_1, i_2, i_3, i_4, i_5, i_6, i_7, i_8, i_10, i_16, i_20, i_40, i_80, i_200, i_1000, i_m1, w_lt_t, w_lt_f, w_le_t, w_le_f, w_eq_t, w_eq_f, w_add, w_mul, w_sub, w_clamp, w_ne_m1, m1_lt, m1_le, w_lt_m1, w_le_m1, rf_null, rf_none, rf_some, Option.map_none, Option.map_some, Option.bind_some, el_i, el_r, w_div, w_dec0, w_inc_m1, el_l, ev_i, ev_l, ev_n, ev_r, gt_0, gt_1, gt_2, gt_3, gt_4, gt_5, gt_6, gt_7, gt_8, gt_9, gt_10, gt_11, gt_12, ob_0, ob_6, ob_9, gt_b, ob_b, sq_n, sq_r, st_2n, st_2s, st_0, st_4, st_6, st_9, st_12, st_8, st_11, st_5n, st_5s, st_7n, st_7s, st_10n, st_10s, if_pos, if_neg, c64', h1, Option.isSome_none, Bool.false_eq_true, c56']
  · refine ⟨tr, be, ht, ?_, ?_⟩
    · rw [show dst1 T R b a pg ld L m p ps wh q (k, r) = q from if_neg (fun z => by
        have := z.1
        unfold okc at this
        rw [decide_eq_false h1] at this
        simp at this)]
      exact hq
    · have h3 : (ps k).isSome = true := by
        cases h9 : ps k with
        | none => exact absurd h9 h1
        | some z => rfl
      simp (disch := first | assumption | exact pm_g0_ne1 _ | exact bn_ne1 _ | exact pm_g1_ne1 _ | omega) only [f54_0, f54_1, f54_4, f54_5, f54_8, f54_11, f54_12, f54_13, f54_14, f54_15, f54_18, f54_21, f54_22, f54_23, f54_24, f54_27, f54_30, f54_31, f54_32, f54_35, f54_38, f54_39, f54_40, f54_43, f54_46, f54_47, f54_50, f54_51, f54_53, f54_55, f54_58, f54_59, f54_60, f54_63, f54_66, f54_67, f54_69, f54_71, f54_74, f54_75, f54_76, f54_79, f54_82, f54_84, f54_85, f54_88, f54_91, f54_92, f54_95, f54_96, f54_97, f54_99, f54_102, f54_103, f54_104, f54_106, f54_107, f54_108, f54_111, f54_112, f54_115, f54_117, f54_120, f54_121, f54_122, f54_125, List.getD_cons_zero, List.getD_cons_succ, List.set_cons_zero, List.set_cons_succ, List.length_cons, List.length_nil, pm_ty_i, pm_ty_l, pm_ty_n, pm_ty_r, pm_ty_u, pm_ty_q, pm_fit_i, pm_fit_l, pm_fit_n, pm_fit_r, pm_fit_q, pm_fit3_0, pm_fit3_1, ag_0, ag_s, List.headD_cons, List.cons_append, List.nil_append, Option.toList_some, Option.toList_none, if_true, if_false, ite_true, ite_false, ↓reduceIte, and_true, true_and, and_self, or_true, true_or, or_false, false_or, not_true_eq_false, not_false_eq_true, Nat.reduceLT, Nat.reduceLeDiff, Nat.reduceEqDiff, Nat.reduceAdd, Nat.reduceSub, reduceCtorEq, i_0, i_1, i_2, i_3, i_4, i_5, i_6, i_7, i_8, i_10, i_16, i_20, i_40, i_80, i_200, i_1000, i_m1, w_lt_t, w_lt_f, w_le_t, w_le_f, w_eq_t, w_eq_f, w_add, w_mul, w_sub, w_clamp, w_ne_m1, m1_lt, m1_le, w_lt_m1, w_le_m1, rf_null, rf_none, rf_some, Option.map_none, Option.map_some, Option.bind_some, el_i, el_r, w_div, w_dec0, w_inc_m1, el_l, ev_i, ev_l, ev_n, ev_r, gt_0, gt_1, gt_2, gt_3, gt_4, gt_5, gt_6, gt_7, gt_8, gt_9, gt_10, gt_11, gt_12, ob_0, ob_6, ob_9, gt_b, ob_b, sq_n, sq_r, st_2n, st_2s, st_0, st_4, st_6, st_9, st_12, st_8, st_11, st_5n, st_5s, st_7n, st_7s, st_10n, st_10s, if_pos, if_neg, c64', h3]
end C14
