/-! A fill: the class's way is the reference's. -/
theorem range_mul (N : Nat) : ∀ k, List.range (k * N) = (List.range k).flatMap (fun c => (List.range N).map (fun v => c * N + v))
  | 0 => by rw [Nat.zero_mul]; rfl
  | k + 1 => by
    rw [Nat.succ_mul, List.range_add, range_mul N k, List.range_succ, List.flatMap_append]
    congr 1
    exact (List.append_nil _).symm
theorem dgt {c M v i : Nat} (h : i < M) : (c * 16 ^ M + v) / 16 ^ i % 16 = v / 16 ^ i % 16 := by
  obtain ⟨e, rfl⟩ : ∃ e, M = i + (e + 1) := ⟨M - i - 1, by omega⟩
  have h1 : c * 16 ^ (i + (e + 1)) + v = v + 16 ^ i * (16 * (16 ^ e * c)) := by
    rw [Nat.pow_add, Nat.pow_succ, Nat.add_comm, Nat.mul_comm c, Nat.mul_assoc, Nat.mul_comm (16 ^ e) 16, Nat.mul_assoc]
  rw [h1, Nat.add_mul_div_left _ _ (Nat.pow_pos (by omega)), Nat.add_mul_mod_self_left]
theorem dgt_top {c m v : Nat} (hc : c < 16) (hv : v < 16 ^ m) : (c * 16 ^ m + v) / 16 ^ m % 16 = c := by
  rw [Nat.add_comm, Nat.add_mul_div_right _ _ (Nat.pow_pos (by omega)), Nat.div_eq_of_lt hv, Nat.zero_add, Nat.mod_eq_of_lt hc]
def ixm {α β : Type} (H : α → List β) (o : Option α) : List β := match o with
  | none => []
  | some k => H k
theorem flat_idx {α β : Type} (H : α → List β) : ∀ (L : List α) (N : Nat), L.length ≤ N → (List.range N).flatMap (fun i => ixm H L[i]?) = L.flatMap H
  | [], N, _ => by
    have h : ∀ l : List Nat, l.flatMap (fun i => ixm H ([] : List α)[i]?) = [] := fun l => by
      induction l with
      | nil => rfl
      | cons x l ih => exact ih
    exact h _
  | k :: L, 0, h => absurd h (by show ¬ L.length + 1 ≤ 0; omega)
  | k :: L, N + 1, h => by
    rw [List.range_succ_eq_map, List.flatMap_cons, List.flatMap_map, List.flatMap_cons]
    exact congrArg (fun x => H k ++ x) (flat_idx H L N (Nat.le_of_succ_le_succ h))
theorem flat_nil {α β : Type} {f : α → List β} : ∀ {l : List α}, (∀ x ∈ l, f x = []) → l.flatMap f = []
  | [], _ => rfl
  | x :: l, h => by
    rw [List.flatMap_cons, h x List.mem_cons_self, flat_nil (fun y hy => h y (List.mem_cons_of_mem _ hy))]
    rfl
theorem flat_congr {α β : Type} {f g : α → List β} : ∀ {l : List α}, (∀ x ∈ l, f x = g x) → l.flatMap f = l.flatMap g
  | [], _ => rfl
  | x :: l, h => by
    rw [List.flatMap_cons, List.flatMap_cons, h x List.mem_cons_self, flat_congr (fun y hy => h y (List.mem_cons_of_mem _ hy))]
theorem flat_lt {β : Type} (p : Nat → Bool) (X : Nat → List β) {R N : Nat} (h : R ≤ N) : (List.range N).flatMap (fun j => if j < R ∧ p j = true then X j else []) = (List.range R).flatMap (fun j => if p j = true then X j else []) := by
  obtain ⟨e, rfl⟩ : ∃ e, N = R + e := ⟨N - R, by omega⟩
  have h0 : ∀ x ∈ List.range e, (if R + x < R ∧ p (R + x) = true then X (R + x) else []) = [] := fun x _ => if_neg (fun z => absurd z.1 (by omega))
  rw [List.range_add, List.flatMap_append, List.flatMap_map, flat_nil h0, List.append_nil]
  exact flat_congr (fun x hx => by
    have := List.mem_range.mp hx
    by_cases hp : p x = true
    · rw [if_pos ⟨this, hp⟩, if_pos hp]
    · rw [if_neg (fun z => hp z.2), if_neg hp])
section LVL
variable (T R b : Nat) (a : at_T) (pg : pg_T) (ld : Nat → Nat) (L : List Nat)
def sts : List (Nat × Nat) := L.flatMap (fun k => (List.range R).map (fun r => (k, r)))
def lvl : Nat → ps_T → wh_T → List (List (Nat × Nat))
  | 0, _, _ => [[]]
  | m + 1, ps, wh => (sts R L).flatMap (fun s => if okc T b a pg ld ps wh s = true then (lvl m (va_up ps s.1 (some (b, s.2, hgt wh b s.2 T))) (up3 wh b s.2 (hgt wh b s.2 T) (some s.1))).map (fun l => s :: l) else [])
def cpl (m v : Nat) (ps : ps_T) (wh : wh_T) : Option (List (Nat × Nat)) := if (doz T R b a pg ld L m v ps wh).length = m then some (doz T R b a pg ld L m v ps wh) else none
def ways : Nat → wl_T → ps_T → wh_T → List wl_T
  | 0, p, _, _ => [p]
  | m + 1, p, ps, wh => p :: (sts R L).flatMap (fun s => if okc T b a pg ld ps wh s = true then ways m (p.1 ++ [s], p.2 + mdc T b a ps wh s) (va_up ps s.1 (some (b, s.2, hgt wh b s.2 T))) (up3 wh b s.2 (hgt wh b s.2 T) (some s.1)) else [])
end LVL
section E1
variable {T R b : Nat} {a : at_T} {pg : pg_T} {ld : Nat → Nat} {L : List Nat}
theorem doz_mod : ∀ (m M c v : Nat) (ps : ps_T) (wh : wh_T), m ≤ M → doz T R b a pg ld L m (c * 16 ^ M + v) ps wh = doz T R b a pg ld L m v ps wh
  | 0, _, _, _, _, _, _ => rfl
  | m + 1, M, c, v, ps, wh, h => by
    have hd := dgt (c := c) (v := v) (show m < M by omega)
    cases h1 : L[v / 16 ^ m % 16 / 4]? with
    | none => rw [doz_n rfl h1, doz_n hd h1]
    | some k =>
      by_cases h2 : v / 16 ^ m % 16 % 4 < R ∧ okc T b a pg ld ps wh (k, v / 16 ^ m % 16 % 4) = true
      · rw [doz_t rfl h1 h2, doz_t hd h1 h2, doz_mod m M c v _ _ (by omega)]
      · rw [doz_f rfl h1 h2, doz_f hd h1 h2]
theorem fm_none {α β : Type} {f : α → Option β} : ∀ {l : List α}, (∀ x ∈ l, f x = none) → l.filterMap f = []
  | [], _ => rfl
  | x :: l, h => by
    rw [List.filterMap_cons, h x List.mem_cons_self]
    exact fm_none (fun y hy => h y (List.mem_cons_of_mem _ hy))
theorem fm_congr {α β : Type} {f g : α → Option β} : ∀ {l : List α}, (∀ x ∈ l, f x = g x) → l.filterMap f = l.filterMap g
  | [], _ => rfl
  | x :: l, h => by
    rw [List.filterMap_cons, List.filterMap_cons, h x List.mem_cons_self, fm_congr (fun y hy => h y (List.mem_cons_of_mem _ hy))]
theorem cpl_blk {m c : Nat} {ps : ps_T} {wh : wh_T} (hc : c < 16) : (List.range (16 ^ m)).filterMap (fun v => cpl T R b a pg ld L (m + 1) (c * 16 ^ m + v) ps wh) = match L[c / 4]? with
    | none => []
    | some k => if c % 4 < R ∧ okc T b a pg ld ps wh (k, c % 4) = true then ((List.range (16 ^ m)).filterMap (fun v => cpl T R b a pg ld L m v (va_up ps k (some (b, c % 4, hgt wh b (c % 4) T))) (up3 wh b (c % 4) (hgt wh b (c % 4) T) (some k)))).map (fun l => (k, c % 4) :: l) else [] := by
  cases h1 : L[c / 4]? with
  | none =>
    dsimp only
    refine fm_none (fun v hv => ?_)
    have hd := dgt_top hc (List.mem_range.mp hv)
    unfold cpl
    rw [doz_n hd h1]
    exact if_neg (fun z => nomatch z)
  | some k =>
    dsimp only
    by_cases h2 : c % 4 < R ∧ okc T b a pg ld ps wh (k, c % 4) = true
    · rw [if_pos h2, List.map_filterMap]
      refine fm_congr (fun v hv => ?_)
      have hd := dgt_top hc (List.mem_range.mp hv)
      unfold cpl
      rw [doz_t hd h1 h2, doz_mod m m c v _ _ (Nat.le_refl _), List.length_cons]
      by_cases h3 : (doz T R b a pg ld L m v (va_up ps k (some (b, c % 4, hgt wh b (c % 4) T))) (up3 wh b (c % 4) (hgt wh b (c % 4) T) (some k))).length = m
      · rw [if_pos h3, if_pos (congrArg (fun x => x + 1) h3)]
        rfl
      · rw [if_neg h3, if_neg (fun z => h3 (Nat.succ.inj z))]
        rfl
    · rw [if_neg h2]
      refine fm_none (fun v hv => ?_)
      have hd := dgt_top hc (List.mem_range.mp hv)
      unfold cpl
      rw [doz_f hd h1 h2]
      exact if_neg (fun z => nomatch z)
theorem cpl_lvl (hR : R ≤ 4) (hL : L.length ≤ 4) : ∀ (m : Nat) (ps : ps_T) (wh : wh_T), (List.range (16 ^ m)).filterMap (fun v => cpl T R b a pg ld L m v ps wh) = lvl T R b a pg ld L m ps wh
  | 0, _, _ => rfl
  | m + 1, ps, wh => by
    have ih := cpl_lvl hR hL m
    rw [Nat.pow_succ, Nat.mul_comm, range_mul, List.filterMap_flatMap]
    refine Eq.trans (flat_congr (g := fun c => match L[c / 4]? with
      | none => []
      | some k => if c % 4 < R ∧ okc T b a pg ld ps wh (k, c % 4) = true then (lvl T R b a pg ld L m (va_up ps k (some (b, c % 4, hgt wh b (c % 4) T))) (up3 wh b (c % 4) (hgt wh b (c % 4) T) (some k))).map (fun l => (k, c % 4) :: l) else []) (fun c hc => ?_)) ?_
    · rw [List.filterMap_map]
      refine Eq.trans (cpl_blk (List.mem_range.mp hc)) ?_
      cases L[c / 4]? with
      | none => rfl
      | some k => dsimp only; rw [ih]
    rw [show (16 : Nat) = 4 * 4 from rfl, range_mul 4 4, List.flatMap_assoc]
    refine Eq.trans (flat_congr (g := fun i => ixm (fun k => (List.range R).flatMap (fun r => if okc T b a pg ld ps wh (k, r) = true then (lvl T R b a pg ld L m (va_up ps k (some (b, r, hgt wh b r T))) (up3 wh b r (hgt wh b r T) (some k))).map (fun l => (k, r) :: l) else [])) L[i]?) (fun i hi => ?_)) ?_
    · rw [List.flatMap_map]
      have h4 : ∀ j ∈ List.range 4, (i * 4 + j) / 4 = i ∧ (i * 4 + j) % 4 = j := fun j hj => by have := List.mem_range.mp hj; omega
      cases h : L[i]? with
      | none =>
        show _ = []
        refine flat_nil (fun j hj => ?_)
        rw [(h4 j hj).1, h]
      | some k =>
        show _ = (List.range R).flatMap _
        rw [← flat_lt (fun r => okc T b a pg ld ps wh (k, r)) (fun r => (lvl T R b a pg ld L m (va_up ps k (some (b, r, hgt wh b r T))) (up3 wh b r (hgt wh b r T) (some k))).map (fun l => (k, r) :: l)) hR]
        refine flat_congr (fun j hj => ?_)
        rw [(h4 j hj).1, (h4 j hj).2, h]
    refine Eq.trans (flat_idx (fun k => (List.range R).flatMap (fun r => if okc T b a pg ld ps wh (k, r) = true then (lvl T R b a pg ld L m (va_up ps k (some (b, r, hgt wh b r T))) (up3 wh b r (hgt wh b r T) (some k))).map (fun l => (k, r) :: l) else [])) L 4 hL) ?_
    show _ = (sts R L).flatMap _
    unfold sts
    rw [List.flatMap_assoc]
    refine flat_congr (fun k _ => ?_)
    rw [List.flatMap_map]
theorem lvl_v : ∀ (m : Nat) (ps : ps_T) (wh : wh_T) (l : List (Nat × Nat)), l ∈ lvl T R b a pg ld L m ps wh → vld T R b a pg ld L l ps wh ∧ l.length = m
  | 0, _, _, l, h => by
    rcases List.mem_singleton.mp h with rfl
    exact ⟨trivial, rfl⟩
  | m + 1, ps, wh, l, h => by
    obtain ⟨s, hs, h⟩ := List.mem_flatMap.mp h
    by_cases h1 : okc T b a pg ld ps wh s = true
    · rw [if_pos h1] at h
      obtain ⟨l', h2, rfl⟩ := List.mem_map.mp h
      obtain ⟨k, hk, h3⟩ := List.mem_flatMap.mp hs
      obtain ⟨r, hr, rfl⟩ := List.mem_map.mp h3
      obtain ⟨g1, g2⟩ := lvl_v m _ _ l' h2
      exact ⟨⟨⟨hk, List.mem_range.mp hr, h1⟩, g1⟩, congrArg (fun x => x + 1) g2⟩
    · rw [if_neg h1] at h
      exact nomatch h
/-- the ways of a length -/
def lf (N : Nat) (x : wl_T) : Bool := decide (x.1.length = N)
theorem lf_t {N : Nat} {x : wl_T} {W : List wl_T} (h : x.1.length = N) : (x :: W).filter (lf N) = x :: W.filter (lf N) := List.filter_cons_of_pos (p := lf N) (decide_eq_true h)
theorem lf_f {N : Nat} {x : wl_T} {W : List wl_T} (h : ¬ x.1.length = N) : (x :: W).filter (lf N) = W.filter (lf N) := List.filter_cons_of_neg (p := lf N) (fun z => h (of_decide_eq_true z))
/-- the better of two -/
def btr (q p : wl_T) : wl_T := if bet p q = true then p else q
theorem ways_le : ∀ (m : Nat) (p : wl_T) (ps : ps_T) (wh : wh_T) (x : wl_T), x ∈ ways T R b a pg ld L m p ps wh → p.1.length ≤ x.1.length ∧ x.1.length ≤ p.1.length + m ∧ p.2 ≤ x.2
  | 0, p, _, _, x, h => by
    rcases List.mem_singleton.mp h with rfl
    exact ⟨Nat.le_refl _, Nat.le_refl _, Nat.le_refl _⟩
  | m + 1, p, ps, wh, x, h => by
    rcases List.mem_cons.mp h with rfl | h
    · exact ⟨Nat.le_refl _, by omega, Nat.le_refl _⟩
    · obtain ⟨s, hs, h⟩ := List.mem_flatMap.mp h
      by_cases h1 : okc T b a pg ld ps wh s = true
      · rw [if_pos h1] at h
        obtain ⟨g1, g2, g3⟩ := ways_le m _ _ _ x h
        rw [List.length_append] at g1 g2
        have g1 : p.1.length + 1 ≤ x.1.length := g1
        have g2 : x.1.length ≤ p.1.length + 1 + m := g2
        have g3 : p.2 + mdc T b a ps wh s ≤ x.2 := g3
        omega
      · rw [if_neg h1] at h
        exact nomatch h
theorem btr_stay : ∀ (W : List wl_T) (q : wl_T), (∀ x ∈ W, x.1.length ≤ q.1.length ∧ q.2 ≤ x.2) → W.foldl btr q = q
  | [], _, _ => rfl
  | x :: W, q, h => by
    have h1 := h x List.mem_cons_self
    have h2 : btr q x = q := if_neg (fun z => by
      have := of_decide_eq_true z
      omega)
    rw [List.foldl_cons, h2]
    exact btr_stay W q (fun y hy => h y (List.mem_cons_of_mem _ hy))
theorem fold_congr {α β : Type} {f g : β → α → β} : ∀ {l : List α} {q : β}, (∀ q x, f q x = g q x) → l.foldl f q = l.foldl g q
  | [], _, _ => rfl
  | x :: l, q, h => by
    rw [List.foldl_cons, List.foldl_cons, h]
    exact fold_congr h
theorem dfs_ways : ∀ (m : Nat) (p : wl_T) (ps : ps_T) (wh : wh_T) (q : wl_T), p.1.length + m = L.length → dfs T R b a pg ld L m p ps wh q = (ways T R b a pg ld L m p ps wh).foldl btr q
  | 0, _, _, _, _, _ => rfl
  | m + 1, p, ps, wh, q, hm => by
    rw [dfs_s]
    show (sts R L).foldl _ (btr q p) = ((sts R L).flatMap _).foldl btr (btr q p)
    refine Eq.trans ?_ List.foldl_flatMap.symm
    refine fold_congr (fun q s => ?_)
    unfold dst1
    by_cases h1 : okc T b a pg ld ps wh s = true
    · rw [if_pos h1]
      by_cases h2 : q.1.length = L.length ∧ q.2 ≤ p.2 + mdc T b a ps wh s
      · rw [if_neg (fun z => z.2 h2), btr_stay]
        intro x hx
        have h3 := ways_le m _ _ _ x hx
        rw [List.length_append] at h3
        have h4 : x.1.length ≤ p.1.length + 1 + m := h3.2.1
        have h5 : p.2 + mdc T b a ps wh s ≤ x.2 := h3.2.2
        omega
      · rw [if_pos ⟨h1, h2⟩]
        exact dfs_ways m _ _ _ q (by rw [List.length_append]; show p.1.length + 1 + m = _; omega)
    · rw [if_neg (fun z => h1 z.1), if_neg h1]
      rfl
theorem ways_lvl : ∀ (M j : Nat) (p : wl_T) (ps : ps_T) (wh : wh_T), j ≤ M → (ways T R b a pg ld L M p ps wh).filter (lf (p.1.length + j)) = (lvl T R b a pg ld L j ps wh).map (fun l => (p.1 ++ l, p.2 + mds T b a l ps wh))
  | 0, 0, p, ps, wh, _ => by
    show List.filter (lf (p.1.length + 0)) [p] = [(p.1 ++ [], p.2 + 0)]
    rw [lf_t (show p.1.length = p.1.length + 0 from rfl), List.append_nil]
    rfl
  | 0, j + 1, p, ps, wh, h => absurd h (by omega)
  | M + 1, 0, p, ps, wh, _ => by
    show List.filter (lf (p.1.length + 0)) (p :: _) = [(p.1 ++ [], p.2 + 0)]
    rw [lf_t (show p.1.length = p.1.length + 0 from rfl), List.append_nil, List.filter_flatMap, flat_nil]
    · rfl
    · intro s hs
      by_cases h1 : okc T b a pg ld ps wh s = true
      · rw [if_pos h1]
        refine List.filter_eq_nil_iff.mpr (fun x hx => ?_)
        have h3 := (ways_le M _ _ _ x hx).1
        rw [List.length_append] at h3
        have h4 : p.1.length + 1 ≤ x.1.length := h3
        exact fun z => absurd (of_decide_eq_true z) (by omega)
      · rw [if_neg h1]
        rfl
  | M + 1, j + 1, p, ps, wh, h => by
    show List.filter (lf (p.1.length + (j + 1))) (p :: _) = List.map _ (List.flatMap _ _)
    rw [lf_f (show ¬ p.1.length = p.1.length + (j + 1) by omega), List.filter_flatMap, List.map_flatMap]
    refine flat_congr (fun s hs => ?_)
    by_cases h1 : okc T b a pg ld ps wh s = true
    · rw [if_pos h1, if_pos h1]
      have ih := ways_lvl M j (p.1 ++ [s], p.2 + mdc T b a ps wh s) (va_up ps s.1 (some (b, s.2, hgt wh b s.2 T))) (up3 wh b s.2 (hgt wh b s.2 T) (some s.1)) (by omega)
      rw [List.length_append] at ih
      rw [show p.1.length + (j + 1) = p.1.length + [s].length + j by show _ = p.1.length + 1 + j; omega, ih, List.map_map]
      refine List.map_congr_left (fun l hl => ?_)
      show ((p.1 ++ [s]) ++ l, p.2 + mdc T b a ps wh s + mds T b a l _ _) = (p.1 ++ (s :: l), p.2 + (mdc T b a ps wh s + mds T b a l _ _))
      rw [List.append_assoc, Nat.add_assoc]
      rfl
    · rw [if_neg h1, if_neg h1]
      rfl
/-- the first least -/
def upq (q : Option wl_T) (x : wl_T) : Option wl_T := match q with
  | none => some x
  | some y => if x.2 < y.2 then some x else some y
theorem upq_some : ∀ (W : List wl_T) (q : wl_T), ∃ y, W.foldl upq (some q) = some y
  | [], q => ⟨q, rfl⟩
  | x :: W, q => by
    rw [List.foldl_cons]
    show ∃ y, W.foldl upq (if x.2 < q.2 then some x else some q) = some y
    split
    · exact upq_some W x
    · exact upq_some W q
theorem pick1 {N : Nat} : ∀ (W : List wl_T) (q : wl_T), q.1.length = N → (∀ x ∈ W, x.1.length ≤ N) → some (W.foldl btr q) = (W.filter (lf N)).foldl upq (some q)
  | [], _, _, _ => rfl
  | x :: W, q, hq, h => by
    have hW := fun y hy => h y (List.mem_cons_of_mem _ hy)
    have hx := h x List.mem_cons_self
    rw [List.foldl_cons]
    by_cases h1 : x.1.length = N
    · rw [lf_t h1, List.foldl_cons]
      show _ = List.foldl upq (if x.2 < q.2 then some x else some q) _
      by_cases h2 : x.2 < q.2
      · rw [if_pos h2, show btr q x = x from if_pos (decide_eq_true (Or.inr ⟨by omega, h2⟩))]
        exact pick1 W x h1 hW
      · rw [if_neg h2, show btr q x = q from if_neg (fun z => by have := of_decide_eq_true z; omega)]
        exact pick1 W q hq hW
    · rw [lf_f h1, show btr q x = q from if_neg (fun z => by have := of_decide_eq_true z; omega)]
      exact pick1 W q hq hW
theorem pick2 {N : Nat} : ∀ (W : List wl_T) (q : wl_T), q.1.length < N → (∀ x ∈ W, x.1.length ≤ N) → ¬ W.filter (lf N) = [] → some (W.foldl btr q) = (W.filter (lf N)).foldl upq none
  | [], _, _, _, h => absurd rfl h
  | x :: W, q, hq, h, hne => by
    have hW := fun y hy => h y (List.mem_cons_of_mem _ hy)
    have hx := h x List.mem_cons_self
    rw [List.foldl_cons]
    by_cases h1 : x.1.length = N
    · rw [lf_t h1, List.foldl_cons, show btr q x = x from if_pos (decide_eq_true (Or.inl (by omega)))]
      exact pick1 W x h1 hW
    · rw [lf_f h1] at hne ⊢
      refine pick2 W _ ?_ hW hne
      unfold btr
      split
      · omega
      · exact hq
/-- the class's and the reference's pick -/
def srv (V : Nat → List wl_T) : Nat → List (Nat × Nat)
  | 0 => []
  | len + 1 => match (V (len + 1)).foldl upq none with
    | none => srv V len
    | some x => x.1
theorem pick (W : List wl_T) (V : Nat → List wl_T) : ∀ (N : Nat), (∀ j, j ≤ N → W.filter (lf j) = V j) → (∀ x ∈ W, x.1.length ≤ N) → (W.foldl btr ([], 0)).1 = srv V N
  | 0, _, h => by
    rw [btr_stay W ([], 0) (fun x hx => ⟨h x hx, Nat.zero_le _⟩)]
    rfl
  | N + 1, hV, h => by
    by_cases h1 : W.filter (lf (N + 1)) = []
    · have h2 : (V (N + 1)).foldl upq none = none := by rw [← hV _ (Nat.le_refl _), h1]; rfl
      rw [srv.eq_2, h2]
      refine pick W V N (fun j hj => hV j (by omega)) (fun x hx => ?_)
      have h3 := h x hx
      have h4 := List.filter_eq_nil_iff.mp h1 x hx
      have h5 : ¬ x.1.length = N + 1 := fun z => h4 (decide_eq_true z)
      omega
    · have h2 := pick2 W ([], 0) (by show 0 < N + 1; omega) h h1
      rw [srv.eq_2, ← hV _ (Nat.le_refl _), ← h2]
theorem upq_shift (K : Nat) : ∀ (W : List wl_T) (q : Option wl_T), (W.map (fun x => (x.1, K + x.2))).foldl upq (q.map (fun x => (x.1, K + x.2))) = (W.foldl upq q).map (fun x => (x.1, K + x.2))
  | [], _ => rfl
  | x :: W, q => by
    rw [List.map_cons, List.foldl_cons, List.foldl_cons, ← upq_shift K W]
    refine congrArg (fun z => List.foldl upq z _) ?_
    cases q with
    | none => rfl
    | some y =>
      show (if K + x.2 < K + y.2 then some (x.1, K + x.2) else some (y.1, K + y.2)) = Option.map _ (if x.2 < y.2 then some x else some y)
      by_cases h : x.2 < y.2
      · rw [if_pos h, if_pos (by omega)]; rfl
      · rw [if_neg h, if_neg (by omega)]; rfl
theorem srl_fold {ps : ps_T} {wh : wh_T} {len : Nat} : ∀ (m v : Nat) (q : Option (Nat × Nat)), (srl (srf T R b a pg ld L ps wh len) m v q).map (fun c => ((doz T R b a pg ld L len c.1 ps wh, c.2) : wl_T)) = (((List.range' v m).filterMap (fun v => cpl T R b a pg ld L len v ps wh)).map (fun l => ((l, oin R T a (l.foldl (lay1 T b) (ps, wh)).2 0 true b) : wl_T))).foldl upq (q.map (fun c => ((doz T R b a pg ld L len c.1 ps wh, c.2) : wl_T)))
  | 0, _, _ => rfl
  | m + 1, v, q => by
    rw [show srl (srf T R b a pg ld L ps wh len) (m + 1) v q = srl (srf T R b a pg ld L ps wh len) m (v + 1) (srs (srf T R b a pg ld L ps wh len) v q) from rfl, srl_fold m (v + 1), List.range'_succ, List.filterMap_cons]
    by_cases h : (doz T R b a pg ld L len v ps wh).length = len
    · have h1 : cpl T R b a pg ld L len v ps wh = some (doz T R b a pg ld L len v ps wh) := if_pos h
      have h2 : srf T R b a pg ld L ps wh len v = some (oin R T a ((doz T R b a pg ld L len v ps wh).foldl (lay1 T b) (ps, wh)).2 0 true b) := if_pos h
      rw [h1]
      dsimp only
      rw [List.map_cons, List.foldl_cons]
      refine congrArg (fun z => List.foldl upq z _) ?_
      unfold srs
      rw [h2]
      cases q with
      | none => rfl
      | some y =>
        obtain ⟨c, o'⟩ := y
        dsimp only
        by_cases h3 : oin R T a ((doz T R b a pg ld L len v ps wh).foldl (lay1 T b) (ps, wh)).2 0 true b < o'
        · rw [if_pos h3]
          exact (if_pos h3).symm
        · rw [if_neg h3]
          exact (if_neg h3).symm
    · have h1 : cpl T R b a pg ld L len v ps wh = none := if_neg h
      have h2 : srf T R b a pg ld L ps wh len v = none := if_neg h
      rw [h1]
      dsimp only
      unfold srs
      rw [h2]
theorem src_srv (hR : R ≤ 4) (hL : L.length ≤ 4) {ps : ps_T} {wh : wh_T} {K : Nat} (hK : ∀ l, vld T R b a pg ld L l ps wh → oin R T a (l.foldl (lay1 T b) (ps, wh)).2 0 true b = K + mds T b a l ps wh) : ∀ len, src T R b a pg ld L ps wh len = srv (fun j => (lvl T R b a pg ld L j ps wh).map (fun l => (l, mds T b a l ps wh))) len
  | 0 => rfl
  | len + 1 => by
    have h1 := srl_fold (T := T) (R := R) (b := b) (a := a) (pg := pg) (ld := ld) (L := L) (ps := ps) (wh := wh) (len := len + 1) (16 ^ (len + 1)) 0 none
    rw [← List.range_eq_range', cpl_lvl hR hL, List.map_congr_left (g := fun l => ((l, K + mds T b a l ps wh) : wl_T)) (fun l hl => by rw [hK l (lvl_v _ _ _ l hl).1])] at h1
    have h2 := upq_shift K ((lvl T R b a pg ld L (len + 1) ps wh).map (fun l => ((l, mds T b a l ps wh) : wl_T))) none
    rw [List.map_map] at h2
    have h3 := h1.trans h2
    rw [src.eq_2, srv.eq_2]
    cases h4 : srl (srf T R b a pg ld L ps wh (len + 1)) (16 ^ (len + 1)) 0 none with
    | none =>
      rw [h4] at h3
      cases h5 : ((lvl T R b a pg ld L (len + 1) ps wh).map (fun l => ((l, mds T b a l ps wh) : wl_T))).foldl upq none with
      | none => exact src_srv hR hL hK len
      | some y => rw [h5] at h3; exact nomatch h3
    | some c =>
      rw [h4] at h3
      cases h5 : ((lvl T R b a pg ld L (len + 1) ps wh).map (fun l => ((l, mds T b a l ps wh) : wl_T))).foldl upq none with
      | none => rw [h5] at h3; exact nomatch h3
      | some y =>
        rw [h5] at h3
        exact congrArg Prod.fst (Option.some.inj h3)
theorem sm_one {f g : Nat → Nat} {x i0 : Nat} : ∀ {n : Nat}, i0 < n → (∀ i, i < n → ¬ i = i0 → f i = g i) → f i0 = g i0 + x → sm f n = sm g n + x
  | 0, h, _, _ => absurd h (by omega)
  | n + 1, h, h1, h2 => by
    rw [sm_s, sm_s]
    by_cases e : n = i0
    · subst e
      rw [h2, sm_congr (fun i hi => h1 i (by omega) (by omega))]
      omega
    · rw [h1 n (by omega) e, sm_one (by omega) (fun i hi => h1 i (by omega)) h2]
      omega
theorem oin_step {B n : Nat} {ps : ps_T} {wh : wh_T} (H : jj B R T n a ps wh) {k r : Nat} (hr : r < R) (hok : okc T b a pg ld ps wh (k, r) = true) : oin R T a (up3 wh b r (hgt wh b r T) (some k)) 0 true b = oin R T a wh 0 true b + mdc T b a ps wh (k, r) := by
  obtain ⟨h0, h5⟩ := ok_h hok
  have h0 : ps k = none := h0
  have h5 : hgt wh b r T < T := h5
  unfold oin
  refine sm_one hr (fun i _ hi => ?_) ?_
  · refine sm_congr (fun t ht => sm_congr (fun j hj => ?_))
    unfold og
    rw [up3_ne _ _ (fun z => hi z.2.1), up3_ne _ _ (fun z => hi z.2.1)]
  · refine sm_one h5 (fun t ht hi => ?_) ?_
    · refine sm_congr (fun j hj => ?_)
      by_cases h6 : t < hgt wh b r T
      · unfold og
        rw [up3_t _ _ hi, up3_t _ _ (by omega)]
      · have h7 : wh b r t = none := hgt_up (by omega) ht
        have h8 : up3 wh b r (hgt wh b r T) (some k) b r t = none := by rw [up3_t _ _ hi]; exact h7
        rw [og_n1 h7, og_n1 h8]
    · rw [sm_z (f := fun j => og a wh 0 true b r (hgt wh b r T) j) (fun j hj => og_n1 (hgt_none h5)), Nat.zero_add]
      unfold mdc
      dsimp only
      refine sm_congr (fun j hj => ?_)
      have e1 : up3 wh b r (hgt wh b r T) (some k) b r (hgt wh b r T) = some k := up3_self _ _ _ _ _
      have e2 : up3 wh b r (hgt wh b r T) (some k) b r j = wh b r j := up3_t _ _ (by omega)
      cases h6 : wh b r j with
      | none =>
        rw [og_n2 e1 (by rw [e2]; exact h6), e2, h6]
        rfl
      | some l =>
        rw [og_s e1 (by rw [e2]; exact h6), e2, h6]
        obtain ⟨b0, h7, h8⟩ := H.2.2.2 b r j l h6
        have h9 : ¬ l = k := fun z => by rw [z, h0] at h7; exact nomatch h7
        show _ = if ovs a (va_up ps k (some (b, r, hgt wh b r T))) k l = true then 1 else 0
        have h10 : (ovs a (va_up ps k (some (b, r, hgt wh b r T))) k l = true) ↔ (a l).2.2.1 < (a k).2.2.1 := by
          unfold ovs
          rw [vup_self, vup_ne _ _ h9, h7]
          dsimp only
          simp only [Bool.and_eq_true, decide_eq_true_eq]
          refine ⟨fun z => z.2, fun z => ⟨⟨⟨trivial, hj⟩, ?_, ?_⟩, z⟩⟩
          · rcases h8 with h8 | h8
            · split <;> omega
            · rw [if_pos h8.1]; omega
          · rcases h8 with h8 | h8
            · split <;> omega
            · split <;> omega
        by_cases h11 : (a l).2.2.1 < (a k).2.2.1
        · rw [if_pos (h10.mpr h11), if_pos ⟨fun z => (nomatch z.2.2.2), h11, Or.inl rfl⟩]
        · rw [if_neg (fun z => h11 (h10.mp z)), if_neg (fun z => h11 z.2.1)]
theorem oin_mds {B n : Nat} (hL : ∀ k ∈ L, k < n ∧ ¬ (a k).1 = 40) (hb : b < B) : ∀ (l : List (Nat × Nat)) (ps : ps_T) (wh : wh_T), jj B R T n a ps wh → vld T R b a pg ld L l ps wh → oin R T a (l.foldl (lay1 T b) (ps, wh)).2 0 true b = oin R T a wh 0 true b + mds T b a l ps wh
  | [], _, _, _, _ => rfl
  | s :: l, ps, wh, H, hv => by
    obtain ⟨⟨h1, h2, h3⟩, hv⟩ := hv
    obtain ⟨h4, h5⟩ := ok_h h3
    rw [fold_lay h3, oin_mds hL hb l _ _ (jj_lay H (hL _ h1).1 (hL _ h1).2 hb h2 h5 h4 (hgt_none h5)) hv, oin_step H h2 h3, Nat.add_assoc]
    rfl
end E1
theorem way_eq {B R T n b : Nat} {a : at_T} {pg : pg_T} {ld : Nat → Nat} {ps : ps_T} {wh : wh_T} (hz : dz B R T n) (hb : b < B) (H : jj B R T n a ps wh) : fway T R n b a pg ld ps wh = rway T R n b a pg ld ps wh := by
  have hR := hz.2.2.2.1
  have hL : ∀ k ∈ cands a ps n, k < n ∧ ¬ (a k).1 = 40 := fun k hk => ⟨(cands_mem hk).1, (cands_mem hk).2.1⟩
  unfold fway rway
  rw [src_srv hR (cands_le a ps n) (fun l hl => oin_mds hL hb l ps wh H hl) _, dfs_ways _ _ _ _ _ (by show 0 + _ = _; omega)]
  refine pick _ _ _ (fun j hj => ?_) (fun x hx => ?_)
  · have h := ways_lvl (T := T) (R := R) (b := b) (a := a) (pg := pg) (ld := ld) (L := cands a ps n) (cands a ps n).length j ([], 0) ps wh hj
    rw [show (([], 0) : wl_T).1.length + j = j by show 0 + j = j; omega] at h
    rw [h]
    refine List.map_congr_left (fun l _ => ?_)
    show (_, 0 + _) = _
    rw [Nat.zero_add]
    rfl
  · have h := (ways_le _ _ _ _ x hx).2.1
    have h : x.1.length ≤ 0 + (cands a ps n).length := h
    omega
