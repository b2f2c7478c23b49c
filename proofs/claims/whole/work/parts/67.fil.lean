/-! What lies and where; laying a list of boxes on the stacks of a bay, and taking them back. -/
def cov (a : at_T) (ps : ps_T) (wh : wh_T) : Prop := ∀ b r t k, wh b r t = some k → ∃ b0, ps k = some (b0, r, t) ∧ (b0 = b ∨ ((a k).1 = 40 ∧ b0 + 1 = b))
theorem ite_b {p : Prop} [Decidable p] {α : Type} {x y z : α} (h1 : p → x = z) (h2 : ¬ p → y = z) : (if p then x else y) = z := by
  by_cases h : p
  · rw [if_pos h]; exact h1 h
  · rw [if_neg h]; exact h2 h
theorem up3_self {α : Type} (f : Nat → Nat → Nat → α) (b r t : Nat) (v : α) : up3 f b r t v b r t = v := if_pos ⟨rfl, rfl, rfl⟩
theorem up3_ne {α : Type} (f : Nat → Nat → Nat → α) {b r t b' r' t' : Nat} (v : α) (h : ¬ (b' = b ∧ r' = r ∧ t' = t)) : up3 f b r t v b' r' t' = f b' r' t' := if_neg h
theorem up3_t {α : Type} (f : Nat → Nat → Nat → α) {b r t t' : Nat} (v : α) (h : ¬ t' = t) : up3 f b r t v b r t' = f b r t' := if_neg (fun z => h z.2.2)
theorem vup_self {α : Type} (f : Nat → α) (k : Nat) (v : α) : va_up f k v k = v := if_pos rfl
theorem vup_ne {α : Type} (f : Nat → α) {k i : Nat} (v : α) (h : ¬ i = k) : va_up f k v i = f i := if_neg h
theorem hgt_s (wh : wh_T) (b r t : Nat) : hgt wh b r (t + 1) = if wh b r t = none then hgt wh b r t else t + 1 := by
  rfl
theorem hgt_up {wh : wh_T} {b r : Nat} : ∀ {T t : Nat}, hgt wh b r T ≤ t → t < T → wh b r t = none
  | 0, t, _, h => absurd h (Nat.not_lt_zero _)
  | T + 1, t, h, h1 => by
    rw [hgt_s] at h
    by_cases h2 : wh b r T = none
    · rw [if_pos h2] at h
      by_cases h3 : t = T
      · rw [h3]; exact h2
      · exact hgt_up h (by omega)
    · rw [if_neg h2] at h
      omega
theorem hvy_up {a : at_T} {wh : wh_T} {ld : Nat → Nat} {k b r t : Nat} {v : Option Nat} : hvy a (up3 wh b r t v) ld k b r t = hvy a wh ld k b r t := by
  unfold hvy
  rw [sm_congr (f := fun i => wt1 a (up3 wh b r t v b r i)) (g := fun i => wt1 a (wh b r i)) (fun i hi => by rw [up3_t _ _ (by omega)])]
theorem ltr_up {a : at_T} {wh : wh_T} {k b r t : Nat} {v : Option Nat} : ltr a (up3 wh b r t v) k b r t = ltr a wh k b r t := by
  cases t with
  | zero => rfl
  | succ t =>
    unfold ltr
    dsimp only
    rw [up3_t _ _ (by omega)]
theorem okc_eq {T b : Nat} {a : at_T} {pg : pg_T} {ld : Nat → Nat} {ps : ps_T} {wh : wh_T} {k r : Nat} : (okc T b a pg ld ps wh (k, r) = true) = (ps k = none ∧ hgt wh b r T < T ∧ hvy a wh ld k b r (hgt wh b r T) = false ∧ ltr a wh k b r (hgt wh b r T) = false ∧ ¬ ((a k).2.2.2 = 1 ∧ pg b r (hgt wh b r T) = false)) := by
  unfold okc
  dsimp only
  rw [hvy_up, ltr_up]
  simp only [Bool.and_eq_true, decide_eq_true_eq, Bool.not_eq_true', decide_eq_false_iff_not, and_assoc]
theorem lay1_ok {T b : Nat} {ps : ps_T} {wh : wh_T} {s : Nat × Nat} (h : hgt wh b s.2 T < T) : lay1 T b (ps, wh) s = (va_up ps s.1 (some (b, s.2, hgt wh b s.2 T)), up3 wh b s.2 (hgt wh b s.2 T) (some s.1)) := if_pos h
theorem ok_h {T b : Nat} {a : at_T} {pg : pg_T} {ld : Nat → Nat} {ps : ps_T} {wh : wh_T} {s : Nat × Nat} (h : okc T b a pg ld ps wh s = true) : ps s.1 = none ∧ hgt wh b s.2 T < T := by
  obtain ⟨k, r⟩ := s
  rw [okc_eq] at h
  exact ⟨h.1, h.2.1⟩
/-- all that ties places and cells -/
def jj (B R T n : Nat) (a : at_T) (ps : ps_T) (wh : wh_T) : Prop := pz B R T n a ps ∧ wz B R T n wh ∧ lk a ps wh ∧ cov a ps wh
theorem jj_lay {B R T n b : Nat} {a : at_T} {ps : ps_T} {wh : wh_T} (H : jj B R T n a ps wh) {k r h : Nat} (hk : k < n) (hs : ¬ (a k).1 = 40) (hb : b < B) (hr : r < R) (hh : h < T) (h0 : ps k = none) (h1 : wh b r h = none) : jj B R T n a (va_up ps k (some (b, r, h))) (up3 wh b r h (some k)) := by
  obtain ⟨hp, hw, hl, hc⟩ := H
  refine ⟨pz_up hp hk hs hb hr hh, wz_up hw hk hb hr hh, fun i b' r' t' hi => ?_, fun b' r' t' i hi => ?_⟩
  · by_cases e : i = k
    · subst e
      rw [vup_self] at hi
      cases hi
      exact ⟨up3_self _ _ _ _ _, fun z => absurd z hs⟩
    · rw [vup_ne _ _ e] at hi
      have h2 := hl i b' r' t' hi
      refine ⟨?_, fun z => ?_⟩
      · rw [up3_ne _ _ (fun q => by obtain ⟨rfl, rfl, rfl⟩ := q; rw [h1] at h2; exact nomatch h2.1)]
        exact h2.1
      · rw [up3_ne _ _ (fun q => by obtain ⟨rfl, rfl, rfl⟩ := q; have := h2.2 z; rw [h1] at this; exact nomatch this)]
        exact h2.2 z
  · by_cases e : b' = b ∧ r' = r ∧ t' = h
    · obtain ⟨rfl, rfl, rfl⟩ := e
      rw [up3_self] at hi
      cases hi
      exact ⟨b', vup_self _ _ _, Or.inl rfl⟩
    · rw [up3_ne _ _ e] at hi
      obtain ⟨b0, h2, h3⟩ := hc b' r' t' i hi
      have h4 : ¬ i = k := fun z => by rw [z, h0] at h2; exact nomatch h2
      exact ⟨b0, by rw [vup_ne _ _ h4]; exact h2, h3⟩
/-- taking a box back, wherever it lies -/
def er1 (z : ps_T × wh_T) (k : Nat) : ps_T × wh_T := (va_up z.1 k none, fun b r t => if z.2 b r t = some k then none else z.2 b r t)
theorem er_up {a : at_T} {ps : ps_T} {wh : wh_T} (hl : lk a ps wh) (hc : cov a ps wh) {k b r t : Nat} (hs : ¬ (a k).1 = 40) (h : ps k = some (b, r, t)) : (va_up ps k none, upc wh (a k).1 b r t none) = er1 (ps, wh) k := by
  unfold er1
  refine congrArg (fun f => (va_up ps k none, f)) ?_
  rw [show upc wh (a k).1 b r t none = up3 wh b r t none from if_neg hs]
  funext b' r' t'
  dsimp only
  by_cases e : b' = b ∧ r' = r ∧ t' = t
  · obtain ⟨rfl, rfl, rfl⟩ := e
    rw [up3_self, if_pos (hl k b' r' t' h).1]
  · rw [up3_ne _ _ e, if_neg]
    intro z
    obtain ⟨b0, h2, h3⟩ := hc b' r' t' k z
    rw [h] at h2
    cases h2
    rcases h3 with h3 | h3
    · exact e ⟨h3.symm, rfl, rfl⟩
    · exact hs h3.1
theorem jj_er {B R T n : Nat} {a : at_T} {ps : ps_T} {wh : wh_T} (H : jj B R T n a ps wh) (k : Nat) : jj B R T n a (er1 (ps, wh) k).1 (er1 (ps, wh) k).2 := by
  obtain ⟨hp, hw, hl, hc⟩ := H
  have h1 : ∀ i q, va_up ps k none i = some q → ¬ i = k ∧ ps i = some q := fun i q h => by
    by_cases e : i = k
    · rw [e, vup_self] at h; exact nomatch h
    · rw [vup_ne _ _ e] at h; exact ⟨e, h⟩
  have h2 : ∀ b r t i, (if wh b r t = some k then none else wh b r t) = some i → ¬ i = k ∧ wh b r t = some i := fun b r t i h => by
    by_cases e : wh b r t = some k
    · rw [if_pos e] at h; exact nomatch h
    · rw [if_neg e] at h
      exact ⟨fun z => e (by rw [h, z]), h⟩
  refine ⟨fun i b r t h => hp i b r t (h1 _ _ h).2, fun b r t i h => hw b r t i (h2 _ _ _ _ h).2, fun i b r t h => ?_, fun b r t i h => ?_⟩
  · obtain ⟨e, h⟩ := h1 _ _ h
    obtain ⟨h3, h4⟩ := hl i b r t h
    refine ⟨?_, fun z => ?_⟩
    · show (if wh b r t = some k then none else wh b r t) = some i
      rw [h3, if_neg (fun z => e (Option.some.inj z))]
    · show (if wh (b + 1) r t = some k then none else wh (b + 1) r t) = some i
      rw [h4 z, if_neg (fun z => e (Option.some.inj z))]
  · obtain ⟨e, h⟩ := h2 _ _ _ _ h
    obtain ⟨b0, h3, h4⟩ := hc b r t i h
    exact ⟨b0, by show va_up ps k none i = _; rw [vup_ne _ _ e]; exact h3, h4⟩
theorem er_1 : ∀ (l : List Nat) (z : ps_T × wh_T) (i : Nat), (l.foldl er1 z).1 i = if i ∈ l then none else z.1 i
  | [], z, i => by rw [if_neg (List.not_mem_nil)]; rfl
  | k :: l, z, i => by
    rw [List.foldl_cons, er_1 l]
    by_cases h : i ∈ l
    · rw [if_pos h, if_pos (List.mem_cons_of_mem _ h)]
    · rw [if_neg h]
      show va_up z.1 k none i = _
      by_cases e : i = k
      · rw [e, vup_self, if_pos List.mem_cons_self]
      · rw [vup_ne _ _ e, if_neg (fun q => (List.mem_cons.mp q).elim e h)]
theorem er_2 : ∀ (l : List Nat) (z : ps_T × wh_T) (b r t : Nat), (l.foldl er1 z).2 b r t = match z.2 b r t with | none => none | some k => if k ∈ l then none else some k
  | [], z, b, r, t => by
    rw [List.foldl_nil]
    cases z.2 b r t with
    | none => rfl
    | some k => dsimp only; rw [if_neg (List.not_mem_nil)]
  | k :: l, z, b, r, t => by
    rw [List.foldl_cons, er_2 l]
    show (match (if z.2 b r t = some k then none else z.2 b r t) with | none => none | some k => if k ∈ l then none else some k) = _
    cases h : z.2 b r t with
    | none => rw [if_neg (fun z => nomatch z)]
    | some i =>
      by_cases e : i = k
      · rw [e, if_pos rfl]
        dsimp only
        rw [if_pos List.mem_cons_self]
      · rw [if_neg (fun z => e (Option.some.inj z))]
        dsimp only
        by_cases h : i ∈ l
        · rw [if_pos h, if_pos (List.mem_cons_of_mem _ h)]
        · rw [if_neg h, if_neg (fun q => (List.mem_cons.mp q).elim e h)]
section VLD
variable (T R b : Nat) (a : at_T) (pg : pg_T) (ld : Nat → Nat) (L : List Nat)
def vld : List (Nat × Nat) → ps_T → wh_T → Prop
  | [], _, _ => True
  | s :: l, ps, wh => (s.1 ∈ L ∧ s.2 < R ∧ okc T b a pg ld ps wh s = true) ∧ vld l (va_up ps s.1 (some (b, s.2, hgt wh b s.2 T))) (up3 wh b s.2 (hgt wh b s.2 T) (some s.1))
/-- what the boxes laid make -/
def mds : List (Nat × Nat) → ps_T → wh_T → Nat
  | [], _, _ => 0
  | s :: l, ps, wh => mdc T b a ps wh s + mds l (va_up ps s.1 (some (b, s.2, hgt wh b s.2 T))) (up3 wh b s.2 (hgt wh b s.2 T) (some s.1))
end VLD
section VL
variable {B T R b n : Nat} {a : at_T} {pg : pg_T} {ld : Nat → Nat} {L : List Nat}
theorem fold_lay {s : Nat × Nat} {l : List (Nat × Nat)} {ps : ps_T} {wh : wh_T} (h : okc T b a pg ld ps wh s = true) : (s :: l).foldl (lay1 T b) (ps, wh) = l.foldl (lay1 T b) (va_up ps s.1 (some (b, s.2, hgt wh b s.2 T)), up3 wh b s.2 (hgt wh b s.2 T) (some s.1)) := by
  rw [List.foldl_cons, lay1_ok (ok_h h).2]
theorem vld_j (hL : ∀ k ∈ L, k < n ∧ ¬ (a k).1 = 40) (hb : b < B) : ∀ (l : List (Nat × Nat)) (ps : ps_T) (wh : wh_T), jj B R T n a ps wh → vld T R b a pg ld L l ps wh → jj B R T n a (l.foldl (lay1 T b) (ps, wh)).1 (l.foldl (lay1 T b) (ps, wh)).2
  | [], _, _, h, _ => h
  | s :: l, ps, wh, h, hv => by
    obtain ⟨⟨h1, h2, h3⟩, hv⟩ := hv
    obtain ⟨h4, h5⟩ := ok_h h3
    rw [fold_lay h3]
    exact vld_j hL hb l _ _ (jj_lay h (hL _ h1).1 (hL _ h1).2 hb h2 h5 h4 (hgt_none h5)) hv
theorem vld_p : ∀ (l : List (Nat × Nat)) (ps : ps_T) (wh : wh_T), vld T R b a pg ld L l ps wh → (∀ i q, ps i = some q → (l.foldl (lay1 T b) (ps, wh)).1 i = some q) ∧ (∀ s ∈ l, ps s.1 = none ∧ s.1 ∈ L ∧ s.2 < R ∧ ∃ q, (l.foldl (lay1 T b) (ps, wh)).1 s.1 = some q) ∧ (l.map Prod.fst).Nodup
  | [], _, _, _ => ⟨fun _ _ h => h, fun s hs => (nomatch hs), List.nodup_nil⟩
  | s :: l, ps, wh, hv => by
    obtain ⟨⟨h1, h2, h3⟩, hv⟩ := hv
    obtain ⟨h4, h5⟩ := ok_h h3
    rw [fold_lay h3]
    obtain ⟨g1, g2, g3⟩ := vld_p l _ _ hv
    have h6 : ∀ i q, ps i = some q → va_up ps s.1 (some (b, s.2, hgt wh b s.2 T)) i = some q := fun i q hq => by
      rw [vup_ne _ _ (fun z => by rw [z, h4] at hq; exact nomatch hq)]
      exact hq
    refine ⟨fun i q hq => g1 i q (h6 i q hq), fun x hx => ?_, ?_⟩
    · rcases List.mem_cons.mp hx with rfl | hx
      · exact ⟨h4, h1, h2, _, g1 _ _ (vup_self _ _ _)⟩
      · obtain ⟨k1, k2, k3, k4⟩ := g2 x hx
        refine ⟨?_, k2, k3, k4⟩
        by_cases e : x.1 = s.1
        · rw [e]; exact h4
        · rw [vup_ne _ _ e] at k1; exact k1
    · rw [List.map_cons, List.nodup_cons]
      refine ⟨fun hm => ?_, g3⟩
      obtain ⟨x, hx, hxe⟩ := List.mem_map.mp hm
      have := (g2 x hx).1
      rw [hxe, vup_self] at this
      exact nomatch this
theorem vld_er {K : List Nat} : ∀ (l : List (Nat × Nat)) (ps : ps_T) (wh : wh_T), vld T R b a pg ld L l ps wh → (∀ s ∈ l, s.1 ∈ K) → K.foldl er1 (l.foldl (lay1 T b) (ps, wh)) = K.foldl er1 (ps, wh)
  | [], _, _, _, _ => rfl
  | s :: l, ps, wh, hv, hm => by
    obtain ⟨⟨h1, h2, h3⟩, hv⟩ := hv
    obtain ⟨h4, h5⟩ := ok_h h3
    rw [fold_lay h3, vld_er l _ _ hv (fun x hx => hm x (List.mem_cons_of_mem _ hx))]
    have hs := hm s List.mem_cons_self
    refine Prod.ext (funext fun i => ?_) (funext fun b' => funext fun r' => funext fun t' => ?_)
    · rw [er_1, er_1]
      by_cases h : i ∈ K
      · rw [if_pos h, if_pos h]
      · rw [if_neg h, if_neg h]
        exact vup_ne _ _ (fun z => h (by rw [z]; exact hs))
    · rw [er_2, er_2]
      by_cases e : b' = b ∧ r' = s.2 ∧ t' = hgt wh b s.2 T
      · dsimp only
        obtain ⟨rfl, rfl, rfl⟩ := e
        rw [up3_self, hgt_none h5]
        dsimp only
        rw [if_pos hs]
      · dsimp only
        rw [up3_ne _ _ e]
/-- laid and taken back: as before -/
theorem vld_back {l : List (Nat × Nat)} {ps : ps_T} {wh : wh_T} (hc : cov a ps wh) (hv : vld T R b a pg ld L l ps wh) : (l.map Prod.fst).foldl er1 (l.foldl (lay1 T b) (ps, wh)) = (ps, wh) := by
  have hm : ∀ s ∈ l, s.1 ∈ l.map Prod.fst := fun s hs => List.mem_map.mpr ⟨s, hs, rfl⟩
  have h0 : ∀ i ∈ l.map Prod.fst, ps i = none := fun i hi => by
    obtain ⟨x, hx, rfl⟩ := List.mem_map.mp hi
    exact ((vld_p l ps wh hv).2.1 x hx).1
  rw [vld_er l ps wh hv hm]
  refine Prod.ext (funext fun i => ?_) (funext fun b' => funext fun r' => funext fun t' => ?_)
  · rw [er_1]
    exact ite_b (fun h => (h0 i h).symm) (fun _ => rfl)
  · rw [er_2]
    dsimp only
    cases h : wh b' r' t' with
    | none => rfl
    | some k =>
      dsimp only
      rw [if_neg]
      intro z
      obtain ⟨b0, h2, _⟩ := hc b' r' t' k h
      rw [h0 k z] at h2
      exact nomatch h2
end VL
