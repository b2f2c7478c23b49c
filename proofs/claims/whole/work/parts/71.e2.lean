/-! Faults: the class's and the reference's are the same. -/
theorem kee_t {ap : Nat → Nat → Bool} {k : Nat} {o : Option Nat} : (kee ap k o = true) ↔ ∃ j, o = some j ∧ k < j ∧ ap k j = true := by
  cases o with
  | none => exact ⟨fun h => (nomatch h), fun ⟨j, h, _⟩ => (nomatch h)⟩
  | some i =>
    show (decide (k < i) && ap k i) = true ↔ _
    rw [Bool.and_eq_true, decide_eq_true_eq]
    exact ⟨fun h => ⟨i, rfl, h⟩, fun ⟨j, h, h2⟩ => by cases h; exact h2⟩
def nbr (b r t b' r' t' : Nat) : Prop := dst r r' + dst t t' + dst b b' = 1
theorem nbr_6 {b r t b' r' t' : Nat} (h : nbr b r t b' r' t') : (r = r' + 1 ∧ b' = b ∧ t' = t) ∨ (r' = r + 1 ∧ b' = b ∧ t' = t) ∨ (t = t' + 1 ∧ b' = b ∧ r' = r) ∨ (t' = t + 1 ∧ b' = b ∧ r' = r) ∨ (b = b' + 1 ∧ r' = r ∧ t' = t) ∨ (b' = b + 1 ∧ r' = r ∧ t' = t) := by
  unfold nbr at h
  have h0 : ∀ x y, dst x y = 0 → y = x := fun x y q => by unfold dst at q; omega
  have h1 : ∀ x y, dst x y = 1 → x = y + 1 ∨ y = x + 1 := fun x y q => by unfold dst at q; omega
  have h2 : (dst r r' = 1 ∧ dst t t' = 0 ∧ dst b b' = 0) ∨ (dst r r' = 0 ∧ dst t t' = 1 ∧ dst b b' = 0) ∨ (dst r r' = 0 ∧ dst t t' = 0 ∧ dst b b' = 1) := by omega
  rcases h2 with ⟨a1, a2, a3⟩ | ⟨a1, a2, a3⟩ | ⟨a1, a2, a3⟩
  · have b2 := h0 _ _ a2
    have b3 := h0 _ _ a3
    rcases h1 _ _ a1 with b1 | b1
    · exact Or.inl ⟨b1, b3, b2⟩
    · exact Or.inr (Or.inl ⟨b1, b3, b2⟩)
  · have b1 := h0 _ _ a1
    have b3 := h0 _ _ a3
    rcases h1 _ _ a2 with b2 | b2
    · exact Or.inr (Or.inr (Or.inl ⟨b2, b3, b1⟩))
    · exact Or.inr (Or.inr (Or.inr (Or.inl ⟨b2, b3, b1⟩)))
  · have b1 := h0 _ _ a1
    have b2 := h0 _ _ a2
    rcases h1 _ _ a3 with b3 | b3
    · exact Or.inr (Or.inr (Or.inr (Or.inr (Or.inl ⟨b3, b1, b2⟩))))
    · exact Or.inr (Or.inr (Or.inr (Or.inr (Or.inr ⟨b3, b1, b2⟩))))
theorem tchm_t {ap : Nat → Nat → Bool} {wh : wh_T} {k b r t : Nat} : (tchm ap wh k b r t = true) ↔ ∃ b' r' t' j, nbr b r t b' r' t' ∧ wh b' r' t' = some j ∧ k < j ∧ ap k j = true := by
  unfold tchm
  simp only [Bool.or_eq_true, kee_t]
  constructor
  · rintro (((((h | h) | h) | h) | h) | h)
    · obtain ⟨j, h1, h2⟩ := h
      cases r with
      | zero => exact nomatch h1
      | succ r => exact ⟨b, r, t, j, by unfold nbr dst; omega, h1, h2⟩
    · obtain ⟨j, h1, h2⟩ := h
      exact ⟨b, r + 1, t, j, by unfold nbr dst; omega, h1, h2⟩
    · obtain ⟨j, h1, h2⟩ := h
      cases t with
      | zero => exact nomatch h1
      | succ t => exact ⟨b, r, t, j, by unfold nbr dst; omega, h1, h2⟩
    · obtain ⟨j, h1, h2⟩ := h
      exact ⟨b, r, t + 1, j, by unfold nbr dst; omega, h1, h2⟩
    · obtain ⟨j, h1, h2⟩ := h
      cases b with
      | zero => exact nomatch h1
      | succ b => exact ⟨b, r, t, j, by unfold nbr dst; omega, h1, h2⟩
    · obtain ⟨j, h1, h2⟩ := h
      exact ⟨b + 1, r, t, j, by unfold nbr dst; omega, h1, h2⟩
  · rintro ⟨b', r', t', j, h, h1, h2⟩
    rcases nbr_6 h with ⟨e1, e2, e3⟩ | ⟨e1, e2, e3⟩ | ⟨e1, e2, e3⟩ | ⟨e1, e2, e3⟩ | ⟨e1, e2, e3⟩ | ⟨e1, e2, e3⟩
    · subst e1 e2 e3; exact Or.inl (Or.inl (Or.inl (Or.inl (Or.inl ⟨j, h1, h2⟩))))
    · subst e1 e2 e3; exact Or.inl (Or.inl (Or.inl (Or.inl (Or.inr ⟨j, h1, h2⟩))))
    · subst e1 e2 e3; exact Or.inl (Or.inl (Or.inl (Or.inr ⟨j, h1, h2⟩)))
    · subst e1 e2 e3; exact Or.inl (Or.inl (Or.inr ⟨j, h1, h2⟩))
    · subst e1 e2 e3; exact Or.inl (Or.inr ⟨j, h1, h2⟩)
    · subst e1 e2 e3; exact Or.inr ⟨j, h1, h2⟩
theorem tch_t {s s' b r t b' r' t' : Nat} : (tch s s' b r t b' r' t' = true) ↔ (nbr b r t b' r' t' ∨ (s' = 40 ∧ nbr b r t (b' + 1) r' t') ∨ (s = 40 ∧ nbr (b + 1) r t b' r' t') ∨ (s = 40 ∧ s' = 40 ∧ nbr (b + 1) r t (b' + 1) r' t')) := by
  unfold tch nbr
  simp only [Bool.or_eq_true, Bool.and_eq_true, decide_eq_true_eq, or_assoc, and_assoc]
/-- who is kept apart: the class's bits and the reference's table -/
def kz (n : Nat) (kp : Nat → Int64) (ap : Nat → Nat → Bool) : Prop := (∀ i j, i < n → j < 40 → kpb (kp i) j = ap i j) ∧ (∀ i j, ap i j = ap j i) ∧ ∀ i j, ap i j = true → i < n ∧ j < n
theorem k6_eq {B R T n : Nat} {a : at_T} {ps : ps_T} {wh : wh_T} {kp : Nat → Int64} {ap : Nat → Nat → Bool} (hn : n ≤ 40) (H : jj B R T n a ps wh) (hk : kz n kp ap) {k b r t : Nat} (h : ps k = some (b, r, t)) : k6c n a ps kp k = k6m ap a wh k b r t := by
  have hkn := (H.1 k b r t h).1
  rw [Bool.eq_iff_iff]
  unfold k6c k6m
  rw [anyb_t, Bool.or_eq_true, Bool.and_eq_true, decide_eq_true_eq, tchm_t, tchm_t]
  constructor
  · rintro ⟨j, hj, h1⟩
    rw [Bool.and_eq_true, decide_eq_true_eq] at h1
    obtain ⟨h1, h2⟩ := h1
    unfold kat at h2
    rw [h] at h2
    cases h3 : ps j with
    | none => rw [h3] at h2; exact nomatch h2
    | some q =>
      obtain ⟨b', r', t'⟩ := q
      rw [h3] at h2
      dsimp only at h2
      rw [Bool.and_eq_true, hk.1 k j hkn (by omega), tch_t] at h2
      obtain ⟨h4, h5⟩ := h2
      have h6 := H.2.2.1 j b' r' t' h3
      rcases h5 with h5 | ⟨e, h5⟩ | ⟨e, h5⟩ | ⟨e, e2, h5⟩
      · exact Or.inl ⟨b', r', t', j, h5, h6.1, h1, h4⟩
      · exact Or.inl ⟨b' + 1, r', t', j, h5, h6.2 e, h1, h4⟩
      · exact Or.inr ⟨e, b', r', t', j, h5, h6.1, h1, h4⟩
      · exact Or.inr ⟨e, b' + 1, r', t', j, h5, h6.2 e2, h1, h4⟩
  · have main : ∀ bk, (bk = b ∨ ((a k).1 = 40 ∧ bk = b + 1)) → ∀ b' r' t' j, nbr bk r t b' r' t' → wh b' r' t' = some j → k < j → ap k j = true → ∃ j, j < n ∧ (decide (k < j) && kat a ps kp k j) = true := by
      intro bk hbk b' r' t' j h1 h2 h3 h4
      obtain ⟨b0, h5, h6⟩ := H.2.2.2 b' r' t' j h2
      have hjn := (H.2.1 b' r' t' j h2).1
      refine ⟨j, hjn, ?_⟩
      rw [Bool.and_eq_true, decide_eq_true_eq]
      refine ⟨h3, ?_⟩
      unfold kat
      rw [h, h5]
      dsimp only
      rw [Bool.and_eq_true, hk.1 k j hkn (by omega), tch_t]
      refine ⟨h4, ?_⟩
      rcases hbk with rfl | ⟨e, rfl⟩
      · rcases h6 with rfl | ⟨e2, rfl⟩
        · exact Or.inl h1
        · exact Or.inr (Or.inl ⟨e2, h1⟩)
      · rcases h6 with rfl | ⟨e2, rfl⟩
        · exact Or.inr (Or.inr (Or.inl ⟨e, h1⟩))
        · exact Or.inr (Or.inr (Or.inr ⟨e, e2, h1⟩))
    rintro (⟨b', r', t', j, h1, h2, h3, h4⟩ | ⟨e, b', r', t', j, h1, h2, h3, h4⟩)
    · exact main b (Or.inl rfl) b' r' t' j h1 h2 h3 h4
    · exact main (b + 1) (Or.inr ⟨e, rfl⟩) b' r' t' j h1 h2 h3 h4
theorem sm_swap {F : Nat → Nat → Nat} {m : Nat} : ∀ {n : Nat}, sm (fun i => sm (fun j => F i j) m) n = sm (fun j => sm (fun i => F i j) n) m
  | 0 => (sm_z (fun _ _ => rfl)).symm
  | n + 1 => by
    rw [sm_s, sm_swap]
    clear sm_swap
    induction m with
    | zero => rfl
    | succ m ih =>
      rw [sm_s, sm_s, sm_s, sm_s, ← ih]
      omega
theorem sm_pick {f : Nat → Nat} {i0 n : Nat} (h : i0 < n) (h1 : ∀ i, i < n → ¬ i = i0 → f i = 0) : sm f n = f i0 := by
  have h2 := sm_one (f := f) (g := fun _ => 0) (x := f i0) h h1 (Nat.zero_add _).symm
  rw [h2, sm_z (fun _ _ => rfl), Nat.zero_add]
theorem hm_t {a : at_T} {ps : ps_T} {wh : wh_T} (hl : lk a ps wh) {q : Nat × Nat × Nat} {k : Nat} : hm ps wh q = some k ↔ ps k = some q := by
  obtain ⟨b, r, t⟩ := q
  unfold hm
  constructor
  · intro h
    cases h1 : wh b r t with
    | none => rw [h1] at h; exact nomatch h
    | some i =>
      rw [h1] at h
      dsimp only at h
      split at h
      · rename_i h2; cases h; exact h2
      · exact nomatch h
  · intro h
    have := (hl k b r t h).1
    dsimp only
    rw [this]
    dsimp only
    rw [if_pos h]
theorem ft_sm (H : Nat × Nat × Nat → Option Nat) (G : Nat → Nat × Nat × Nat → Nat → Bool) (e : Nat → Nat × Nat × Nat) : ∀ (m i : Nat), ft H G ((List.range' i m).map e) = sm (fun j => match H (e (i + j)) with | none => 0 | some k => fcn (G k (e (i + j))) 7) m
  | 0, _ => rfl
  | m + 1, i => by
    have hs : ∀ (f : Nat → Nat) (m : Nat), sm f (m + 1) = f 0 + sm (fun j => f (j + 1)) m := fun f m => by
      induction m with
      | zero => rw [sm_s, sm_0, sm_0]; omega
      | succ m ih => rw [sm_s, ih, sm_s]; omega
    rw [List.range'_succ, List.map_cons, hs]
    show _ + ft H G ((List.range' (i + 1) m).map e) = _
    rw [ft_sm H G e m (i + 1)]
    refine congrArg (fun x => _ + x) (sm_congr (fun j _ => ?_))
    rw [show i + 1 + j = i + (j + 1) by omega]
theorem de5_me {c : Nat} {b r t : Nat} (hr : r < 4) (ht : t < 5) : de5 c = (b, r, t) ↔ c = me b r t := by
  unfold de5
  rw [← me_inj hr ht]
  constructor
  · intro h
    simp only [Prod.mk.injEq] at h
    exact h
  · intro h
    rw [h.1, h.2.1, h.2.2]
theorem check_eq {B R T n : Nat} {a : at_T} {ps : ps_T} {wh : wh_T} {pg : pg_T} {ld : Nat → Nat} {kp : Nat → Int64} {ap : Nat → Nat → Bool} (hz : dz B R T n) (H : jj B R T n a ps wh) (hk : kz n kp ap) : sm (fk T n a ps wh pg ld (k6c n a ps kp)) n = ft (hm ps wh) (fun k q q' => flt T a wh pg ld (k6m ap a wh k q.1 q.2.1 q.2.2) q' k q.1 q.2.1 q.2.2) ((List.range 80).map de5) := by
  obtain ⟨hB1, hB, hR1, hR, hT1, hT, hn⟩ := hz
  have hh := fun q k => hm_t H.2.2.1 (q := q) (k := k)
  rw [List.range_eq_range', ft_sm]
  have e1 : ∀ j, j < 80 → (match hm ps wh (de5 (0 + j)) with | none => 0 | some k => fcn (fun q' => flt T a wh pg ld (k6m ap a wh k (de5 (0 + j)).1 (de5 (0 + j)).2.1 (de5 (0 + j)).2.2) q' k (de5 (0 + j)).1 (de5 (0 + j)).2.1 (de5 (0 + j)).2.2) 7) = sm (fun k => if ps k = some (de5 j) then fk T n a ps wh pg ld (k6c n a ps kp) k else 0) n := by
    intro j hj
    rw [Nat.zero_add]
    cases h : hm ps wh (de5 j) with
    | none =>
      dsimp only
      refine (sm_z (fun k _ => if_neg (fun z => ?_))).symm
      rw [(hh _ _).mpr z] at h
      exact nomatch h
    | some k =>
      have h1 := (hh _ _).mp h
      dsimp only
      refine Eq.trans ?_ (sm_pick (i0 := k) (H.1 k _ _ _ h1).1 (fun i _ hi => if_neg (fun z => ?_))).symm
      · rw [if_pos h1]
        unfold fk
        rw [h1]
        dsimp only
        rw [k6_eq hn H hk h1]
        rfl
      · rw [(hh _ _).mpr z] at h
        exact hi (Option.some.inj h)
  refine Eq.symm ((sm_congr e1).trans (Eq.trans (sm_swap (F := fun j k => if ps k = some (de5 j) then fk T n a ps wh pg ld (k6c n a ps kp) k else 0)) ?_))
  refine sm_congr (fun k hk2 => ?_)
  cases h : ps k with
  | none =>
    refine (sm_z (fun i _ => if_neg (fun z => nomatch z))).trans ?_
    unfold fk
    rw [h]
  | some q =>
    obtain ⟨b, r, t⟩ := q
    obtain ⟨_, hb, hr, ht, _⟩ := H.1 k b r t h
    have hd : ∀ c, de5 c = (b, r, t) ↔ c = me b r t := fun c => de5_me (by omega) (by omega)
    refine (sm_pick (i0 := me b r t) (me_lt (by omega) (by omega) (by omega)) (fun i _ hi => if_neg (fun z => hi ((hd i).mp (Option.some.inj z).symm)))).trans ?_
    exact if_pos (by rw [(hd _).mpr rfl])
theorem fw_filter (H : Nat × Nat × Nat → Option Nat) (G : Nat → Nat × Nat × Nat → Nat → Bool) (p : Nat × Nat × Nat → Bool) (hp : ∀ q, p q = false → H q = none) : ∀ (L : List (Nat × Nat × Nat)) (l : Nat), fw H G (L.filter p) l = fw H G L l
  | [], _ => rfl
  | q :: L, l => by
    have ih := fw_filter H G p hp L
    cases h : p q with
    | false =>
      have hq : ¬ p q = true := by rw [h]; exact Bool.false_ne_true
      rw [List.filter_cons_of_neg hq, ih]
      have h1 := hp q h
      show _ = match H q with | none => fw H G L l | some k => _
      rw [h1]
    | true =>
      rw [List.filter_cons_of_pos h]
      show (match H q with | none => fw H G (L.filter p) l | some k => if l < fcn (G k q) 7 then some ((nthq (G k q) 7 0 l).getD 0, k, q) else fw H G (L.filter p) (l - fcn (G k q) 7)) = match H q with | none => fw H G L l | some k => if l < fcn (G k q) 7 then some ((nthq (G k q) 7 0 l).getD 0, k, q) else fw H G L (l - fcn (G k q) 7)
      cases H q with
      | none => exact ih l
      | some k => dsimp only; rw [ih]
theorem fw_congr (H : Nat × Nat × Nat → Option Nat) {G G' : Nat → Nat × Nat × Nat → Nat → Bool} (hg : ∀ q k, H q = some k → G k q = G' k q) : ∀ (L : List (Nat × Nat × Nat)) (l : Nat), fw H G L l = fw H G' L l
  | [], _ => rfl
  | q :: L, l => by
    have ih := fw_congr H hg L
    show (match H q with | none => fw H G L l | some k => if l < fcn (G k q) 7 then some ((nthq (G k q) 7 0 l).getD 0, k, q) else fw H G L (l - fcn (G k q) 7)) = match H q with | none => fw H G' L l | some k => if l < fcn (G' k q) 7 then some ((nthq (G' k q) 7 0 l).getD 0, k, q) else fw H G' L (l - fcn (G' k q) 7)
    cases h : H q with
    | none => exact ih l
    | some k => dsimp only; rw [ih, hg q k h]
theorem fw_none (H : Nat × Nat × Nat → Option Nat) (G : Nat → Nat × Nat × Nat → Nat → Bool) : ∀ (L : List (Nat × Nat × Nat)) (l : Nat), fw H G L l = none ↔ ft H G L ≤ l
  | [], l => ⟨fun _ => Nat.zero_le _, fun _ => rfl⟩
  | q :: L, l => by
    have ih := fw_none H G L
    show (match H q with | none => fw H G L l | some k => if l < fcn (G k q) 7 then some ((nthq (G k q) 7 0 l).getD 0, k, q) else fw H G L (l - fcn (G k q) 7)) = none ↔ (match H q with | none => 0 | some k => fcn (G k q) 7) + ft H G L ≤ l
    cases H q with
    | none => dsimp only; rw [ih l, Nat.zero_add]
    | some k =>
      dsimp only
      by_cases h : l < fcn (G k q) 7
      · rw [if_pos h]
        exact ⟨fun z => (nomatch z), fun z => by omega⟩
      · rw [if_neg h, ih]
        omega
theorem filt_lt {k N : Nat} (h : k ≤ N) : (List.range N).filter (fun x => decide (x < k)) = List.range k := by
  obtain ⟨e, rfl⟩ : ∃ e, N = k + e := ⟨N - k, by omega⟩
  have h1 : (List.range k).filter (fun x => decide (x < k)) = List.range k := List.filter_eq_self.mpr (fun x hx => decide_eq_true (List.mem_range.mp hx))
  have h2 : ((List.range e).map (fun x => k + x)).filter (fun x => decide (x < k)) = [] := List.filter_eq_nil_iff.mpr (fun x hx => by
    obtain ⟨y, _, rfl⟩ := List.mem_map.mp hx
    exact fun z => absurd (of_decide_eq_true z) (by omega))
  rw [List.range_add, List.filter_append, h1, h2, List.append_nil]
theorem rng3 (B R T : Nat) : (List.range (B * R * T)).map (dec R T) = (List.range B).flatMap (fun b => (List.range R).flatMap (fun r => (List.range T).map (fun t => (b, r, t)))) := by
  rw [range_mul, List.map_flatMap, range_mul, List.flatMap_assoc]
  refine flat_congr (fun b hb => ?_)
  rw [List.flatMap_map]
  refine flat_congr (fun r hr => ?_)
  rw [List.map_map]
  refine List.map_congr_left (fun t ht => ?_)
  have hr := List.mem_range.mp hr
  have ht := List.mem_range.mp ht
  have h1 := ci_b (b := b) hr ht
  have h2 := ci_r (b := b) hr ht
  have h3 := ci_t (R := R) (b := b) (r := r) ht
  show dec R T (ci R T b r t) = _
  unfold dec
  rw [h1, h2, h3]
theorem flat_filt {β : Type} (p : Nat → Bool) (X : Nat → List β) : ∀ (l : List Nat), (∀ x ∈ l, p x = false → X x = []) → l.flatMap X = (l.filter p).flatMap X
  | [], _ => rfl
  | x :: l, h => by
    have ih := flat_filt p X l (fun y hy => h y (List.mem_cons_of_mem _ hy))
    cases h1 : p x with
    | true => rw [List.filter_cons_of_pos h1, List.flatMap_cons, List.flatMap_cons, ih]
    | false =>
      have hq : ¬ p x = true := by rw [h1]; exact Bool.false_ne_true
      rw [List.filter_cons_of_neg hq, List.flatMap_cons, h x List.mem_cons_self h1, ih]
      rfl
theorem cells_eq {B R T : Nat} (hB : B ≤ 4) (hR : R ≤ 4) (hT : T ≤ 5) : ((List.range 80).map de5).filter (fun q => decide (q.1 < B) && decide (q.2.1 < R) && decide (q.2.2 < T)) = (List.range (B * R * T)).map (dec R T) := by
  have e : (List.range 80).map de5 = (List.range (4 * 4 * 5)).map (dec 4 5) := by
    refine List.map_congr_left (fun c _ => ?_)
    show (c / 20, c / 5 % 4, c % 5) = (c / 5 / 4, c / 5 % 4, c % 5)
    rw [Nat.div_div_eq_div_mul]
  rw [e, rng3, rng3, List.filter_flatMap]
  have h3 : ∀ b r, ((List.range 5).map (fun t => (b, r, t))).filter (fun q => decide (q.1 < B) && decide (q.2.1 < R) && decide (q.2.2 < T)) = if b < B ∧ r < R then (List.range T).map (fun t => (b, r, t)) else [] := by
    intro b r
    rw [List.filter_map]
    by_cases h : b < B ∧ r < R
    · rw [if_pos h, ← filt_lt hT]
      refine congrArg (List.map _) (List.filter_congr (fun t _ => ?_))
      show (decide (b < B) && decide (r < R) && decide (t < T)) = decide (t < T)
      rw [decide_eq_true h.1, decide_eq_true h.2]
      rfl
    · rw [if_neg h]
      rw [List.filter_eq_nil_iff.mpr]
      · rfl
      · intro t _ z
        have z : (decide (b < B) && decide (r < R) && decide (t < T)) = true := z
        rw [Bool.and_eq_true, Bool.and_eq_true, decide_eq_true_eq, decide_eq_true_eq] at z
        exact h z.1
  refine Eq.trans (flat_congr (g := fun b => if b < B then (List.range R).flatMap (fun r => (List.range T).map (fun t => (b, r, t))) else []) (fun b _ => ?_)) ?_
  · rw [List.filter_flatMap]
    refine Eq.trans (flat_congr (fun r _ => h3 b r)) ?_
    by_cases h : b < B
    · rw [if_pos h]
      refine Eq.trans (flat_filt (fun r => decide (r < R)) _ _ (fun r _ hr => if_neg (fun z => of_decide_eq_false hr z.2))) ?_
      rw [filt_lt hR]
      exact flat_congr (fun r hr => if_pos ⟨h, List.mem_range.mp hr⟩)
    · rw [if_neg h]
      exact flat_nil (fun r _ => if_neg (fun z => h z.1))
  · refine Eq.trans (flat_filt (fun b => decide (b < B)) _ _ (fun b _ hb => if_neg (of_decide_eq_false hb))) ?_
    rw [filt_lt hB]
    exact flat_congr (fun b hb => if_pos (List.mem_range.mp hb))
theorem fault_eq {B R T n : Nat} {a : at_T} {ps : ps_T} {wh : wh_T} {pg : pg_T} {ld : Nat → Nat} {kp : Nat → Int64} {ap : Nat → Nat → Bool} (hz : dz B R T n) (H : jj B R T n a ps wh) (hk : kz n kp ap) (l : Nat) : fw (hm ps wh) (fun k q q' => flt T a wh pg ld (k6c n a ps kp k) q' k q.1 q.2.1 q.2.2) ((List.range (B * R * T)).map (dec R T)) l = fw (hm ps wh) (fun k q q' => flt T a wh pg ld (k6m ap a wh k q.1 q.2.1 q.2.2) q' k q.1 q.2.1 q.2.2) ((List.range 80).map de5) l := by
  rw [← cells_eq hz.2.1 hz.2.2.2.1 hz.2.2.2.2.2.1, fw_filter]
  · refine fw_congr _ (fun q k h => ?_) _ _
    obtain ⟨b, r, t⟩ := q
    have h1 := (hm_t H.2.2.1).mp h
    funext q'
    rw [k6_eq hz.2.2.2.2.2.2 H hk h1]
  · intro q hq
    obtain ⟨b, r, t⟩ := q
    cases h : hm ps wh (b, r, t) with
    | none => rfl
    | some k =>
      have h1 := (hm_t H.2.2.1).mp h
      obtain ⟨_, hb, hr, ht, _⟩ := H.1 k b r t h1
      dsimp only at hq
      rw [decide_eq_true hb, decide_eq_true hr, decide_eq_true ht] at hq
      exact nomatch hq
