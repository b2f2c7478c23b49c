/-! What ties the two plans, kept by every call. -/
theorem put_iff {wh : wh_T} {s b r t k b' r' t' i : Nat} (hs : s = 40) : upc wh s b r t (some k) b' r' t' = some i ↔ ((r' = r ∧ t' = t ∧ (b' = b ∨ b' = b + 1)) ∧ i = k) ∨ (¬ (r' = r ∧ t' = t ∧ (b' = b ∨ b' = b + 1)) ∧ wh b' r' t' = some i) := by
  rw [show upc wh s b r t (some k) = up3 (up3 wh b r t (some k)) (b + 1) r t (some k) from if_pos hs]
  by_cases h1 : b' = b + 1 ∧ r' = r ∧ t' = t
  · obtain ⟨rfl, rfl, rfl⟩ := h1
    rw [up3_self]
    constructor
    · intro z; cases z; exact Or.inl ⟨⟨rfl, rfl, Or.inr rfl⟩, rfl⟩
    · rintro (⟨_, rfl⟩ | ⟨z, _⟩)
      · rfl
      · exact absurd ⟨rfl, rfl, Or.inr rfl⟩ z
  · rw [up3_ne _ _ h1]
    by_cases h2 : b' = b ∧ r' = r ∧ t' = t
    · obtain ⟨rfl, rfl, rfl⟩ := h2
      rw [up3_self]
      constructor
      · intro z; cases z; exact Or.inl ⟨⟨rfl, rfl, Or.inl rfl⟩, rfl⟩
      · rintro (⟨_, rfl⟩ | ⟨z, _⟩)
        · rfl
        · exact absurd ⟨rfl, rfl, Or.inl rfl⟩ z
    · rw [up3_ne _ _ h2]
      have h3 : ¬ (r' = r ∧ t' = t ∧ (b' = b ∨ b' = b + 1)) := fun z => z.2.2.elim (fun q => h2 ⟨q, z.1, z.2.1⟩) (fun q => h1 ⟨q, z.1, z.2.1⟩)
      exact ⟨fun z => Or.inr ⟨h3, z⟩, fun z => z.elim (fun q => absurd q.1 h3) (fun q => q.2)⟩
theorem jj_put {B R T n : Nat} {a : at_T} {ps : ps_T} {wh : wh_T} (H : jj B R T n a ps wh) {k b r t : Nat} (hk : k < n) (hb : b < B) (hr : r < R) (ht : t < T) (h40 : (a k).1 = 40 → b % 2 = 0 ∧ b + 1 < B) (h0 : ps k = none) (h1 : wh b r t = none) (h2 : (a k).1 = 40 → wh (b + 1) r t = none) : jj B R T n a (va_up ps k (some (b, r, t))) (upc wh (a k).1 b r t (some k)) := by
  by_cases hs : (a k).1 = 40
  · obtain ⟨hp, hw, hl, hc⟩ := H
    have h2x := h2 hs
    have h4x := h40 hs
    have hi : ∀ b' r' t' i, _ ↔ _ := fun b' r' t' i => put_iff (wh := wh) (b := b) (r := r) (t := t) (k := k) (b' := b') (r' := r') (t' := t') (i := i) hs
    have hpi : ∀ i q, va_up ps k (some (b, r, t)) i = some q → (i = k ∧ q = (b, r, t)) ∨ (¬ i = k ∧ ps i = some q) := fun i q h => by
      by_cases e : i = k
      · rw [e, vup_self] at h; exact Or.inl ⟨e, (Option.some.inj h).symm⟩
      · rw [vup_ne _ _ e] at h; exact Or.inr ⟨e, h⟩
    refine ⟨fun i b' r' t' h => ?_, fun b' r' t' i h => ?_, fun i b' r' t' h => ?_, fun b' r' t' i h => ?_⟩
    · rcases hpi _ _ h with ⟨rfl, e⟩ | ⟨_, h⟩
      · cases e; exact ⟨hk, hb, hr, ht, fun _ => h4x⟩
      · exact hp i b' r' t' h
    · rcases (hi _ _ _ _).mp h with ⟨⟨rfl, rfl, e⟩, rfl⟩ | ⟨_, h⟩
      · exact ⟨hk, by omega, hr, ht⟩
      · exact hw b' r' t' i h
    · rcases hpi _ _ h with ⟨rfl, e⟩ | ⟨e, h⟩
      · cases e
        exact ⟨(hi _ _ _ _).mpr (Or.inl ⟨⟨rfl, rfl, Or.inl rfl⟩, rfl⟩), fun _ => (hi _ _ _ _).mpr (Or.inl ⟨⟨rfl, rfl, Or.inr rfl⟩, rfl⟩)⟩
      · obtain ⟨h3, h4⟩ := hl i b' r' t' h
        have key : ∀ bb, wh bb r' t' = some i → ¬ (r' = r ∧ t' = t ∧ (bb = b ∨ bb = b + 1)) := fun bb hh z => by
          obtain ⟨rfl, rfl, rfl | rfl⟩ := z
          · rw [h1] at hh; exact nomatch hh
          · rw [h2x] at hh; exact nomatch hh
        exact ⟨(hi _ _ _ _).mpr (Or.inr ⟨key _ h3, h3⟩), fun z => (hi _ _ _ _).mpr (Or.inr ⟨key _ (h4 z), h4 z⟩)⟩
    · rcases (hi _ _ _ _).mp h with ⟨⟨rfl, rfl, e⟩, rfl⟩ | ⟨_, h⟩
      · refine ⟨b, vup_self _ _ _, ?_⟩
        rcases e with e | e
        · exact Or.inl e.symm
        · exact Or.inr ⟨hs, e.symm⟩
      · obtain ⟨b0, h3, h4⟩ := hc b' r' t' i h
        exact ⟨b0, by rw [vup_ne _ _ (fun z => by rw [z, h0] at h3; exact nomatch h3)]; exact h3, h4⟩
  · rw [show upc wh (a k).1 b r t (some k) = up3 wh b r t (some k) from if_neg hs]
    exact jj_lay H hk hs hb hr ht h0 h1
theorem jj_take {B R T n : Nat} {a : at_T} {ps : ps_T} {wh : wh_T} (H : jj B R T n a ps wh) {k b r t : Nat} (h : ps k = some (b, r, t)) : jj B R T n a (va_up ps k none) (upc wh (a k).1 b r t none) := by
  have e : upc wh (a k).1 b r t none = (er1 (ps, wh) k).2 := by
    funext b' r' t'
    show _ = if wh b' r' t' = some k then none else wh b' r' t'
    have hi := wh_iff H (b := b') (r := r') (t := t') h
    by_cases hs : (a k).1 = 40
    · rw [show upc wh (a k).1 b r t none = up3 (up3 wh b r t none) (b + 1) r t none from if_pos hs]
      by_cases h1 : b' = b + 1 ∧ r' = r ∧ t' = t
      · obtain ⟨rfl, rfl, rfl⟩ := h1
        rw [up3_self, if_pos (hi.mpr ⟨rfl, rfl, Or.inr ⟨hs, rfl⟩⟩)]
      · rw [up3_ne _ _ h1]
        by_cases h2 : b' = b ∧ r' = r ∧ t' = t
        · obtain ⟨rfl, rfl, rfl⟩ := h2
          rw [up3_self, if_pos (hi.mpr ⟨rfl, rfl, Or.inl rfl⟩)]
        · rw [up3_ne _ _ h2, if_neg]
          intro z
          obtain ⟨z1, z2, z3⟩ := hi.mp z
          rcases z3 with z3 | z3
          · exact h2 ⟨z3, z1, z2⟩
          · exact h1 ⟨z3.2, z1, z2⟩
    · rw [show upc wh (a k).1 b r t none = up3 wh b r t none from if_neg hs]
      by_cases h2 : b' = b ∧ r' = r ∧ t' = t
      · obtain ⟨rfl, rfl, rfl⟩ := h2
        rw [up3_self, if_pos (hi.mpr ⟨rfl, rfl, Or.inl rfl⟩)]
      · rw [up3_ne _ _ h2, if_neg]
        intro z
        obtain ⟨z1, z2, z3⟩ := hi.mp z
        rcases z3 with z3 | z3
        · exact h2 ⟨z3, z1, z2⟩
        · exact hs z3.1
  rw [e]
  exact jj_er H k
theorem jj_box {B R T n : Nat} {a : at_T} {ps : ps_T} {wh : wh_T} (H : jj B R T n a ps wh) (x : Nat × Nat × Nat × Nat) : jj B R T (n + 1) (va_up a n x) ps wh := by
  obtain ⟨hp, hw, hl, hc⟩ := H
  have ha : ∀ k, k < n → va_up a n x k = a k := fun k hk => vup_ne _ _ (by omega)
  refine ⟨fun k b r t h => ?_, fun b r t k h => ?_, fun k b r t h => ?_, fun b r t k h => ?_⟩
  · have h1 := hp k b r t h
    rw [ha k h1.1]
    exact ⟨by omega, h1.2⟩
  · have h1 := hw b r t k h
    exact ⟨by omega, h1.2⟩
  · rw [ha k (hp k b r t h).1]
    exact hl k b r t h
  · rw [ha k (hw b r t k h).1]
    exact hc b r t k h
theorem az_box {n : Nat} {a : at_T} (ha : az n a) {s q p kd : Nat} (h1 : s = 20 ∨ s = 40) (h2 : 1 ≤ q ∧ q ≤ 40) (h3 : 1 ≤ p ∧ p ≤ 6) (h4 : kd ≤ 2) : az (n + 1) (va_up a n (s, q, p, kd)) := fun k hk => by
  by_cases h : k = n
  · rw [h, vup_self]
    exact ⟨h1, h2, h3, h4⟩
  · rw [vup_ne _ _ h]
    exact ha k (by omega)
theorem lz_up {ld : Nat → Nat} (hl : lz ld) {b v : Nat} (hv : v ≤ 200) : lz (va_up ld b v) := fun i hi => by
  by_cases h : i = b
  · rw [h, vup_self]; exact hv
  · rw [vup_ne _ _ h]; exact hl i hi
theorem src_v {T R b : Nat} {a : at_T} {pg : pg_T} {ld : Nat → Nat} {L : List Nat} {ps : ps_T} {wh : wh_T} : ∀ len, vld T R b a pg ld L (src T R b a pg ld L ps wh len) ps wh
  | 0 => trivial
  | len + 1 => by
    rw [src.eq_2]
    cases srl (srf T R b a pg ld L ps wh (len + 1)) (16 ^ (len + 1)) 0 none with
    | none => exact src_v len
    | some c => exact doz_v _ _ _ _
theorem jj_fill {B R T n b : Nat} {a : at_T} {pg : pg_T} {ld : Nat → Nat} {ps : ps_T} {wh : wh_T} (hb : b < B) (H : jj B R T n a ps wh) : jj B R T n a ((rway T R n b a pg ld ps wh).foldl (lay1 T b) (ps, wh)).1 ((rway T R n b a pg ld ps wh).foldl (lay1 T b) (ps, wh)).2 := vld_j (fun k hk => ⟨(cands_mem hk).1, (cands_mem hk).2.1⟩) hb _ _ _ H (src_v _)
/-! bits of who is kept apart -/
theorem sh_j : ∀ j, j < 40 → (BitVec.smod ((w j).toInt64 &&& 63).toBitVec 64#64).toNat = j := by decide +kernel
theorem one_bit (i : Nat) : (1#64).getLsbD i = decide (i = 0) := by
  rw [BitVec.getLsbD_one]
  simp
theorem and1_0 (y : BitVec 64) : (y &&& 1#64 = 0#64) ↔ y.getLsbD 0 = false := by
  constructor
  · intro h
    have h1 := congrArg (fun z => BitVec.getLsbD z 0) h
    rw [BitVec.getLsbD_and, one_bit] at h1
    simpa using h1
  · intro h
    apply BitVec.eq_of_getLsbD_eq
    intro i hi
    rw [BitVec.getLsbD_and, one_bit]
    by_cases e : i = 0
    · rw [e, h]; rfl
    · rw [decide_eq_false e, Bool.and_false]
      simp
theorem kpb_bit {x : Int64} {j : Nat} (hj : j < 40) : kpb x j = x.toBitVec.getLsbD j := by
  unfold kpb
  have h1 : (x >>> ((w j).toInt64 &&& 63) &&& 1 = 0) ↔ x.toBitVec.getLsbD j = false := by
    rw [← Int64.toBitVec_inj, Int64.toBitVec_and, Int64.toBitVec_shiftRight]
    show (BitVec.sshiftRight x.toBitVec (BitVec.smod ((w j).toInt64 &&& 63).toBitVec 64#64).toNat &&& 1#64 = 0#64) ↔ _
    rw [sh_j j hj, and1_0, BitVec.getLsbD_sshiftRight]
    rw [if_pos (by omega), Nat.add_zero]
    simp
  cases h : x.toBitVec.getLsbD j with
  | true => exact decide_eq_true (fun z => by rw [h1.mp z] at h; exact nomatch h)
  | false => exact decide_eq_false (fun z => z (h1.mpr h))
theorem shl_bit {i j : Nat} (hi : i < 40) (hj : j < 40) : ((1 : Int64) <<< ((w j).toInt64 &&& 63)).toBitVec.getLsbD i = decide (i = j) := by
  rw [Int64.toBitVec_shiftLeft]
  show ((1#64) <<< (BitVec.smod ((w j).toInt64 &&& 63).toBitVec 64#64).toNat).getLsbD i = _
  rw [sh_j j hj, BitVec.getLsbD_shiftLeft, one_bit, decide_eq_true (show i < 64 by omega)]
  by_cases h : i < j
  · rw [decide_eq_true h, decide_eq_false (show ¬ i = j by omega)]; rfl
  · rw [decide_eq_false h]
    by_cases e : i = j
    · rw [decide_eq_true e, decide_eq_true (show i - j = 0 by omega)]; rfl
    · rw [decide_eq_false e, decide_eq_false (show ¬ i - j = 0 by omega)]; rfl
theorem kpb_set {x : Int64} {i j : Nat} {v : Bool} (hi : i < 40) (hj : j < 40) : kpb (kset x j v) i = if i = j then v else kpb x i := by
  rw [kpb_bit hi, kpb_bit hi]
  unfold kset
  cases v with
  | true =>
    rw [if_pos rfl, Int64.toBitVec_or, BitVec.getLsbD_or, shl_bit hi hj]
    by_cases e : i = j
    · rw [if_pos e, decide_eq_true e, Bool.or_true]
    · rw [if_neg e, decide_eq_false e, Bool.or_false]
  | false =>
    rw [if_neg Bool.false_ne_true, Int64.toBitVec_and, Int64.toBitVec_xor, BitVec.getLsbD_and, BitVec.getLsbD_xor, shl_bit hi hj]
    have h1 : (-1 : Int64).toBitVec.getLsbD i = true := by
      show (BitVec.allOnes 64).getLsbD i = true
      rw [BitVec.getLsbD_allOnes]
      exact decide_eq_true (by omega)
    rw [h1]
    by_cases e : i = j
    · rw [if_pos e, decide_eq_true e]
      exact Bool.and_false _
    · rw [if_neg e, decide_eq_false e]
      exact Bool.and_true _
theorem kz_apart {n : Nat} {kp : Nat → Int64} {ap : Nat → Nat → Bool} (hn : n ≤ 40) (H : kz n kp ap) {k j : Nat} {v : Bool} (hk : k < n) (hj : j < n) (hkj : ¬ k = j) : kz n (va_up (va_up kp k (kset (kp k) j v)) j (kset (kp j) k v)) (aps ap k j v) := by
  obtain ⟨h1, h2, h3⟩ := H
  refine ⟨fun x y hx hy => ?_, fun x y => ?_, fun x y h => ?_⟩
  · unfold aps
    by_cases e1 : x = j
    · rw [e1, vup_self, kpb_set hy (by omega), h1 j y hj hy]
      by_cases e2 : y = k
      · rw [if_pos e2, if_pos ⟨rfl, e2⟩]
      · rw [if_neg e2, if_neg (fun z => e2 z.2), if_neg (fun z => hkj z.1.symm)]
    · rw [vup_ne _ _ e1, if_neg (fun z => e1 z.1)]
      by_cases e2 : x = k
      · rw [e2, vup_self, kpb_set hy (by omega), h1 k y hk hy]
        by_cases e3 : y = j
        · rw [if_pos e3, if_pos ⟨rfl, e3⟩]
        · rw [if_neg e3, if_neg (fun z => e3 z.2)]
      · rw [vup_ne _ _ e2, if_neg (fun z => e2 z.1)]
        exact h1 x y hx hy
  · unfold aps
    by_cases e1 : x = j ∧ y = k
    · rw [if_pos e1]
      by_cases e2 : y = j ∧ x = k
      · rw [if_pos e2]
      · rw [if_neg e2, if_pos ⟨e1.2, e1.1⟩]
    · rw [if_neg e1]
      by_cases e2 : x = k ∧ y = j
      · rw [if_pos e2, if_pos ⟨e2.2, e2.1⟩]
      · rw [if_neg e2, if_neg (fun z => e2 ⟨z.2, z.1⟩), if_neg (fun z => e1 ⟨z.2, z.1⟩)]
        exact h2 x y
  · unfold aps at h
    by_cases e1 : x = j ∧ y = k
    · rw [e1.1, e1.2]; exact ⟨hj, hk⟩
    · rw [if_neg e1] at h
      by_cases e2 : x = k ∧ y = j
      · rw [e2.1, e2.2]; exact ⟨hk, hj⟩
      · rw [if_neg e2] at h
        exact h3 x y h
theorem kz_box {n : Nat} {kp : Nat → Int64} {ap : Nat → Nat → Bool} (hn : n < 40) (H : kz n kp ap) : kz (n + 1) (va_up kp n 0) ap := by
  obtain ⟨h1, h2, h3⟩ := H
  refine ⟨fun x y hx hy => ?_, h2, fun x y h => ?_⟩
  · by_cases e : x = n
    · rw [e, vup_self, kpb_bit hy]
      cases h : ap n y with
      | true => exact absurd (h3 n y h).1 (by omega)
      | false =>
        show (0#64).getLsbD y = false
        simp
    · rw [vup_ne _ _ e]
      exact h1 x y (by omega) hy
  · have := h3 x y h
    omega
