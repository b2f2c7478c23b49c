/-! Overstows: the class's and the reference's are the same. -/
theorem sm_1 {P : Nat → Prop} [∀ i, Decidable (P i)] {i0 n : Nat} (h : i0 < n) (h0 : P i0) (h1 : ∀ i, P i → i = i0) : sm (fun i => if P i then 1 else 0) n = 1 := (sm_pick h (fun i _ hi => if_neg (fun z => hi (h1 i z)))).trans (if_pos h0)
section E3
variable {B R T n : Nat} {a : at_T} {ps : ps_T} {wh : wh_T}
/-- what a pair counts in a bay -/
def pc (a : at_T) (p u l b : Nat) : Prop := ¬ ((a l).1 = 40 ∧ (a u).1 = 40 ∧ b % 2 = 1) ∧ (a l).2.2.1 < (a u).2.2.1 ∧ (p = 0 ∨ (a l).2.2.1 = p)
def pcb (a : at_T) (p u l b : Nat) : Bool := !(decide ((a l).1 = 40) && decide ((a u).1 = 40) && decide (b % 2 = 1)) && decide ((a l).2.2.1 < (a u).2.2.1) && (decide (p = 0) || decide ((a l).2.2.1 = p))
theorem pcb_t {p u l b : Nat} : pcb a p u l b = true ↔ pc a p u l b := by
  unfold pcb pc
  simp only [Bool.and_eq_true, Bool.or_eq_true, Bool.not_eq_true', decide_eq_true_eq, Bool.and_eq_false_iff, decide_eq_false_iff_not]
  constructor
  · rintro ⟨⟨h1, h2⟩, h3⟩
    refine ⟨fun z => ?_, h2, h3⟩
    rcases h1 with (h1 | h1) | h1
    · exact h1 z.1
    · exact h1 z.2.1
    · exact h1 z.2.2
  · rintro ⟨h1, h2, h3⟩
    refine ⟨⟨?_, h2⟩, h3⟩
    by_cases e1 : (a l).1 = 40
    · by_cases e2 : (a u).1 = 40
      · exact Or.inr (fun z => h1 ⟨e1, e2, z⟩)
      · exact Or.inl (Or.inr e2)
    · exact Or.inl (Or.inl e1)
/-- a pair in two cells -/
def gg (a : at_T) (wh : wh_T) (p b r t k u l : Nat) : Nat := if wh b r t = some u ∧ wh b r k = some l ∧ pcb a p u l b = true then 1 else 0
theorem og_sm (hw : wz B R T n wh) {p b r t k : Nat} : og a wh p false b r t k = sm (fun u => sm (fun l => gg a wh p b r t k u l) n) n := by
  unfold gg
  cases h1 : wh b r t with
  | none =>
    rw [og_n1 h1]
    exact (sm_z (fun u _ => sm_z (fun l _ => if_neg (fun z => nomatch z.1)))).symm
  | some u =>
    have hu := (hw _ _ _ _ h1).1
    refine Eq.trans ?_ (sm_pick hu (fun i _ hi => sm_z (fun l _ => if_neg (fun z => hi (Option.some.inj z.1).symm)))).symm
    cases h2 : wh b r k with
    | none =>
      rw [og_n2 h1 h2]
      exact (sm_z (fun l _ => if_neg (fun z => nomatch z.2.1))).symm
    | some l =>
      have hl := (hw _ _ _ _ h2).1
      refine Eq.trans ?_ (sm_pick hl (fun i _ hi => if_neg (fun z => hi (Option.some.inj z.2.1).symm))).symm
      rw [og_s h1 h2]
      by_cases h3 : pcb a p u l b = true
      · have h4 := pcb_t.mp h3
        rw [if_pos ⟨fun z => h4.1 ⟨z.1, z.2.1, z.2.2.1⟩, h4.2.1, h4.2.2⟩, if_pos ⟨rfl, rfl, h3⟩]
      · rw [if_neg (fun z => h3 (pcb_t.mpr ⟨fun q => z.1 ⟨q.1, q.2.1, q.2.2, rfl⟩, z.2.1, z.2.2⟩)), if_neg (fun z => h3 z.2.2)]
theorem wh_iff (H : jj B R T n a ps wh) {u b r t b1 r1 t1 : Nat} (h : ps u = some (b1, r1, t1)) : wh b r t = some u ↔ (r = r1 ∧ t = t1 ∧ (b = b1 ∨ ((a u).1 = 40 ∧ b = b1 + 1))) := by
  constructor
  · intro h1
    obtain ⟨b0, h2, h3⟩ := H.2.2.2 b r t u h1
    rw [h] at h2
    cases h2
    refine ⟨rfl, rfl, ?_⟩
    rcases h3 with h3 | h3
    · exact Or.inl h3.symm
    · exact Or.inr ⟨h3.1, h3.2.symm⟩
  · rintro ⟨rfl, rfl, rfl | ⟨e, rfl⟩⟩
    · exact (H.2.2.1 u _ _ _ h).1
    · exact (H.2.2.1 u _ _ _ h).2 e
theorem pair_sm (H : jj B R T n a ps wh) (p u l : Nat) : sm (fun b => sm (fun r => sm (fun t => sm (fun k => gg a wh p b r t k u l) t) T) R) B = if (p = 0 ∨ (a l).2.2.1 = p) ∧ ovs a ps u l = true then 1 else 0 := by
  unfold gg
  cases hu : ps u with
  | none =>
    rw [if_neg (fun z => by unfold ovs at z; rw [hu] at z; exact nomatch z.2)]
    refine sm_z (fun b _ => sm_z (fun r _ => sm_z (fun t _ => sm_z (fun k _ => if_neg (fun z => ?_)))))
    obtain ⟨b0, h2, _⟩ := H.2.2.2 b r t u z.1
    rw [hu] at h2
    exact nomatch h2
  | some q =>
    obtain ⟨b1, r1, t1⟩ := q
    cases hl : ps l with
    | none =>
      rw [if_neg (fun z => by unfold ovs at z; rw [hu, hl] at z; exact nomatch z.2)]
      refine sm_z (fun b _ => sm_z (fun r _ => sm_z (fun t _ => sm_z (fun k _ => if_neg (fun z => ?_)))))
      obtain ⟨b0, h2, _⟩ := H.2.2.2 b r k l z.2.1
      rw [hl] at h2
      exact nomatch h2
    | some q =>
      obtain ⟨b2, r2, t2⟩ := q
      obtain ⟨_, hb1, hr1, ht1, hf1⟩ := H.1 u b1 r1 t1 hu
      obtain ⟨_, hb2, hr2, ht2, hf2⟩ := H.1 l b2 r2 t2 hl
      have hwu := fun b r t => wh_iff H (b := b) (r := r) (t := t) hu
      have hwl := fun b r t => wh_iff H (b := b) (r := r) (t := t) hl
      have hov : ovs a ps u l = true ↔ (r1 = r2 ∧ t2 < t1 ∧ (b1 ≤ (if (a l).1 = 40 then b2 + 1 else b2) ∧ b2 ≤ (if (a u).1 = 40 then b1 + 1 else b1)) ∧ (a l).2.2.1 < (a u).2.2.1) := by
        unfold ovs
        rw [hu, hl]
        dsimp only
        simp only [Bool.and_eq_true, decide_eq_true_eq, and_assoc]
      by_cases hg : r1 = r2 ∧ t2 < t1
      · obtain ⟨rfl, hg⟩ := hg
        have e : ∀ b, b < B → sm (fun r => sm (fun t => sm (fun k => if wh b r t = some u ∧ wh b r k = some l ∧ pcb a p u l b = true then 1 else 0) t) T) R = if (b = b1 ∨ ((a u).1 = 40 ∧ b = b1 + 1)) ∧ (b = b2 ∨ ((a l).1 = 40 ∧ b = b2 + 1)) ∧ pcb a p u l b = true then 1 else 0 := by
          intro b _
          refine (sm_pick hr1 (fun r _ hr => ?_)).trans ?_
          · exact sm_z (fun t _ => sm_z (fun k _ => if_neg (fun z => hr ((hwu _ _ _).mp z.1).1)))
          refine (sm_pick ht1 (fun t _ ht => ?_)).trans ?_
          · exact sm_z (fun k _ => if_neg (fun z => ht ((hwu _ _ _).mp z.1).2.1))
          refine (sm_pick hg (fun k _ hk => ?_)).trans ?_
          · exact if_neg (fun z => hk ((hwl _ _ _).mp z.2.1).2.1)
          by_cases h : (b = b1 ∨ ((a u).1 = 40 ∧ b = b1 + 1)) ∧ (b = b2 ∨ ((a l).1 = 40 ∧ b = b2 + 1)) ∧ pcb a p u l b = true
          · rw [if_pos h, if_pos ⟨(hwu _ _ _).mpr ⟨rfl, rfl, h.1⟩, (hwl _ _ _).mpr ⟨rfl, rfl, h.2.1⟩, h.2.2⟩]
          · rw [if_neg h, if_neg (fun z => h ⟨((hwu _ _ _).mp z.1).2.2, ((hwl _ _ _).mp z.2.1).2.2, z.2.2⟩)]
        refine (sm_congr e).trans ?_
        by_cases h : (p = 0 ∨ (a l).2.2.1 = p) ∧ ovs a ps u l = true
        · rw [if_pos h]
          obtain ⟨h1, h2⟩ := h
          obtain ⟨_, _, ⟨h3, h4⟩, h5⟩ := hov.mp h2
          have key : ∃ b0, b0 < B ∧ ((b0 = b1 ∨ ((a u).1 = 40 ∧ b0 = b1 + 1)) ∧ (b0 = b2 ∨ ((a l).1 = 40 ∧ b0 = b2 + 1)) ∧ pcb a p u l b0 = true) ∧ ∀ b, ((b = b1 ∨ ((a u).1 = 40 ∧ b = b1 + 1)) ∧ (b = b2 ∨ ((a l).1 = 40 ∧ b = b2 + 1)) ∧ pcb a p u l b = true) → b = b0 := by
            by_cases e1 : (a u).1 = 40
            · have f1 := hf1 e1
              rw [if_pos e1] at h4
              by_cases e2 : (a l).1 = 40
              · have f2 := hf2 e2
                rw [if_pos e2] at h3
                refine ⟨b1, hb1, ⟨Or.inl rfl, Or.inl (by omega), pcb_t.mpr ⟨fun z => by omega, h5, h1⟩⟩, fun b hb => ?_⟩
                have h6 := (pcb_t.mp hb.2.2).1
                have h7 : ¬ b % 2 = 1 := fun z => h6 ⟨e2, e1, z⟩
                omega
              · rw [if_neg e2] at h3
                refine ⟨b2, hb2, ⟨by omega, Or.inl rfl, pcb_t.mpr ⟨fun z => e2 z.1, h5, h1⟩⟩, fun b hb => ?_⟩
                rcases hb.2.1 with h6 | h6
                · exact h6
                · exact absurd h6.1 e2
            · rw [if_neg e1] at h4
              refine ⟨b1, hb1, ⟨Or.inl rfl, ?_, pcb_t.mpr ⟨fun z => e1 z.2.1, h5, h1⟩⟩, fun b hb => ?_⟩
              · by_cases e2 : (a l).1 = 40
                · rw [if_pos e2] at h3
                  omega
                · rw [if_neg e2] at h3
                  omega
              · rcases hb.1 with h6 | h6
                · exact h6
                · exact absurd h6.1 e1
          obtain ⟨b0, k1, k2, k3⟩ := key
          exact sm_1 k1 k2 k3
        · rw [if_neg h]
          refine sm_z (fun b _ => if_neg (fun z => h ?_))
          obtain ⟨z1, z2, z3⟩ := z
          have z4 := pcb_t.mp z3
          refine ⟨z4.2.2, hov.mpr ⟨rfl, hg, ⟨?_, ?_⟩, z4.2.1⟩⟩
          · split <;> omega
          · split <;> omega
      · rw [if_neg (fun z => hg ⟨(hov.mp z.2).1, (hov.mp z.2).2.1⟩)]
        refine sm_z (fun b _ => sm_z (fun r _ => sm_z (fun t _ => sm_z (fun k hk => if_neg (fun z => hg ?_)))))
        have z1 := (hwu _ _ _).mp z.1
        have z2 := (hwl _ _ _).mp z.2.1
        exact ⟨z1.1.symm.trans z2.1, by rw [← z1.2.1, ← z2.2.1]; exact hk⟩
theorem over_eq (H : jj B R T n a ps wh) {p : Nat} : sm (ovl n a ps p) n = sm (oin R T a wh p false) B := by
  have e2 : ∀ b r t, sm (fun k => og a wh p false b r t k) t = sm (fun l => sm (fun u => sm (fun k => gg a wh p b r t k u l) t) n) n := by
    intro b r t
    have s1 : sm (fun k => og a wh p false b r t k) t = sm (fun k => sm (fun u => sm (fun l => gg a wh p b r t k u l) n) n) t := sm_congr (fun k _ => og_sm H.2.1)
    have s2 : sm (fun k => sm (fun u => sm (fun l => gg a wh p b r t k u l) n) n) t = sm (fun u => sm (fun k => sm (fun l => gg a wh p b r t k u l) n) t) n := sm_swap
    have s3 : sm (fun u => sm (fun k => sm (fun l => gg a wh p b r t k u l) n) t) n = sm (fun u => sm (fun l => sm (fun k => gg a wh p b r t k u l) t) n) n := sm_congr (fun u _ => sm_swap)
    have s4 : sm (fun u => sm (fun l => sm (fun k => gg a wh p b r t k u l) t) n) n = sm (fun l => sm (fun u => sm (fun k => gg a wh p b r t k u l) t) n) n := sm_swap
    exact s1.trans (s2.trans (s3.trans s4))
  have e3 : ∀ b r, sm (fun t => sm (fun k => og a wh p false b r t k) t) T = sm (fun l => sm (fun u => sm (fun t => sm (fun k => gg a wh p b r t k u l) t) T) n) n := by
    intro b r
    have s1 : sm (fun t => sm (fun k => og a wh p false b r t k) t) T = sm (fun t => sm (fun l => sm (fun u => sm (fun k => gg a wh p b r t k u l) t) n) n) T := sm_congr (fun t _ => e2 b r t)
    have s2 : sm (fun t => sm (fun l => sm (fun u => sm (fun k => gg a wh p b r t k u l) t) n) n) T = sm (fun l => sm (fun t => sm (fun u => sm (fun k => gg a wh p b r t k u l) t) n) T) n := sm_swap
    have s3 : sm (fun l => sm (fun t => sm (fun u => sm (fun k => gg a wh p b r t k u l) t) n) T) n = sm (fun l => sm (fun u => sm (fun t => sm (fun k => gg a wh p b r t k u l) t) T) n) n := sm_congr (fun l _ => sm_swap)
    exact s1.trans (s2.trans s3)
  have e4 : ∀ b, oin R T a wh p false b = sm (fun l => sm (fun u => sm (fun r => sm (fun t => sm (fun k => gg a wh p b r t k u l) t) T) R) n) n := by
    intro b
    have s1 : oin R T a wh p false b = sm (fun r => sm (fun l => sm (fun u => sm (fun t => sm (fun k => gg a wh p b r t k u l) t) T) n) n) R := sm_congr (fun r _ => e3 b r)
    have s2 : sm (fun r => sm (fun l => sm (fun u => sm (fun t => sm (fun k => gg a wh p b r t k u l) t) T) n) n) R = sm (fun l => sm (fun r => sm (fun u => sm (fun t => sm (fun k => gg a wh p b r t k u l) t) T) n) R) n := sm_swap
    have s3 : sm (fun l => sm (fun r => sm (fun u => sm (fun t => sm (fun k => gg a wh p b r t k u l) t) T) n) R) n = sm (fun l => sm (fun u => sm (fun r => sm (fun t => sm (fun k => gg a wh p b r t k u l) t) T) R) n) n := sm_congr (fun l _ => sm_swap)
    exact s1.trans (s2.trans s3)
  have e5 : sm (oin R T a wh p false) B = sm (fun l => sm (fun u => sm (fun b => sm (fun r => sm (fun t => sm (fun k => gg a wh p b r t k u l) t) T) R) B) n) n := by
    have s1 : sm (oin R T a wh p false) B = sm (fun b => sm (fun l => sm (fun u => sm (fun r => sm (fun t => sm (fun k => gg a wh p b r t k u l) t) T) R) n) n) B := sm_congr (fun b _ => e4 b)
    have s2 : sm (fun b => sm (fun l => sm (fun u => sm (fun r => sm (fun t => sm (fun k => gg a wh p b r t k u l) t) T) R) n) n) B = sm (fun l => sm (fun b => sm (fun u => sm (fun r => sm (fun t => sm (fun k => gg a wh p b r t k u l) t) T) R) n) B) n := sm_swap
    have s3 : sm (fun l => sm (fun b => sm (fun u => sm (fun r => sm (fun t => sm (fun k => gg a wh p b r t k u l) t) T) R) n) B) n = sm (fun l => sm (fun u => sm (fun b => sm (fun r => sm (fun t => sm (fun k => gg a wh p b r t k u l) t) T) R) B) n) n := sm_congr (fun l _ => sm_swap)
    exact s1.trans (s2.trans s3)
  rw [e5]
  refine sm_congr (fun l _ => ?_)
  refine Eq.trans ?_ (sm_congr (fun u _ => (pair_sm H p u l).symm))
  unfold ovl
  by_cases h : p = 0 ∨ (a l).2.2.1 = p
  · rw [if_pos h]
    refine sm_congr (fun u _ => ?_)
    by_cases h2 : ovs a ps u l = true
    · rw [if_pos h2, if_pos ⟨h, h2⟩]
    · rw [if_neg h2, if_neg (fun z => h2 z.2)]
  · rw [if_neg h]
    exact (sm_z (fun u _ => if_neg (fun z => h z.1))).symm
end E3
