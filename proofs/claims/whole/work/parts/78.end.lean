/-! The law, from its start to its end. -/
theorem wn {x : Int32} {N : Nat} (h : w 0 ≤ x ∧ x < w N) (hN : N < 2147483648) : ∃ k, k < N ∧ x = w k := by
  obtain ⟨k, hk, rfl⟩ := w_of h.1
  have h2 := h.2
  rw [w_lt hk hN] at h2
  exact ⟨k, h2, rfl⟩
theorem wr {x : Int32} {lo hi : Nat} (h : w lo ≤ x ∧ x ≤ w hi) (hh : hi < 2147483648) (hl : lo < 2147483648) : ∃ k, (lo ≤ k ∧ k ≤ hi) ∧ x = w k := by
  obtain ⟨k, hk, rfl⟩ := w_of (x := x) (Int32.le_trans (show w 0 ≤ w lo by rw [w_le (by omega) hl]; exact Nat.zero_le _) h.1)
  obtain ⟨h1, h2⟩ := h
  rw [w_le hl hk] at h1
  rw [w_le hk hh] at h2
  exact ⟨k, ⟨h1, h2⟩, rfl⟩
theorem wc {B R T n : Nat} (hz : dz B R T n) {x y z : Int32} (h : w 0 ≤ x ∧ x < w B ∧ w 0 ≤ y ∧ y < w R ∧ w 0 ≤ z ∧ z < w T) : ∃ b r t, b < B ∧ r < R ∧ t < T ∧ x = w b ∧ y = w r ∧ z = w t := by
  obtain ⟨_, hB, _, hR, _, hT, _⟩ := hz
  obtain ⟨b, hb, rfl⟩ := wn ⟨h.1, h.2.1⟩ (by omega)
  obtain ⟨r, hr, rfl⟩ := wn ⟨h.2.2.1, h.2.2.2.1⟩ (by omega)
  obtain ⟨t, ht, rfl⟩ := wn h.2.2.2.2 (by omega)
  exact ⟨b, r, t, hb, hr, ht, rfl, rfl, rfl⟩
theorem w_and (x : Int32) : ∃ k, k < 16 ∧ x &&& w 15 = w k := by
  refine ⟨x.toBitVec.toNat % 16, Nat.mod_lt _ (by omega), ?_⟩
  rw [← Int32.toBitVec_inj, Int32.toBitVec_and, w_bv, w_bv]
  apply BitVec.eq_of_toNat_eq
  rw [BitVec.toNat_and, BitVec.toNat_ofNat, BitVec.toNat_ofNat, Nat.mod_eq_of_lt (show x.toBitVec.toNat % 16 < 2 ^ 32 by omega)]
  exact Nat.and_two_pow_sub_one_eq_mod _ 4
theorem sub5 {a i : Nat} (h : a < 5) (hi : i < 2147483648) : w a - w 5 < w i := by
  rw [Int32.lt_iff_toInt_lt, w_toInt hi]
  have : (w a - w 5).toInt < 0 := by
    match a, h with
    | 0, _ => decide
    | 1, _ => decide
    | 2, _ => decide
    | 3, _ => decide
    | 4, _ => decide
    | a + 5, h => exact absurd h (by omega)
  omega
section LAW
variable {S : pm_S} {d i : Nat} {v5 v6 : Value}
def nxt (S : pm_S) (d i pc : Nat) (v5 v6 : Value) (M : pm_M) : Prop := ∃ (M' : pm_M) (v5' v6' : Value), fr S (d + 20) (9, pc, [.ref 1, .ref (g0 0), .ref (g1 1), .ref (g0 12), .int (w i), v5, v6], []) M = fr S (d + 20) (9, 935, [.ref 1, .ref (g0 0), .ref (g1 1), .ref (g0 12), .int (w i), v5', v6'], []) M' ∧ okm M' ∧ M'.2.1 ≤ M.2.1 + 1 ∧ M'.2.2 ≤ M.2.2 + 9
theorem p0 (hS : S.1 ≤ 2563) (hi : i + 5 ≤ S.1) {Z : pm_M} (hM : okm Z) : nxt S d i 136 v5 v6 Z := by
  obtain ⟨th, B, R, T, n, a, ps, wh, pg, ld, kp, cc, cd, tr, be, ou, ap, my, mc, bs, c, hz, ha, hl, hj, hk9, rfl⟩ := hM
  have hn := hz.2.2.2.2.2.2
  have hB := hz.2.1
  by_cases h : ((S.2 (i + 1) = w 20 ∨ S.2 (i + 1) = w 40) ∧ (w 1 ≤ S.2 (i + 2) ∧ S.2 (i + 2) ≤ w 40) ∧ (w 1 ≤ S.2 (i + 3) ∧ S.2 (i + 3) ≤ w 6) ∧ w 0 ≤ S.2 (i + 4) ∧ S.2 (i + 4) ≤ w 2)
  · obtain ⟨h1, h2, h3, h4⟩ := h
    obtain ⟨s, hs, e1⟩ : ∃ s, (s = 20 ∨ s = 40) ∧ S.2 (i + 1) = w s := h1.elim (fun z => ⟨20, Or.inl rfl, z⟩) (fun z => ⟨40, Or.inr rfl, z⟩)
    obtain ⟨q, hq, e2⟩ := wr h2 (by omega) (by omega)
    obtain ⟨p, hp, e3⟩ := wr h3 (by omega) (by omega)
    obtain ⟨kd, hkd, e4⟩ := wr h4 (by omega) (by omega)
    by_cases h40 : n < 40
    · exact ⟨_, _, _, o0t hS hi hz ha hl hj hk9 hs hq hp hkd.2 h40 e1 e2 e3 e4, okm_mk ⟨hz.1, hz.2.1, hz.2.2.1, hz.2.2.2.1, hz.2.2.2.2.1, hz.2.2.2.2.2.1, h40⟩ (az_box ha hs hq hp hkd.2) hl (jj_box hj _) (kz_box h40 hk9), Nat.le_refl _, Nat.le_refl _⟩
    · exact ⟨_, _, _, o0s hS hi hz ha hl hj hk9 hs hq hp hkd.2 (by omega) e1 e2 e3 e4, okm_mk hz ha hl hj hk9, Nat.le_refl _, Nat.add_le_add_left (by decide) _⟩
  · exact ⟨_, _, _, o0f hS hi hz ha hl hj hk9 h rfl rfl rfl rfl, okm_mk hz ha hl hj hk9, Nat.le_refl _, Nat.add_le_add_left (by decide) _⟩
theorem p1 (hS : S.1 ≤ 2563) (hi : i + 5 ≤ S.1) {Z : pm_M} (hM : okm Z) : nxt S d i 228 v5 v6 Z := by
  obtain ⟨th, B, R, T, n, a, ps, wh, pg, ld, kp, cc, cd, tr, be, ou, ap, my, mc, bs, c, hz, ha, hl, hj, hk9, rfl⟩ := hM
  have hn := hz.2.2.2.2.2.2
  have hB := hz.2.1
  by_cases h : (w 0 ≤ S.2 (i + 2) ∧ S.2 (i + 2) < w B ∧ w 0 ≤ S.2 (i + 3) ∧ S.2 (i + 3) < w R ∧ w 0 ≤ S.2 (i + 4) ∧ S.2 (i + 4) < w T)
  · obtain ⟨b, r, t, hb, hr, ht, e2, e3, e4⟩ := wc hz h
    by_cases h1 : w 0 ≤ S.2 (i + 1) ∧ S.2 (i + 1) < w n
    · obtain ⟨k, hk, e1⟩ := wn h1 (by omega)
      by_cases h2 : (a k).1 = 40 ∧ ¬ (b % 2 = 0 ∧ b + 1 < B)
      · exact ⟨_, _, _, o1x hS hi hz ha hl hj hk9 hk hb hr ht h2 e1 e2 e3 e4, okm_mk hz ha hl hj hk9, Nat.le_refl _, Nat.add_le_add_left (by decide) _⟩
      · by_cases h3 : (ps k).isSome = true ∨ ¬ (wh b r t = none ∧ ((a k).1 = 40 → wh (b + 1) r t = none))
        · exact ⟨_, _, _, o1z hS hi hz ha hl hj hk9 hk hb hr ht h2 h3 e1 e2 e3 e4, okm_mk hz ha hl hj hk9, Nat.le_succ _, Nat.le_add_right _ _⟩
        · have h4 : ps k = none := by
            cases hp : ps k with
            | none => rfl
            | some q => exact absurd (Or.inl (by rw [hp]; rfl)) h3
          have h5 : wh b r t = none ∧ ((a k).1 = 40 → wh (b + 1) r t = none) := Classical.byContradiction (fun z => h3 (Or.inr z))
          have h6 : (a k).1 = 40 → b % 2 = 0 ∧ b + 1 < B := fun q => Classical.byContradiction (fun z => h2 ⟨q, z⟩)
          exact ⟨_, _, _, o1t hS hi hz ha hl hj hk9 hk hb hr ht h2 h3 e1 e2 e3 e4, okm_mk hz ha hl (jj_put hj hk hb hr ht h6 h4 h5.1 h5.2) hk9, Nat.le_succ _, Nat.le_add_right _ _⟩
    · exact ⟨_, _, _, o1m hS hi hz ha hl hj hk9 h1 hb hr ht rfl e2 e3 e4, okm_mk hz ha hl hj hk9, Nat.le_succ _, Nat.le_add_right _ _⟩
  · exact ⟨_, _, _, o1n hS hi hz ha hl hj hk9 h rfl rfl rfl rfl, okm_mk hz ha hl hj hk9, Nat.le_refl _, Nat.add_le_add_left (by decide) _⟩
theorem p2 (hS : S.1 ≤ 2563) (hi : i + 5 ≤ S.1) {Z : pm_M} (hM : okm Z) : nxt S d i 327 v5 v6 Z := by
  obtain ⟨th, B, R, T, n, a, ps, wh, pg, ld, kp, cc, cd, tr, be, ou, ap, my, mc, bs, c, hz, ha, hl, hj, hk9, rfl⟩ := hM
  have hn := hz.2.2.2.2.2.2
  have hB := hz.2.1
  by_cases h1 : w 0 ≤ S.2 (i + 1) ∧ S.2 (i + 1) < w n
  · obtain ⟨k, hk, e1⟩ := wn h1 (by omega)
    cases h : ps k with
    | none => exact ⟨_, _, _, o2n hS hi hz ha hl hj hk9 hk h e1, okm_mk hz ha hl hj hk9, Nat.le_succ _, Nat.le_add_right _ _⟩
    | some q =>
      obtain ⟨b, r, t⟩ := q
      exact ⟨_, _, _, o2t hS hi hz ha hl hj hk9 hk h e1, okm_mk hz ha hl (jj_take hj h) hk9, Nat.le_succ _, Nat.le_add_right _ _⟩
  · exact ⟨_, _, _, o2m hS hi hz ha hl hj hk9 h1 rfl, okm_mk hz ha hl hj hk9, Nat.le_succ _, Nat.le_add_right _ _⟩
theorem p3 (hS : S.1 ≤ 2563) (hi : i + 5 ≤ S.1) {Z : pm_M} (hM : okm Z) : nxt S d i 352 v5 v6 Z := by
  obtain ⟨th, B, R, T, n, a, ps, wh, pg, ld, kp, cc, cd, tr, be, ou, ap, my, mc, bs, c, hz, ha, hl, hj, hk9, rfl⟩ := hM
  have hn := hz.2.2.2.2.2.2
  have hB := hz.2.1
  by_cases h : (w 0 ≤ S.2 (i + 1) ∧ S.2 (i + 1) < w B) ∧ w 1 ≤ S.2 (i + 2) ∧ S.2 (i + 2) ≤ w 200
  · obtain ⟨b, hb, e1⟩ := wn h.1 (by omega)
    obtain ⟨v, hv, e2⟩ := wr h.2 (by omega) (by omega)
    exact ⟨_, _, _, o3t hS hi hz ha hl hj hk9 hb hv e1 e2, okm_mk hz ha (lz_up hl hv.2) hj hk9, Nat.le_succ _, Nat.le_add_right _ _⟩
  · exact ⟨_, _, _, o3n hS hi hz ha hl hj hk9 h rfl rfl, okm_mk hz ha hl hj hk9, Nat.le_succ _, Nat.le_add_right _ _⟩
theorem p4 (hS : S.1 ≤ 2563) (hi : i + 5 ≤ S.1) {Z : pm_M} (hM : okm Z) : nxt S d i 389 v5 v6 Z := by
  obtain ⟨th, B, R, T, n, a, ps, wh, pg, ld, kp, cc, cd, tr, be, ou, ap, my, mc, bs, c, hz, ha, hl, hj, hk9, rfl⟩ := hM
  have hn := hz.2.2.2.2.2.2
  have hB := hz.2.1
  by_cases e4 : S.2 (i + 4) = w 0
  · skip
    by_cases h : (w 0 ≤ S.2 (i + 1) ∧ S.2 (i + 1) < w B ∧ w 0 ≤ S.2 (i + 2) ∧ S.2 (i + 2) < w R ∧ w 0 ≤ S.2 (i + 3) ∧ S.2 (i + 3) < w T)
    · obtain ⟨b, r, t, hb, hr, ht, e1, e2, e3⟩ := wc hz h
      by_cases h2 : pg b r t = false
      · exact ⟨_, _, _, o4zf hS hi hz ha hl hj hk9 hb hr ht h2 e1 e2 e3 e4, okm_mk hz ha hl hj hk9, Nat.le_succ _, Nat.le_add_right _ _⟩
      · exact ⟨_, _, _, o4tf hS hi hz ha hl hj hk9 hb hr ht h2 e1 e2 e3 e4, okm_mk hz ha hl hj hk9, Nat.le_succ _, Nat.le_add_right _ _⟩
    · exact ⟨_, _, _, o4nf hS hi hz ha hl hj hk9 h rfl rfl rfl e4, okm_mk hz ha hl hj hk9, Nat.le_refl _, Nat.add_le_add_left (by decide) _⟩
  · skip
    by_cases h : (w 0 ≤ S.2 (i + 1) ∧ S.2 (i + 1) < w B ∧ w 0 ≤ S.2 (i + 2) ∧ S.2 (i + 2) < w R ∧ w 0 ≤ S.2 (i + 3) ∧ S.2 (i + 3) < w T)
    · obtain ⟨b, r, t, hb, hr, ht, e1, e2, e3⟩ := wc hz h
      by_cases h2 : pg b r t = true
      · exact ⟨_, _, _, o4zt hS hi hz ha hl hj hk9 hb hr ht h2 e1 e2 e3 e4, okm_mk hz ha hl hj hk9, Nat.le_succ _, Nat.le_add_right _ _⟩
      · exact ⟨_, _, _, o4tt hS hi hz ha hl hj hk9 hb hr ht h2 e1 e2 e3 e4, okm_mk hz ha hl hj hk9, Nat.le_succ _, Nat.le_add_right _ _⟩
    · exact ⟨_, _, _, o4nt hS hi hz ha hl hj hk9 h rfl rfl rfl e4, okm_mk hz ha hl hj hk9, Nat.le_refl _, Nat.add_le_add_left (by decide) _⟩
theorem p5 (hS : S.1 ≤ 2563) (hi : i + 5 ≤ S.1) {Z : pm_M} (hM : okm Z) : nxt S d i 504 v5 v6 Z := by
  obtain ⟨th, B, R, T, n, a, ps, wh, pg, ld, kp, cc, cd, tr, be, ou, ap, my, mc, bs, c, hz, ha, hl, hj, hk9, rfl⟩ := hM
  have hn := hz.2.2.2.2.2.2
  have hB := hz.2.1
  by_cases e3 : S.2 (i + 3) = w 0
  · skip
    by_cases h : (w 0 ≤ S.2 (i + 1) ∧ S.2 (i + 1) < w n) ∧ (w 0 ≤ S.2 (i + 2) ∧ S.2 (i + 2) < w n)
    · obtain ⟨k, hk, e1⟩ := wn h.1 (by omega)
      obtain ⟨j, hj2, e2⟩ := wn h.2 (by omega)
      by_cases h2 : k = j ∨ kpb (kp k) j = false
      · exact ⟨_, _, _, o5zf hS hi hz ha hl hj hk9 hk hj2 h2 e1 e2 e3, okm_mk hz ha hl hj hk9, Nat.le_succ _, Nat.le_add_right _ _⟩
      · exact ⟨_, _, _, o5tf hS hi hz ha hl hj hk9 hk hj2 h2 e1 e2 e3, okm_mk hz ha hl hj (kz_apart hn hk9 hk hj2 (fun z => h2 (Or.inl z))), Nat.le_succ _, Nat.le_add_right _ _⟩
    · exact ⟨_, _, _, o5nf hS hi hz ha hl hj hk9 h rfl rfl e3, okm_mk hz ha hl hj hk9, Nat.le_succ _, Nat.le_add_right _ _⟩
  · skip
    by_cases h : (w 0 ≤ S.2 (i + 1) ∧ S.2 (i + 1) < w n) ∧ (w 0 ≤ S.2 (i + 2) ∧ S.2 (i + 2) < w n)
    · obtain ⟨k, hk, e1⟩ := wn h.1 (by omega)
      obtain ⟨j, hj2, e2⟩ := wn h.2 (by omega)
      by_cases h2 : k = j ∨ kpb (kp k) j = true
      · exact ⟨_, _, _, o5zt hS hi hz ha hl hj hk9 hk hj2 h2 e1 e2 e3, okm_mk hz ha hl hj hk9, Nat.le_succ _, Nat.le_add_right _ _⟩
      · exact ⟨_, _, _, o5tt hS hi hz ha hl hj hk9 hk hj2 h2 e1 e2 e3, okm_mk hz ha hl hj (kz_apart hn hk9 hk hj2 (fun z => h2 (Or.inl z))), Nat.le_succ _, Nat.le_add_right _ _⟩
    · exact ⟨_, _, _, o5nt hS hi hz ha hl hj hk9 h rfl rfl e3, okm_mk hz ha hl hj hk9, Nat.le_succ _, Nat.le_add_right _ _⟩
theorem p6 (hS : S.1 ≤ 2563) (hi : i + 5 ≤ S.1) {Z : pm_M} (hM : okm Z) : nxt S d i 569 v5 v6 Z := by
  obtain ⟨th, B, R, T, n, a, ps, wh, pg, ld, kp, cc, cd, tr, be, ou, ap, my, mc, bs, c, hz, ha, hl, hj, hk9, rfl⟩ := hM
  have hn := hz.2.2.2.2.2.2
  have hB := hz.2.1
  exact ⟨_, _, _, o6 hS hi hz ha hl hj hk9, okm_mk hz ha hl hj hk9, Nat.le_succ _, Nat.le_add_right _ _⟩
theorem p7 (hS : S.1 ≤ 2563) (hi : i + 5 ≤ S.1) {Z : pm_M} (hM : okm Z) : nxt S d i 582 v5 v6 Z := by
  obtain ⟨th, B, R, T, n, a, ps, wh, pg, ld, kp, cc, cd, tr, be, ou, ap, my, mc, bs, c, hz, ha, hl, hj, hk9, rfl⟩ := hM
  have hn := hz.2.2.2.2.2.2
  have hB := hz.2.1
  by_cases h : w 0 ≤ S.2 (i + 1) ∧ w 0 ≤ S.2 (i + 2) ∧ S.2 (i + 2) ≤ w 4
  · obtain ⟨l, hl9, e1⟩ := w_of h.1
    obtain ⟨y, hy, e2⟩ := wr h.2 (by omega) (by omega)
    have hy5 : y < 5 := by omega
    cases hf : fw (hm ps wh) (fun k q q' => flt T a wh pg ld (k6m ap a wh k q.1 q.2.1 q.2.2) q' k q.1 q.2.1 q.2.2) ((List.range 80).map de5) l with
    | none => exact ⟨_, _, _, o7z hS hi hz ha hl hj hk9 hl9 hy5 hf e1 e2, okm_mk hz ha hl hj hk9, Nat.le_refl _, Nat.add_le_add_left (by decide) _⟩
    | some z => exact ⟨_, _, _, o7t hS hi hz ha hl hj hk9 hl9 hy5 hf e1 e2, okm_mk hz ha hl hj hk9, Nat.le_succ _, Nat.le_add_right _ _⟩
  · exact ⟨_, _, _, o7n hS hi hz ha hl hj hk9 h rfl rfl, okm_mk hz ha hl hj hk9, Nat.le_refl _, Nat.add_le_add_left (by decide) _⟩
theorem p8 (hS : S.1 ≤ 2563) (hi : i + 5 ≤ S.1) {Z : pm_M} (hM : okm Z) : nxt S d i 650 v5 v6 Z := by
  obtain ⟨th, B, R, T, n, a, ps, wh, pg, ld, kp, cc, cd, tr, be, ou, ap, my, mc, bs, c, hz, ha, hl, hj, hk9, rfl⟩ := hM
  have hn := hz.2.2.2.2.2.2
  have hB := hz.2.1
  by_cases h : w 0 ≤ S.2 (i + 1) ∧ S.2 (i + 1) ≤ w 6
  · obtain ⟨p, hp, e1⟩ := wr h (by omega) (by omega)
    exact ⟨_, _, _, o8t hS hi hz ha hl hj hk9 (show p < 7 by omega) e1, okm_mk hz ha hl hj hk9, Nat.le_succ _, Nat.le_add_right _ _⟩
  · exact ⟨_, _, _, o8n hS hi hz ha hl hj hk9 h rfl, okm_mk hz ha hl hj hk9, Nat.le_refl _, Nat.add_le_add_left (by decide) _⟩
theorem p9 (hS : S.1 ≤ 2563) (hi : i + 5 ≤ S.1) {Z : pm_M} (hM : okm Z) : nxt S d i 706 v5 v6 Z := by
  obtain ⟨th, B, R, T, n, a, ps, wh, pg, ld, kp, cc, cd, tr, be, ou, ap, my, mc, bs, c, hz, ha, hl, hj, hk9, rfl⟩ := hM
  have hn := hz.2.2.2.2.2.2
  have hB := hz.2.1
  by_cases h : w 0 ≤ S.2 (i + 1) ∧ S.2 (i + 1) < w B
  · obtain ⟨b, hb, e1⟩ := wn h (by omega)
    obtain ⟨cc', cd', tr', be', g1⟩ := c20 (S := S) (d := d + 2) (pg := pg) (kp := kp) (cc := cc) (cd := cd) (tr := tr) (be := be) (ou := ou) (X := ((13, MR th B R T n a ps wh pg ld ap my mc bs), c)) hz ha hl hj.1 hj.2.1 hb
    rw [way_eq hz hb hj] at g1
    obtain ⟨my', mc', bs', g2⟩ := m135 (S := S) (d := d + 12) (th := th) (pg := pg) (ap := ap) (my := my) (mc := mc) (bs := bs) (X := ((n + 13, CR B R T n a ((rway T R n b a pg ld ps wh).foldl (lay1 T b) (ps, wh)).1 ((rway T R n b a pg ld ps wh).foldl (lay1 T b) (ps, wh)).2 pg ld kp cc' cd' tr' be' (w (rway T R n b a pg ld ps wh).length).toInt64), c)) hz ha hl hb hj
    exact ⟨_, _, _, o9t hS hi hz ha hl hj hk9 g1 (fun X hX => by rw [hX]; exact g2) e1, okm_mk hz ha hl (jj_fill hb hj) hk9, Nat.le_succ _, Nat.le_add_right _ _⟩
  · exact ⟨_, _, _, o9n hS hi hz ha hl hj hk9 h rfl, okm_mk hz ha hl hj hk9, Nat.le_refl _, Nat.add_le_add_left (by decide) _⟩
theorem p10 (hS : S.1 ≤ 2563) (hi : i + 5 ≤ S.1) {Z : pm_M} (hM : okm Z) : nxt S d i 762 v5 v6 Z := by
  obtain ⟨th, B, R, T, n, a, ps, wh, pg, ld, kp, cc, cd, tr, be, ou, ap, my, mc, bs, c, hz, ha, hl, hj, hk9, rfl⟩ := hM
  have hn := hz.2.2.2.2.2.2
  have hB := hz.2.1
  by_cases h : (w 0 ≤ S.2 (i + 1) ∧ S.2 (i + 1) < w B ∧ w 0 ≤ S.2 (i + 2) ∧ S.2 (i + 2) < w R ∧ w 0 ≤ S.2 (i + 3) ∧ S.2 (i + 3) < w T)
  · obtain ⟨b, r, t, hb, hr, ht, e1, e2, e3⟩ := wc hz h
    exact ⟨_, _, _, o10t hS hi hz ha hl hj hk9 hb hr ht e1 e2 e3, okm_mk hz ha hl hj hk9, Nat.le_succ _, Nat.le_add_right _ _⟩
  · exact ⟨_, _, _, o10n hS hi hz ha hl hj hk9 h rfl rfl rfl, okm_mk hz ha hl hj hk9, Nat.le_refl _, Nat.add_le_add_left (by decide) _⟩
theorem p11 (hS : S.1 ≤ 2563) (hi : i + 5 ≤ S.1) {Z : pm_M} (hM : okm Z) : nxt S d i 842 v5 v6 Z := by
  obtain ⟨th, B, R, T, n, a, ps, wh, pg, ld, kp, cc, cd, tr, be, ou, ap, my, mc, bs, c, hz, ha, hl, hj, hk9, rfl⟩ := hM
  have hn := hz.2.2.2.2.2.2
  have hB := hz.2.1
  by_cases h : w 0 ≤ S.2 (i + 1) ∧ S.2 (i + 1) < w n ∧ w 0 ≤ S.2 (i + 2) ∧ S.2 (i + 2) ≤ w 6
  · obtain ⟨k, hk, e1⟩ := wn ⟨h.1, h.2.1⟩ (by omega)
    obtain ⟨y, hy, e2⟩ := wr h.2.2 (by omega) (by omega)
    exact ⟨_, _, _, o11t hS hi hz ha hl hj hk9 hk (show y < 7 by omega) e1 e2, okm_mk hz ha hl hj hk9, Nat.le_succ _, Nat.le_add_right _ _⟩
  · exact ⟨_, _, _, o11n hS hi hz ha hl hj hk9 h rfl rfl, okm_mk hz ha hl hj hk9, Nat.le_refl _, Nat.add_le_add_left (by decide) _⟩
theorem p12 (hS : S.1 ≤ 2563) (hi : i + 5 ≤ S.1) {Z : pm_M} (hM : okm Z) : nxt S d i 910 v5 v6 Z := by
  obtain ⟨th, B, R, T, n, a, ps, wh, pg, ld, kp, cc, cd, tr, be, ou, ap, my, mc, bs, c, hz, ha, hl, hj, hk9, rfl⟩ := hM
  have hn := hz.2.2.2.2.2.2
  have hB := hz.2.1
  by_cases h : w 0 ≤ S.2 (i + 1)
  · obtain ⟨y, hy, e1⟩ := w_of h
    exact ⟨_, _, _, o12t hS hi hz ha hl hj hk9 hy e1, okm_mk hz ha hl hj hk9, Nat.le_succ _, Nat.le_add_right _ _⟩
  · exact ⟨_, _, _, o12n hS hi hz ha hl hj hk9 h rfl, okm_mk hz ha hl hj hk9, Nat.le_succ _, Nat.le_add_right _ _⟩
theorem px (hS : S.1 ≤ 2563) (hi : i + 5 ≤ S.1) {Z : pm_M} (hM : okm Z) {x : Int32} : ∃ (M' : pm_M) (v5' v6' : Value), fr S (d + 20) (9, 69, [.ref 1, .ref (g0 0), .ref (g1 1), .ref (g0 12), .int (w i), v5, v6], [.int (x &&& w 15)]) Z = fr S (d + 20) (9, 935, [.ref 1, .ref (g0 0), .ref (g1 1), .ref (g0 12), .int (w i), v5', v6'], []) M' ∧ okm M' ∧ M'.2.1 ≤ Z.2.1 + 1 ∧ M'.2.2 ≤ Z.2.2 + 9 := by
  obtain ⟨k, hk, e⟩ := w_and x
  rw [e, f9_69]
  match k, hk with
  | 0, _ => rw [if_neg (by decide)]; exact p0 hS hi hM
  | 1, _ => rw [if_neg (by decide)]; exact p1 hS hi hM
  | 2, _ => rw [if_neg (by decide)]; exact p2 hS hi hM
  | 3, _ => rw [if_neg (by decide)]; exact p3 hS hi hM
  | 4, _ => rw [if_neg (by decide)]; exact p4 hS hi hM
  | 5, _ => rw [if_neg (by decide)]; exact p5 hS hi hM
  | 6, _ => rw [if_neg (by decide)]; exact p6 hS hi hM
  | 7, _ => rw [if_neg (by decide)]; exact p7 hS hi hM
  | 8, _ => rw [if_neg (by decide)]; exact p8 hS hi hM
  | 9, _ => rw [if_neg (by decide)]; exact p9 hS hi hM
  | 10, _ => rw [if_neg (by decide)]; exact p10 hS hi hM
  | 11, _ => rw [if_neg (by decide)]; exact p11 hS hi hM
  | 12, _ => rw [if_neg (by decide)]; exact p12 hS hi hM
  | 13, _ => rw [if_pos (by decide)]; exact ⟨Z, v5, v6, rfl, hM, Nat.le_succ _, Nat.le_add_right _ _⟩
  | 14, _ => rw [if_pos (by decide)]; exact ⟨Z, v5, v6, rfl, hM, Nat.le_succ _, Nat.le_add_right _ _⟩
  | 15, _ => rw [if_pos (by decide)]; exact ⟨Z, v5, v6, rfl, hM, Nat.le_succ _, Nat.le_add_right _ _⟩
  | k + 16, h => exact absurd h (by omega)
set_option maxRecDepth 20000 in
theorem law_e (hS : S.1 ≤ 2563) (hi : S.1 < i + 5) (hi2 : i < 100000) {Z : pm_M} : fr S (d + 20) (9, 53, [.ref 1, .ref (g0 0), .ref (g1 1), .ref (g0 12), .int (w i), v5, v6], []) Z = some (.inl (some (.int (w 1))), Z) := by
  rw [f9_53]
  by_cases h : S.1 < 5
  · simp (disch := first | assumption | exact pm_g0_ne1 _ | exact bn_ne1 _ | exact pm_g1_ne1 _ | omega) only [f9_55, f9_56, f9_57, f9_58, f9_59, f9_941, f9_942, List.getD_cons_zero, List.getD_cons_succ, List.set_cons_zero, List.set_cons_succ, List.length_cons, List.length_nil, pm_ty_i, pm_ty_l, pm_ty_n, pm_ty_r, pm_ty_u, pm_ty_q, pm_fit_i, pm_fit_l, pm_fit_n, pm_fit_r, pm_fit_q, pm_fit3_0, pm_fit3_1, ag_0, ag_s, List.headD_cons, List.cons_append, List.nil_append, Option.toList_some, Option.toList_none, if_true, if_false, ite_true, ite_false, ↓reduceIte, and_true, true_and, and_self, or_true, true_or, or_false, false_or, not_true_eq_false, not_false_eq_true, Nat.reduceLT, Nat.reduceLeDiff, Nat.reduceEqDiff, Nat.reduceAdd, Nat.reduceSub, reduceCtorEq, i_0, i_1, i_2, i_3, i_4, i_5, i_6, i_7, i_8, i_10, i_16, i_20, i_40, i_80, i_200, i_1000, i_m1, w_lt_t, w_lt_f, w_le_t, w_le_f, w_eq_t, w_eq_f, w_add, w_mul, w_sub, w_clamp, w_ne_m1, m1_lt, m1_le, w_lt_m1, w_le_m1, rf_null, rf_none, rf_some, Option.map_none, Option.map_some, Option.bind_some, el_i, el_r, w_div, w_dec0, w_inc_m1, el_l, ev_i, ev_l, ev_n, ev_r, gt_0, gt_1, gt_2, gt_3, gt_4, gt_5, gt_6, gt_7, gt_8, gt_9, gt_10, gt_11, gt_12, ob_0, ob_6, ob_9, gt_b, ob_b, sq_n, sq_r, st_2n, st_2s, st_0, st_4, st_6, st_9, st_12, st_8, st_11, st_5n, st_5s, st_7n, st_7s, st_10n, st_10s, if_pos, if_neg, s9_56, sub5 h]
  · simp (disch := first | assumption | exact pm_g0_ne1 _ | exact bn_ne1 _ | exact pm_g1_ne1 _ | omega) only [f9_55, f9_56, f9_57, f9_58, f9_59, f9_941, f9_942, List.getD_cons_zero, List.getD_cons_succ, List.set_cons_zero, List.set_cons_succ, List.length_cons, List.length_nil, pm_ty_i, pm_ty_l, pm_ty_n, pm_ty_r, pm_ty_u, pm_ty_q, pm_fit_i, pm_fit_l, pm_fit_n, pm_fit_r, pm_fit_q, pm_fit3_0, pm_fit3_1, ag_0, ag_s, List.headD_cons, List.cons_append, List.nil_append, Option.toList_some, Option.toList_none, if_true, if_false, ite_true, ite_false, ↓reduceIte, and_true, true_and, and_self, or_true, true_or, or_false, false_or, not_true_eq_false, not_false_eq_true, Nat.reduceLT, Nat.reduceLeDiff, Nat.reduceEqDiff, Nat.reduceAdd, Nat.reduceSub, reduceCtorEq, i_0, i_1, i_2, i_3, i_4, i_5, i_6, i_7, i_8, i_10, i_16, i_20, i_40, i_80, i_200, i_1000, i_m1, w_lt_t, w_lt_f, w_le_t, w_le_f, w_eq_t, w_eq_f, w_add, w_mul, w_sub, w_clamp, w_ne_m1, m1_lt, m1_le, w_lt_m1, w_le_m1, rf_null, rf_none, rf_some, Option.map_none, Option.map_some, Option.bind_some, el_i, el_r, w_div, w_dec0, w_inc_m1, el_l, ev_i, ev_l, ev_n, ev_r, gt_0, gt_1, gt_2, gt_3, gt_4, gt_5, gt_6, gt_7, gt_8, gt_9, gt_10, gt_11, gt_12, ob_0, ob_6, ob_9, gt_b, ob_b, sq_n, sq_r, st_2n, st_2s, st_0, st_4, st_6, st_9, st_12, st_8, st_11, st_5n, st_5s, st_7n, st_7s, st_10n, st_10s, if_pos, if_neg, s9_56]
set_option maxRecDepth 20000 in
theorem law_s (hS : S.1 ≤ 2563) (hi : i + 5 ≤ S.1) {Z : pm_M} : fr S (d + 20) (9, 53, [.ref 1, .ref (g0 0), .ref (g1 1), .ref (g0 12), .int (w i), v5, v6], []) Z = fr S (d + 20) (9, 69, [.ref 1, .ref (g0 0), .ref (g1 1), .ref (g0 12), .int (w i), v5, v6], [.int (S.2 i &&& w 15)]) Z := by
  rw [f9_53]
  simp (disch := first | assumption | exact pm_g0_ne1 _ | exact bn_ne1 _ | exact pm_g1_ne1 _ | omega) only [f9_55, f9_56, f9_57, f9_58, f9_59, f9_62, f9_63, f9_65, f9_66, f9_68, List.getD_cons_zero, List.getD_cons_succ, List.set_cons_zero, List.set_cons_succ, List.length_cons, List.length_nil, pm_ty_i, pm_ty_l, pm_ty_n, pm_ty_r, pm_ty_u, pm_ty_q, pm_fit_i, pm_fit_l, pm_fit_n, pm_fit_r, pm_fit_q, pm_fit3_0, pm_fit3_1, ag_0, ag_s, List.headD_cons, List.cons_append, List.nil_append, Option.toList_some, Option.toList_none, if_true, if_false, ite_true, ite_false, ↓reduceIte, and_true, true_and, and_self, or_true, true_or, or_false, false_or, not_true_eq_false, not_false_eq_true, Nat.reduceLT, Nat.reduceLeDiff, Nat.reduceEqDiff, Nat.reduceAdd, Nat.reduceSub, reduceCtorEq, i_0, i_1, i_2, i_3, i_4, i_5, i_6, i_7, i_8, i_10, i_16, i_20, i_40, i_80, i_200, i_1000, i_m1, w_lt_t, w_lt_f, w_le_t, w_le_f, w_eq_t, w_eq_f, w_add, w_mul, w_sub, w_clamp, w_ne_m1, m1_lt, m1_le, w_lt_m1, w_le_m1, rf_null, rf_none, rf_some, Option.map_none, Option.map_some, Option.bind_some, el_i, el_r, w_div, w_dec0, w_inc_m1, el_l, ev_i, ev_l, ev_n, ev_r, gt_0, gt_1, gt_2, gt_3, gt_4, gt_5, gt_6, gt_7, gt_8, gt_9, gt_10, gt_11, gt_12, ob_0, ob_6, ob_9, gt_b, ob_b, sq_n, sq_r, st_2n, st_2s, st_0, st_4, st_6, st_9, st_12, st_8, st_11, st_5n, st_5s, st_7n, st_7s, st_10n, st_10s, if_pos, if_neg, s9_56, s9_65 hS, i_15]
set_option maxRecDepth 20000 in
theorem law_j {Z : pm_M} : fr S (d + 20) (9, 935, [.ref 1, .ref (g0 0), .ref (g1 1), .ref (g0 12), .int (w i), v5, v6], []) Z = fr S (d + 20) (9, 53, [.ref 1, .ref (g0 0), .ref (g1 1), .ref (g0 12), .int (w (i + 5)), v5, v6], []) Z := by
  simp (disch := first | assumption | exact pm_g0_ne1 _ | exact bn_ne1 _ | exact pm_g1_ne1 _ | omega) only [f9_935, f9_938, List.getD_cons_zero, List.getD_cons_succ, List.set_cons_zero, List.set_cons_succ, List.length_cons, List.length_nil, pm_ty_i, pm_ty_l, pm_ty_n, pm_ty_r, pm_ty_u, pm_ty_q, pm_fit_i, pm_fit_l, pm_fit_n, pm_fit_r, pm_fit_q, pm_fit3_0, pm_fit3_1, ag_0, ag_s, List.headD_cons, List.cons_append, List.nil_append, Option.toList_some, Option.toList_none, if_true, if_false, ite_true, ite_false, ↓reduceIte, and_true, true_and, and_self, or_true, true_or, or_false, false_or, not_true_eq_false, not_false_eq_true, Nat.reduceLT, Nat.reduceLeDiff, Nat.reduceEqDiff, Nat.reduceAdd, Nat.reduceSub, reduceCtorEq, i_0, i_1, i_2, i_3, i_4, i_5, i_6, i_7, i_8, i_10, i_16, i_20, i_40, i_80, i_200, i_1000, i_m1, w_lt_t, w_lt_f, w_le_t, w_le_f, w_eq_t, w_eq_f, w_add, w_mul, w_sub, w_clamp, w_ne_m1, m1_lt, m1_le, w_lt_m1, w_le_m1, rf_null, rf_none, rf_some, Option.map_none, Option.map_some, Option.bind_some, el_i, el_r, w_div, w_dec0, w_inc_m1, el_l, ev_i, ev_l, ev_n, ev_r, gt_0, gt_1, gt_2, gt_3, gt_4, gt_5, gt_6, gt_7, gt_8, gt_9, gt_10, gt_11, gt_12, ob_0, ob_6, ob_9, gt_b, ob_b, sq_n, sq_r, st_2n, st_2s, st_0, st_4, st_6, st_9, st_12, st_8, st_11, st_5n, st_5s, st_7n, st_7s, st_10n, st_10s, if_pos, if_neg]
theorem law_l (hS : S.1 ≤ 2563) : ∀ (m i : Nat) (M : pm_M) (v5 v6 : Value), i + 5 * m < 90000 → S.1 < i + 5 * m + 5 → okm M → ∃ M' : pm_M, fr S (d + 20) (9, 53, [.ref 1, .ref (g0 0), .ref (g1 1), .ref (g0 12), .int (w i), v5, v6], []) M = some (.inl (some (.int (w 1))), M') ∧ M'.2.1 ≤ M.2.1 + m ∧ M'.2.2 ≤ M.2.2 + 9 * m := by
  intro m
  induction m with
  | zero =>
    intro i M v5 v6 h1 h2 hM
    exact ⟨M, law_e hS (by omega) (by omega), Nat.le_refl _, Nat.le_refl _⟩
  | succ m ih =>
    intro i M v5 v6 h1 h2 hM
    by_cases h : S.1 < i + 5
    · exact ⟨M, law_e hS h (by omega), by omega, by omega⟩
    · obtain ⟨M1, v5', v6', g4, g1, g2, g3⟩ := px (S := S) (d := d) (v5 := v5) (v6 := v6) hS (i := i) (by omega) hM (x := S.2 i)
      obtain ⟨M2, k1, k2, k3⟩ := ih (i + 5) M1 v5' v6' (by omega) (by omega) g1
      exact ⟨M2, ((law_s hS (by omega)).trans (g4.trans law_j)).trans k1, by omega, by omega⟩
theorem k1_at0 {l : List (Option pm_C)} {N : Nat} {f : Nat → Option pm_C} {c : Nat × Nat} : pm_at (K1 l ((N, f), c)) false = g0 N := rfl
theorem m0_at : pm_at pm_M0 false = g0 0 := rfl
set_option maxRecDepth 20000 in
theorem pro (hS : S.1 ≤ 2563) : ∃ c : Nat × Nat, fr S (d + 20) (9, 0, [.ref 1, pm_U, pm_U, pm_U, pm_U, pm_U, pm_U], []) pm_M0 = fr S (d + 20) (9, 53, [.ref 1, .ref (g0 0), .ref (g1 1), .ref (g0 12), .int (w 3), pm_U, pm_U], []) (CM (hd (sv S 0) 4) (hd (sv S 1) 4) (hd (sv S 2) 5) 0 (fun _ => (20, 1, 1, 0)) (fun _ => none) (fun _ _ _ => none) (fun _ _ _ => false) ld0 (fun _ => 0) 0 (fun _ => none) (0, 0, fun _ => none, fun _ => 0) (0, 0, fun _ => none, fun _ => 0) 0 ((13, MR 0 (hd (sv S 0) 4) (hd (sv S 1) 4) (hd (sv S 2) 5) 0 (fun _ => (20, 1, 1, 0)) (fun _ => none) (fun _ _ _ => none) (fun _ _ _ => false) ld0 (fun _ _ => false) (fun _ => 0) 0 (fun _ => 0)), (c.1 + 1, c.2 + 1))) ∧ c.1 ≤ 100 ∧ c.2 ≤ 5000 := by
  have hB := hd_ok (sv S 0) (hi := 4) (by omega)
  have hR := hd_ok (sv S 1) (hi := 4) (by omega)
  have hT := hd_ok (sv S 2) (hi := 5) (by omega)
  have h80 : hd (sv S 0) 4 * hd (sv S 1) 4 * hd (sv S 2) 5 ≤ 80 := ci_80 (n := 0) ⟨hB.1, hB.2, hR.1, hR.2, hT.1, hT.2, by omega⟩
  simp (disch := first | assumption | exact pm_g0_ne1 _ | exact bn_ne1 _ | exact pm_g1_ne1 _ | omega) only [f9_0, f9_3, f9_4, f9_5, f9_6, f9_9, f9_10, f9_11, f9_14, f9_15, f9_16, f9_19, f9_22, f9_23, f9_26, f9_27, f9_28, f9_29, f9_32, f9_33, f9_34, f9_37, f9_38, f9_39, f9_42, f9_45, f9_46, f9_47, f9_49, f9_50, f9_51, List.getD_cons_zero, List.getD_cons_succ, List.set_cons_zero, List.set_cons_succ, List.length_cons, List.length_nil, pm_ty_i, pm_ty_l, pm_ty_n, pm_ty_r, pm_ty_u, pm_ty_q, pm_fit_i, pm_fit_l, pm_fit_n, pm_fit_r, pm_fit_q, pm_fit3_0, pm_fit3_1, ag_0, ag_s, List.headD_cons, List.cons_append, List.nil_append, Option.toList_some, Option.toList_none, if_true, if_false, ite_true, ite_false, ↓reduceIte, and_true, true_and, and_self, or_true, true_or, or_false, false_or, not_true_eq_false, not_false_eq_true, Nat.reduceLT, Nat.reduceLeDiff, Nat.reduceEqDiff, Nat.reduceAdd, Nat.reduceSub, reduceCtorEq, i_0, i_1, i_2, i_3, i_4, i_5, i_6, i_7, i_8, i_10, i_16, i_20, i_40, i_80, i_200, i_1000, i_m1, w_lt_t, w_lt_f, w_le_t, w_le_f, w_eq_t, w_eq_f, w_add, w_mul, w_sub, w_clamp, w_ne_m1, m1_lt, m1_le, w_lt_m1, w_le_m1, rf_null, rf_none, rf_some, Option.map_none, Option.map_some, Option.bind_some, el_i, el_r, w_div, w_dec0, w_inc_m1, el_l, ev_i, ev_l, ev_n, ev_r, gt_0, gt_1, gt_2, gt_3, gt_4, gt_5, gt_6, gt_7, gt_8, gt_9, gt_10, gt_11, gt_12, ob_0, ob_6, ob_9, gt_b, ob_b, sq_n, sq_r, st_2n, st_2s, st_0, st_4, st_6, st_9, st_12, st_8, st_11, st_5n, st_5s, st_7n, st_7s, st_10n, st_10s, if_pos, if_neg, l0 hS, m0_at, start_k0, c10, start_at, start_k1, m100, start_eq, pm_obj, k0_get, k1_get, decide_true, k1_at0]
  refine ⟨(24, 52 + hd (sv S 0) 4 * hd (sv S 1) 4 * hd (sv S 2) 5 + hd (sv S 0) 4 * hd (sv S 1) 4 * hd (sv S 2) 5 + 4 + 4 + 4 + 4 + 4 + 4 + 4 + 4 + 17 + 40 + 40 + 40 + 40 + 40 + 80 + 80 + 4 + 1600 + 4 + 4), rfl, ?_, ?_⟩
  · show 24 ≤ 100
    omega
  · show 52 + hd (sv S 0) 4 * hd (sv S 1) 4 * hd (sv S 2) 5 + hd (sv S 0) 4 * hd (sv S 1) 4 * hd (sv S 2) 5 + 4 + 4 + 4 + 4 + 4 + 4 + 4 + 4 + 17 + 40 + 40 + 40 + 40 + 40 + 80 + 80 + 4 + 1600 + 4 + 4 ≤ 5000
    omega
end LAW
