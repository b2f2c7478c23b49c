/-! What the pure memory says of a heap. -/
def pm_ren (ad : Nat → Nat) : Value → Value
  | .ref q => .ref (ad q)
  | v => v
def pm_ra (ad : Nat → Nat) (f : (Nat → Int32) ⊕ (Nat → Int64) ⊕ (Nat → UInt32) ⊕ (Nat → UInt64) ⊕ (Nat → Option Nat)) : (Nat → Int32) ⊕ (Nat → Int64) ⊕ (Nat → UInt32) ⊕ (Nat → UInt64) ⊕ (Nat → Option Nat) := match f with
  | .inl f => .inl f
  | .inr (.inl f) => .inr (.inl f)
  | .inr (.inr (.inl f)) => .inr (.inr (.inl f))
  | .inr (.inr (.inr (.inl f))) => .inr (.inr (.inr (.inl f)))
  | .inr (.inr (.inr (.inr f))) => .inr (.inr (.inr (.inr (fun i => (f i).map ad))))
def pm_rc (dA : Nat → ClassId) (ad : Nat → Nat) (c : pm_C) : va_E := match c with
  | .inl (t, (n, f)) => .inl (dA t, (n, pm_ra ad f))
  | .inr (c, fs) => .inr (c, fs.map (pm_ren ad))
def pm_b (M : pm_M) (q : Nat) : Prop := q = 1 ∨ (q % 2 = 0 ∧ q / 2 < M.1.1.1) ∨ (q % 2 = 1 ∧ 1 ≤ q / 2 ∧ q / 2 < M.1.2.1)
def pm_vb (M : pm_M) (v : Value) : Prop := ∀ q, v = .ref q → pm_b M q
def pm_cb (M : pm_M) (c : pm_C) : Prop := match c with
  | .inl (t, (_, f)) => (match f with
    | .inl _ => t = 0 ∨ t = 1
    | .inr (.inl _) => t = 2
    | .inr (.inr (.inr (.inr f))) => t = 3 ∧ ∀ i q, f i = some q → pm_b M q
    | _ => False)
  | .inr (_, fs) => ∀ v ∈ fs, pm_vb M v
theorem pm_set_b (M : pm_M) (q : Nat) (c : pm_C) : (pm_set M q c).1.1.1 = M.1.1.1 ∧ (pm_set M q c).1.2.1 = M.1.2.1 ∧ (pm_set M q c).2 = M.2 := by
  unfold pm_set
  split <;> exact ⟨rfl, rfl, rfl⟩
theorem pm_b_set (M : pm_M) (q : Nat) (c : pm_C) : pm_b (pm_set M q c) = pm_b M := by
  funext x
  obtain ⟨h1, h2, -⟩ := pm_set_b M q c
  unfold pm_b
  rw [h1, h2]
theorem pm_vb_set (M : pm_M) (q : Nat) (c : pm_C) : pm_vb (pm_set M q c) = pm_vb M := by
  funext v
  unfold pm_vb
  rw [pm_b_set]
theorem pm_cb_of {M M' : pm_M} (h : ∀ q, pm_b M q → pm_b M' q) {c : pm_C} (hc : pm_cb M c) : pm_cb M' c := by
  rcases c with ⟨t, n, f⟩ | ⟨c, fs⟩
  · rcases f with f | f | f | f | f
    · exact hc
    · exact hc
    · exact hc
    · exact hc
    · exact ⟨hc.1, fun i q hq => h _ (hc.2 i q hq)⟩
  · exact fun v hv q hq => h _ (hc v hv q hq)
theorem pm_get_set (M : pm_M) (q : Nat) (c : pm_C) (x : Nat) : pm_get (pm_set M q c) x = if x = q then some c else pm_get M x := by
  unfold pm_get pm_set
  by_cases hq : q % 2 = 0
  · rw [if_pos hq]
    by_cases hx : x % 2 = 0
    · simp only [hx, if_true, va_up]
      by_cases h : x = q
      · subst h; simp
      · rw [if_neg (by omega), if_neg h]
    · simp only [hx, if_false]
      rw [if_neg (by omega)]
  · rw [if_neg hq]
    by_cases hx : x % 2 = 0
    · simp only [hx, if_true]
      rw [if_neg (by omega)]
    · simp only [hx, if_false, va_up]
      by_cases h : x = q
      · subst h; simp
      · rw [if_neg (by omega), if_neg h]
theorem pm_get_new (M : pm_M) (r : Bool) (c : pm_C) (n x : Nat) : pm_get (pm_new M r c n) x = if x = pm_at M r then some c else pm_get M x := by
  unfold pm_get pm_new pm_at
  cases r
  · simp only [if_true]
    by_cases hx : x % 2 = 0
    · simp only [hx, if_true, va_up, g0]
      by_cases h : x / 2 = M.1.1.1
      · rw [if_pos h, if_pos (by omega)]
      · rw [if_neg h, if_neg (by omega)]
    · simp only [hx, if_false, g0]
      rw [if_neg (by omega)]
  · simp only [Bool.true_eq_false, if_false]
    by_cases hx : x % 2 = 0
    · simp only [hx, if_true, g1]
      rw [if_neg (by omega)]
    · simp only [hx, if_false, va_up, g1]
      by_cases h : x / 2 = M.1.2.1
      · rw [if_pos h, if_pos (by omega)]
      · rw [if_neg h, if_neg (by omega)]
theorem pm_b_new {M : pm_M} {r : Bool} {c : pm_C} {n q : Nat} (h : pm_b M q) : pm_b (pm_new M r c n) q := by
  unfold pm_b pm_new at *
  cases r <;> simp only [if_true, Bool.true_eq_false, if_false] <;> omega
theorem pm_b_at {M : pm_M} {r : Bool} {c : pm_C} {n : Nat} (h1 : 1 ≤ M.1.2.1) : pm_b (pm_new M r c n) (pm_at M r) := by
  unfold pm_b pm_new pm_at g0 g1
  cases r <;> simp only [if_true, Bool.true_eq_false, if_false] <;> omega
theorem pm_nb_at {M : pm_M} {r : Bool} (h1 : 1 ≤ M.1.2.1) : ¬ pm_b M (pm_at M r) := by
  unfold pm_b pm_at g0 g1
  cases r <;> simp only [if_true, Bool.true_eq_false, if_false] <;> omega
theorem pm_new_1 {M : pm_M} {r : Bool} {c : pm_C} {n : Nat} (h1 : 1 ≤ M.1.2.1) : 1 ≤ (pm_new M r c n).1.2.1 := by
  unfold pm_new
  cases r <;> simp only [if_true, Bool.true_eq_false, if_false] <;> omega
theorem pm_ren_eq {M : pm_M} {ad ad' : Nat → Nat} (h : ∀ q, pm_b M q → ad' q = ad q) {v : Value} (hv : pm_vb M v) : pm_ren ad' v = pm_ren ad v := by
  cases v <;> try rfl
  rename_i q
  show Value.ref (ad' q) = .ref (ad q)
  rw [h q (hv q rfl)]
theorem pm_rens_eq {M : pm_M} {ad ad' : Nat → Nat} (h : ∀ q, pm_b M q → ad' q = ad q) {l : List Value} (hl : ∀ v ∈ l, pm_vb M v) : l.map (pm_ren ad') = l.map (pm_ren ad) :=
  List.map_congr_left (fun v hv => pm_ren_eq h (hl v hv))
theorem pm_rc_eq {M : pm_M} {dA : Nat → ClassId} {ad ad' : Nat → Nat} (h : ∀ q, pm_b M q → ad' q = ad q) {c : pm_C} (hc : pm_cb M c) : pm_rc dA ad' c = pm_rc dA ad c := by
  rcases c with ⟨t, n, f⟩ | ⟨c, fs⟩
  · rcases f with f | f | f | f | f <;> try rfl
    show (Sum.inl (dA t, (n, pm_ra ad' (.inr (.inr (.inr (.inr f))))) ) : va_E) = .inl (dA t, (n, pm_ra ad (.inr (.inr (.inr (.inr f))))))
    have : (fun i => (f i).map ad') = fun i => (f i).map ad := by
      funext i
      cases hi : f i with
      | none => rfl
      | some q => exact congrArg some (h q (hc.2 i q hi))
    simp only [pm_ra, this]
  · show (Sum.inr (c, fs.map (pm_ren ad')) : va_E) = .inr (c, fs.map (pm_ren ad))
    rw [pm_rens_eq h hc]
/-- the pure memory M, its numbers at the addresses ad, in the heap H; b: where the script lies -/
def pm_W (D : va_G) (dA : Nat → ClassId) (b : Nat) (A : Nat → Prop) (ad : Nat → Nat) (M : pm_M) (H : Heap) : Prop :=
  1 ≤ M.1.2.1 ∧ ad 1 = b ∧ (∀ q c, pm_get M q = some c → q ≠ 1 ∧ pm_b M q ∧ pm_cb M c ∧ va_at D pm_cl (ad q, pm_rc dA ad c) H ∧ A (ad q)) ∧ ∀ q q' c c', pm_get M q = some c → pm_get M q' = some c' → ad q = ad q' → q = q'
theorem pm_W.put {D : va_G} {dA : Nat → ClassId} {b : Nat} {A : Nat → Prop} {ad : Nat → Nat} {M : pm_M} {H H1 : Heap} (h : pm_W D dA b A ad M H) {q : Nat} {c c' : pm_C} (hq : pm_get M q = some c) (hc : pm_cb M c') (he : va_at D pm_cl (ad q, pm_rc dA ad c') H1) (oq : ∀ x : Nat, x ≠ ad q → H1[x]? = H[x]?) : pm_W D dA b A ad (pm_set M q c') H1 := by
  obtain ⟨h1, h2, h3, h4⟩ := h
  have hb := pm_b_set M q c'
  have hg : ∀ x y, pm_get (pm_set M q c') x = some y → ∃ z, pm_get M x = some z := by
    intro x y hx
    rw [pm_get_set] at hx
    split at hx
    · rename_i e; exact ⟨c, by rw [e]; exact hq⟩
    · exact ⟨y, hx⟩
  refine ⟨by rw [(pm_set_b M q c').2.1]; exact h1, h2, fun x y hx => ?_, fun x x' y y' hx hx' hxx => ?_⟩
  · obtain ⟨z, hz⟩ := hg x y hx
    obtain ⟨g1, g2, g3, g4, g5⟩ := h3 x z hz
    refine ⟨g1, by rw [hb]; exact g2, ?_, ?_, g5⟩
    · rw [pm_get_set] at hx
      split at hx
      · cases hx
        exact pm_cb_of (fun a ha => by rw [hb]; exact ha) hc
      · rw [hz] at hx
        cases hx
        exact pm_cb_of (fun a ha => by rw [hb]; exact ha) g3
    · rw [pm_get_set] at hx
      split at hx
      · rename_i e
        cases hx
        rw [e]
        exact he
      · rename_i e
        rw [hz] at hx
        cases hx
        exact g4.kept (oq _ (fun e2 => e (h4 x q _ _ hz hq e2)))
  · obtain ⟨z, hz⟩ := hg x y hx
    obtain ⟨z', hz'⟩ := hg x' y' hx'
    exact h4 x x' z z' hz hz' hxx
theorem pm_W.new {D : va_G} {dA : Nat → ClassId} {b : Nat} {A : Nat → Prop} {ad : Nat → Nat} {M : pm_M} {H H1 : Heap} (h : pm_W D dA b A ad M H) (r : Bool) {c : pm_C} {n : Nat} (hc : pm_cb M c) (hb : b < H.size) (he : ∀ ad' : Nat → Nat, (∀ q, pm_b M q → ad' q = ad q) → va_at D pm_cl (H.size, pm_rc dA ad' c) H1) (oq : ∀ x : Nat, x < H.size → H1[x]? = H[x]?) (hA : A H.size) :
    ∃ ad', (∀ q, pm_b M q → ad' q = ad q) ∧ ad' (pm_at M r) = H.size ∧ pm_W D dA b A ad' (pm_new M r c n) H1 := by
  obtain ⟨h1, h2, h3, h4⟩ := h
  have hn := pm_nb_at (r := r) h1
  have hag : ∀ q, pm_b M q → va_up ad (pm_at M r) H.size q = ad q := fun q hq => va_up_ne ad _ (fun e => hn (e ▸ hq))
  have hlt : ∀ q y, pm_get M q = some y → ad q < H.size := fun q y hq => (h3 q y hq).2.2.2.1.lt
  refine ⟨va_up ad (pm_at M r) H.size, hag, va_up_self _ _ _, pm_new_1 h1, ?_, fun x y hx => ?_, fun x x' y y' hx hx' hxx => ?_⟩
  · rw [hag 1 (Or.inl rfl)]; exact h2
  · rw [pm_get_new] at hx
    split at hx
    · rename_i e
      cases hx
      refine ⟨fun e1 => ?_, by rw [e]; exact pm_b_at h1, pm_cb_of (fun a ha => pm_b_new ha) hc, ?_, ?_⟩
      · exact hn (by rw [← e, e1]; exact Or.inl rfl)
      · rw [e, va_up_self]
        exact he _ hag
      · rw [e, va_up_self]; exact hA
    · obtain ⟨g1, g2, g3, g4, g5⟩ := h3 x y hx
      refine ⟨g1, pm_b_new g2, pm_cb_of (fun a ha => pm_b_new ha) g3, ?_, ?_⟩
      · rw [hag x g2, pm_rc_eq hag g3]
        exact g4.kept (oq _ g4.lt)
      · rw [hag x g2]; exact g5
  · rw [pm_get_new] at hx hx'
    split at hx
    · rename_i e
      split at hx'
      · rename_i e'
        rw [e, e']
      · rename_i e'
        have g := (h3 x' y' hx').2.1
        rw [e, va_up_self, hag x' g] at hxx
        exact absurd (hlt x' y' hx') (by omega)
    · rename_i e
      have g := (h3 x y hx).2.1
      split at hx'
      · rename_i e'
        rw [e', va_up_self, hag x g] at hxx
        exact absurd (hlt x y hx) (by omega)
      · have g' := (h3 x' y' hx').2.1
        rw [hag x g, hag x' g'] at hxx
        exact h4 x x' y y' hx hx' hxx
/-- the locals -/
def pm_Lo (nL : Nat) (ad : Nat → Nat) (M : pm_M) (L : List Value) (ls : Array Slot) : Prop :=
  ls.size = nL ∧ L.length = nL ∧ lv_wf ls ∧ (∀ v ∈ L, pm_vb M v) ∧ ∀ (i : Nat) (v : Value), L[i]? = some v → pm_ty v ≠ 9 → ls[i]? = some (Slot.val (pm_ren ad v))
theorem pm_Lo.to {nL : Nat} {ad ad' : Nat → Nat} {M M' : pm_M} {L : List Value} {ls : Array Slot} (h : pm_Lo nL ad M L ls) (h1 : ∀ q, pm_b M q → pm_b M' q) (h2 : ∀ q, pm_b M q → ad' q = ad q) : pm_Lo nL ad' M' L ls := by
  obtain ⟨a, b, c, d, e⟩ := h
  refine ⟨a, b, c, fun v hv q hq => h1 _ (d v hv q hq), fun i v hi hv => ?_⟩
  rw [e i v hi hv, pm_ren_eq h2 (d v (List.mem_of_getElem? hi))]
theorem pm_ren_cat (ad : Nat → Nat) (v : Value) : (pm_ren ad v).category = v.category := by cases v <;> rfl
theorem pm_ty_cat {v : Value} (h : ¬ pm_ty v = 1) (h9 : ¬ pm_ty v = 9) : v.category = 1 := by cases v <;> simp_all [pm_ty, Value.category]
theorem pm_Lo.getD {nL : Nat} {ad : Nat → Nat} {M : pm_M} {L : List Value} {ls : Array Slot} (h : pm_Lo nL ad M L ls) {i : Nat} (hv : pm_ty (L.getD i pm_U) ≠ 9) : ls[i]? = some (.val (pm_ren ad (L.getD i pm_U))) ∧ pm_vb M (L.getD i pm_U) := by
  rw [List.getD_eq_getElem?_getD] at hv ⊢
  cases hi : L[i]? with
  | none => rw [hi] at hv; exact absurd rfl hv
  | some v =>
    rw [hi] at hv
    exact ⟨h.2.2.2.2 i v hi hv, h.2.2.2.1 v (List.mem_of_getElem? hi)⟩
theorem pm_Lo.set1 {nL : Nat} {ad : Nat → Nat} {M : pm_M} {L : List Value} {ls : Array Slot} (h : pm_Lo nL ad M L ls) {i : Nat} {v : Value} {w : Value} (hi : i < L.length) (hp : ¬ pm_ty (L.getD (i - 1) pm_U) = 1) (hw : w.category = 1) (hv : pm_vb M v) (hvw : pm_ty v ≠ 9 → w = pm_ren ad v) : ∃ ls', storeLocals ls i w = some ls' ∧ pm_Lo nL ad M (L.set i v) ls' := by
  obtain ⟨a, b, c, d, e⟩ := h
  have hi' : i < nL := b ▸ hi
  obtain ⟨ls', h1, h2⟩ := lv_store1 (l := []) (v := w) ⟨a, c, fun q hq => by cases hq⟩ hi' hw
  refine ⟨ls', h1, h2.1, by rw [List.length_set]; exact b, h2.2.1, fun x hx => ?_, fun k x hk hx => ?_⟩
  · rcases List.mem_or_eq_of_mem_set hx with h | h
    · exact d x h
    · rw [h]; exact hv
  · by_cases hki : k = i
    · subst hki
      rw [List.getElem?_set_self hi] at hk
      cases hk
      rw [h2.2.2 (k, w) List.mem_cons_self, hvw hx]
    · rw [List.getElem?_set_ne (Ne.symm hki)] at hk
      obtain ⟨ls2, g1, g2⟩ := lv_store1 (l := [(k, pm_ren ad x)]) (v := w) ⟨a, c, fun q hq => by
        rcases List.mem_singleton.mp hq with rfl
        exact e k x hk hx⟩ hi' hw
      cases Option.some.inj (h1.symm.trans g1)
      refine g2.2.2 (k, pm_ren ad x) (List.mem_cons_of_mem _ (List.mem_filter.mpr ⟨List.mem_singleton.mpr rfl, ?_⟩))
      have n1 : (k == i) = false := by simp [hki]
      simp only [n1, Bool.not_false, Bool.true_and]
      by_cases hk1 : k + 1 = i
      · have hg : L.getD (i - 1) pm_U = x := by
          rw [List.getD_eq_getElem?_getD, show i - 1 = k by omega, hk]; rfl
        rw [hg] at hp
        rw [pm_ren_cat, pm_ty_cat hp hx]
        simp
      · have : (k + 1 == i) = false := by simp [hk1]
        simp [this]
theorem pm_Lo.set2 {nL : Nat} {ad : Nat → Nat} {M : pm_M} {L : List Value} {ls : Array Slot} (h : pm_Lo nL ad M L ls) {i : Nat} {x0 : Int64} (hi : i + 1 < L.length) (hp : ¬ pm_ty (L.getD (i - 1) pm_U) = 1) : ∃ ls', storeLocals ls i (.long x0) = some ls' ∧ pm_Lo nL ad M ((L.set i (.long x0)).set (i + 1) pm_U) ls' := by
  obtain ⟨a, b, c, d, e⟩ := h
  have hi' : i + 1 < nL := b ▸ hi
  obtain ⟨ls', h1, h2⟩ := lv_store2 (l := []) (v := .long x0) ⟨a, c, fun q hq => by cases hq⟩ hi' rfl
  refine ⟨ls', h1, h2.1, by rw [List.length_set, List.length_set]; exact b, h2.2.1, fun x hx => ?_, fun k x hk hx => ?_⟩
  · rcases List.mem_or_eq_of_mem_set hx with h | h
    · rcases List.mem_or_eq_of_mem_set h with h | h
      · exact d x h
      · rw [h]; exact fun q hq => by cases hq
    · rw [h]; exact fun q hq => by cases hq
  · by_cases hk1 : k = i + 1
    · subst hk1
      rw [List.getElem?_set_self (by rw [List.length_set]; exact hi)] at hk
      cases hk
      exact absurd rfl hx
    · rw [List.getElem?_set_ne (Ne.symm hk1)] at hk
      by_cases hki : k = i
      · subst hki
        rw [List.getElem?_set_self (by omega)] at hk
        cases hk
        exact h2.2.2 (k, .long x0) List.mem_cons_self
      · rw [List.getElem?_set_ne (Ne.symm hki)] at hk
        obtain ⟨ls2, g1, g2⟩ := lv_store2 (l := [(k, pm_ren ad x)]) (v := .long x0) ⟨a, c, fun q hq => by
          rcases List.mem_singleton.mp hq with rfl
          exact e k x hk hx⟩ hi' rfl
        cases Option.some.inj (h1.symm.trans g1)
        refine g2.2.2 (k, pm_ren ad x) (List.mem_cons_of_mem _ (List.mem_filter.mpr ⟨List.mem_singleton.mpr rfl, ?_⟩))
        have n1 : (k == i) = false := by simp [hki]
        have n2 : (k == i + 1) = false := by simp [hk1]
        simp only [n1, n2, Bool.not_false, Bool.true_and]
        by_cases hk2 : k + 1 = i
        · have hg : L.getD (i - 1) pm_U = x := by
            rw [List.getD_eq_getElem?_getD, show i - 1 = k by omega, hk]; rfl
          rw [hg] at hp
          rw [pm_ren_cat, pm_ty_cat hp hx]
          simp
        · have : (k + 1 == i) = false := by simp [hk2]
          simp [this]
