/-! The tables checked against the words of the Statement. -/
def pm_gw : List Cond := lw_tbl.filter goodWord
def pm_isN : Cond → Bool
  | .declares _ => true
  | .castable _ _ => true
  | .methodLinkNest _ _ _ _ => true
  | _ => false
def pm_nw : List Cond := tables_1.filter pm_isN
def pm_inT (w : Cond) : Bool := decide (w ∈ lw_tbl) && goodWord w
theorem pm_inT_mem {w : Cond} (h : pm_inT w = true) : w ∈ pm_gw := by
  simp only [pm_inT, Bool.and_eq_true, decide_eq_true_eq] at h
  exact List.mem_filter.mpr h
def pm_inN (w : Cond) : Bool := decide (w ∈ tables_1) && pm_isN w
theorem pm_inN_mem {w : Cond} (h : pm_inN w = true) : w ∈ pm_nw := by
  simp only [pm_inN, Bool.and_eq_true, decide_eq_true_eq] at h
  exact List.mem_filter.mpr h
def pm_in (j pc : Nat) (q : Instr × Nat × Nat) : Prop := ∃ x : pm_I, pm_lk pm_ms j = some x ∧ decode x.2.1 pc = .ok (q.1, q.2.1 - pc) ∧ pm_tok pc q = true
set_option maxRecDepth 20000 in
theorem pm_tabs_ok : ∀ q ∈ pm_tabs, ∃ x : pm_I, pm_lk pm_ms q.1 = some x ∧ q.2.all (fun r => decide (decode x.2.1 r.1 = .ok (r.2.1, r.2.2.1 - r.1)) && pm_tok r.1 r.2) = true := by
  unfold pm_tabs
  exact List.forall_mem_cons.mpr ⟨⟨_, rfl, pm_k0⟩, List.forall_mem_cons.mpr ⟨⟨_, rfl, pm_k1⟩, List.forall_mem_cons.mpr ⟨⟨_, rfl, pm_k2⟩, List.forall_mem_cons.mpr ⟨⟨_, rfl, pm_k3⟩, List.forall_mem_cons.mpr ⟨⟨_, rfl, pm_k4⟩, List.forall_mem_cons.mpr ⟨⟨_, rfl, pm_k5⟩, List.forall_mem_cons.mpr ⟨⟨_, rfl, pm_k6⟩, List.forall_mem_cons.mpr ⟨⟨_, rfl, pm_k7⟩, List.forall_mem_cons.mpr ⟨⟨_, rfl, pm_k8⟩, List.forall_mem_cons.mpr ⟨⟨_, rfl, pm_k9⟩, List.forall_mem_cons.mpr ⟨⟨_, rfl, pm_k10⟩, List.forall_mem_cons.mpr ⟨⟨_, rfl, pm_k11⟩, List.forall_mem_cons.mpr ⟨⟨_, rfl, pm_k12⟩, List.forall_mem_cons.mpr ⟨⟨_, rfl, pm_k13⟩, List.forall_mem_cons.mpr ⟨⟨_, rfl, pm_k14⟩, List.forall_mem_cons.mpr ⟨⟨_, rfl, pm_k15⟩, List.forall_mem_cons.mpr ⟨⟨_, rfl, pm_k16⟩, List.forall_mem_cons.mpr ⟨⟨_, rfl, pm_k17⟩, List.forall_mem_cons.mpr ⟨⟨_, rfl, pm_k18⟩, List.forall_mem_cons.mpr ⟨⟨_, rfl, pm_k19⟩, List.forall_mem_cons.mpr ⟨⟨_, rfl, pm_k20⟩, List.forall_mem_cons.mpr ⟨⟨_, rfl, pm_k21⟩, List.forall_mem_cons.mpr ⟨⟨_, rfl, pm_k22⟩, List.forall_mem_cons.mpr ⟨⟨_, rfl, pm_k23⟩, List.forall_mem_cons.mpr ⟨⟨_, rfl, pm_k24⟩, List.forall_mem_cons.mpr ⟨⟨_, rfl, pm_k25⟩, List.forall_mem_cons.mpr ⟨⟨_, rfl, pm_k26⟩, List.forall_mem_cons.mpr ⟨⟨_, rfl, pm_k27⟩, List.forall_mem_cons.mpr ⟨⟨_, rfl, pm_k28⟩, List.forall_mem_cons.mpr ⟨⟨_, rfl, pm_k29⟩, List.forall_mem_cons.mpr ⟨⟨_, rfl, pm_k30⟩, List.forall_mem_cons.mpr ⟨⟨_, rfl, pm_k31⟩, List.forall_mem_cons.mpr ⟨⟨_, rfl, pm_k32⟩, List.forall_mem_cons.mpr ⟨⟨_, rfl, pm_k33⟩, List.forall_mem_cons.mpr ⟨⟨_, rfl, pm_k34⟩, List.forall_mem_cons.mpr ⟨⟨_, rfl, pm_k35⟩, List.forall_mem_cons.mpr ⟨⟨_, rfl, pm_k36⟩, List.forall_mem_cons.mpr ⟨⟨_, rfl, pm_k37⟩, List.forall_mem_cons.mpr ⟨⟨_, rfl, pm_k38⟩, List.forall_mem_cons.mpr ⟨⟨_, rfl, pm_k39⟩, List.forall_mem_cons.mpr ⟨⟨_, rfl, pm_k40⟩, List.forall_mem_cons.mpr ⟨⟨_, rfl, pm_k41⟩, List.forall_mem_cons.mpr ⟨⟨_, rfl, pm_k42⟩, List.forall_mem_cons.mpr ⟨⟨_, rfl, pm_k43⟩, List.forall_mem_cons.mpr ⟨⟨_, rfl, pm_k44⟩, List.forall_mem_cons.mpr ⟨⟨_, rfl, pm_k45⟩, List.forall_mem_cons.mpr ⟨⟨_, rfl, pm_k46⟩, List.forall_mem_cons.mpr ⟨⟨_, rfl, pm_k47⟩, List.forall_mem_cons.mpr ⟨⟨_, rfl, pm_k48⟩, List.forall_mem_cons.mpr ⟨⟨_, rfl, pm_k49⟩, List.forall_mem_cons.mpr ⟨⟨_, rfl, pm_k50⟩, List.forall_mem_cons.mpr ⟨⟨_, rfl, pm_k51⟩, List.forall_mem_cons.mpr ⟨⟨_, rfl, pm_k52⟩, List.forall_mem_cons.mpr ⟨⟨_, rfl, pm_k53⟩, List.forall_mem_cons.mpr ⟨⟨_, rfl, pm_k54⟩, List.forall_mem_cons.mpr ⟨⟨_, rfl, pm_k55⟩, List.forall_mem_cons.mpr ⟨⟨_, rfl, pm_k56⟩, List.forall_mem_cons.mpr ⟨⟨_, rfl, pm_k57⟩, List.forall_mem_cons.mpr ⟨⟨_, rfl, pm_k60⟩, List.forall_mem_cons.mpr ⟨⟨_, rfl, pm_k61⟩, List.forall_mem_cons.mpr ⟨⟨_, rfl, pm_k62⟩, List.forall_mem_cons.mpr ⟨⟨_, rfl, pm_k63⟩, List.forall_mem_cons.mpr ⟨⟨_, rfl, pm_k64⟩, List.forall_mem_cons.mpr ⟨⟨_, rfl, pm_k65⟩, List.forall_mem_cons.mpr ⟨⟨_, rfl, pm_k66⟩, List.forall_mem_cons.mpr ⟨⟨_, rfl, pm_k67⟩, List.forall_mem_cons.mpr ⟨⟨_, rfl, pm_k68⟩, List.forall_mem_cons.mpr ⟨⟨_, rfl, pm_k69⟩, List.forall_mem_cons.mpr ⟨⟨_, rfl, pm_k70⟩, List.forall_mem_cons.mpr ⟨⟨_, rfl, pm_k75⟩, List.forall_mem_cons.mpr ⟨⟨_, rfl, pm_k76⟩, List.forall_mem_cons.mpr ⟨⟨_, rfl, pm_k77⟩, List.forall_mem_cons.mpr ⟨⟨_, rfl, pm_k78⟩, List.forall_mem_cons.mpr ⟨⟨_, rfl, pm_k79⟩, List.forall_mem_cons.mpr ⟨⟨_, rfl, pm_k80⟩, List.forall_mem_cons.mpr ⟨⟨_, rfl, pm_k81⟩, List.forall_mem_cons.mpr ⟨⟨_, rfl, pm_k82⟩, List.forall_mem_cons.mpr ⟨⟨_, rfl, pm_k100⟩, List.forall_mem_cons.mpr ⟨⟨_, rfl, pm_k101⟩, List.forall_mem_cons.mpr ⟨⟨_, rfl, pm_k102⟩, List.forall_mem_cons.mpr ⟨⟨_, rfl, pm_k103⟩, List.forall_mem_cons.mpr ⟨⟨_, rfl, pm_k104⟩, List.forall_mem_cons.mpr ⟨⟨_, rfl, pm_k105⟩, List.forall_mem_cons.mpr ⟨⟨_, rfl, pm_k106⟩, List.forall_mem_cons.mpr ⟨⟨_, rfl, pm_k107⟩, List.forall_mem_cons.mpr ⟨⟨_, rfl, pm_k108⟩, List.forall_mem_cons.mpr ⟨⟨_, rfl, pm_k109⟩, List.forall_mem_cons.mpr ⟨⟨_, rfl, pm_k110⟩, List.forall_mem_cons.mpr ⟨⟨_, rfl, pm_k111⟩, List.forall_mem_cons.mpr ⟨⟨_, rfl, pm_k112⟩, List.forall_mem_cons.mpr ⟨⟨_, rfl, pm_k113⟩, List.forall_mem_cons.mpr ⟨⟨_, rfl, pm_k114⟩, List.forall_mem_cons.mpr ⟨⟨_, rfl, pm_k115⟩, List.forall_mem_cons.mpr ⟨⟨_, rfl, pm_k116⟩, List.forall_mem_cons.mpr ⟨⟨_, rfl, pm_k117⟩, List.forall_mem_cons.mpr ⟨⟨_, rfl, pm_k118⟩, List.forall_mem_cons.mpr ⟨⟨_, rfl, pm_k119⟩, List.forall_mem_cons.mpr ⟨⟨_, rfl, pm_k120⟩, List.forall_mem_cons.mpr ⟨⟨_, rfl, pm_k121⟩, List.forall_mem_cons.mpr ⟨⟨_, rfl, pm_k122⟩, List.forall_mem_cons.mpr ⟨⟨_, rfl, pm_k123⟩, List.forall_mem_cons.mpr ⟨⟨_, rfl, pm_k124⟩, List.forall_mem_cons.mpr ⟨⟨_, rfl, pm_k125⟩, List.forall_mem_cons.mpr ⟨⟨_, rfl, pm_k126⟩, List.forall_mem_cons.mpr ⟨⟨_, rfl, pm_k127⟩, List.forall_mem_cons.mpr ⟨⟨_, rfl, pm_k128⟩, List.forall_mem_cons.mpr ⟨⟨_, rfl, pm_k129⟩, List.forall_mem_cons.mpr ⟨⟨_, rfl, pm_k130⟩, List.forall_mem_cons.mpr ⟨⟨_, rfl, pm_k131⟩, List.forall_mem_cons.mpr ⟨⟨_, rfl, pm_k132⟩, List.forall_mem_cons.mpr ⟨⟨_, rfl, pm_k133⟩, List.forall_mem_cons.mpr ⟨⟨_, rfl, pm_k134⟩, List.forall_mem_cons.mpr ⟨⟨_, rfl, pm_k135⟩, List.forall_mem_cons.mpr ⟨⟨_, rfl, pm_k136⟩, List.forall_mem_cons.mpr ⟨⟨_, rfl, pm_k137⟩, List.forall_mem_cons.mpr ⟨⟨_, rfl, pm_k138⟩, List.forall_mem_cons.mpr ⟨⟨_, rfl, pm_k139⟩, fun _ h => absurd h List.not_mem_nil⟩⟩⟩⟩⟩⟩⟩⟩⟩⟩⟩⟩⟩⟩⟩⟩⟩⟩⟩⟩⟩⟩⟩⟩⟩⟩⟩⟩⟩⟩⟩⟩⟩⟩⟩⟩⟩⟩⟩⟩⟩⟩⟩⟩⟩⟩⟩⟩⟩⟩⟩⟩⟩⟩⟩⟩⟩⟩⟩⟩⟩⟩⟩⟩⟩⟩⟩⟩⟩⟩⟩⟩⟩⟩⟩⟩⟩⟩⟩⟩⟩⟩⟩⟩⟩⟩⟩⟩⟩⟩⟩⟩⟩⟩⟩⟩⟩⟩⟩⟩⟩⟩⟩⟩⟩⟩⟩⟩⟩⟩⟩⟩⟩⟩⟩⟩⟩
theorem pm_ins_mem {j pc : Nat} {q : Instr × Nat × Nat} (h : pm_ins j pc = some q) : ∃ t, (j, t) ∈ pm_tabs ∧ (pc, q) ∈ t := by
  unfold pm_ins at h
  cases h1 : pm_lk pm_tabs j with
  | none => rw [h1] at h; cases h
  | some t =>
    rw [h1] at h
    exact ⟨t, pm_lk_mem _ _ _ h1, pm_lk_mem _ _ _ h⟩
theorem pm_ins_ok {j pc : Nat} {q : Instr × Nat × Nat} (h : pm_ins j pc = some q) : pm_in j pc q := by
  obtain ⟨t, h1, h2⟩ := pm_ins_mem h
  obtain ⟨x, h3, h4⟩ := pm_tabs_ok _ h1
  have h5 := List.all_eq_true.mp h4 _ h2
  simp only [Bool.and_eq_true, decide_eq_true_eq] at h5
  exact ⟨x, h3, h5.1, h5.2⟩
/-- fields -/
def pm_fk (d : String) : Nat := if d = "I" then 0 else if d = "J" then 1 else if d = "Z" then 3 else 2
def pm_fchk (q : Nat × Nat × Nat × Nat) : Bool := match pm_cl[q.2.1]? with
  | some (C, T, N) => decide (q.2.2.1 < N) && pm_inT (.fieldLink (pm_cn (q.1 / 1000)) (q.1 % 1000) (T q.2.2.1).1 (T q.2.2.1).2.1 (T q.2.2.1).2.2.1) && decide (pm_fk (T q.2.2.1).2.2.1 = q.2.2.2)
  | none => false
theorem pm_ftab_ok : pm_ftab.all pm_fchk = true := by decide +kernel
/-- a final field is written by a constructor of its own class alone -/
def pm_pfk (j : Nat) (i : Instr) : Bool := match i with
  | .putfield x => (match pm_lk pm_ftab (1000 * pm_own j + x) with
    | some (ci, k, _) => (match pm_cl[ci]?, pm_lk pm_ms j with
      | some (_, T, _), some y => !(T k).2.2.2 || (decide (y.1.name = "<init>") && decide ((T k).1 = pm_cn (pm_own j)))
      | _, _ => false)
    | none => true)
  | _ => true
theorem pm_pf_ok : pm_tabs.all (fun q => q.2.all (fun r => pm_pfk q.1 r.2.1)) = true := by decide +kernel
/-- what a method's own words are: without handlers, or with the rows of pm_hh -/
def pm_hh (j : Nat) : List (Nat × Nat × Nat × Nat) := (pm_lk [(1, [(0, 14, 17, 13), (0, 14, 21, 15)]), (2, [(0, 21, 24, 21)]), (3, [(0, 21, 24, 21)]), (4, [(0, 10, 13, 21)]), (5, [(0, 9, 12, 13)]), (6, [(0, 9, 12, 21)]), (7, [(0, 12, 15, 21)]), (8, [(0, 10, 13, 21)])] j).getD []
def pm_hd (j : Nat) (x : pm_I) : Cond := if pm_hh j = [] then .code x.1 x.2.1 x.2.2.1 x.2.2.2.1 else .codeWith x.1 x.2.1 x.2.2.1 x.2.2.2.1 (pm_hh j)
set_option maxRecDepth 20000 in
theorem pm_h0 : ∀ x, pm_lk pm_ms 0 = some x → pm_hd 0 x ∈ tables_1 := fun x h => by cases h; exact List.mem_of_getElem? (i := 231) rfl
set_option maxRecDepth 20000 in
theorem pm_h1 : ∀ x, pm_lk pm_ms 1 = some x → pm_hd 1 x ∈ tables_1 := fun x h => by cases h; exact List.mem_of_getElem? (i := 234) rfl
set_option maxRecDepth 20000 in
theorem pm_h2 : ∀ x, pm_lk pm_ms 2 = some x → pm_hd 2 x ∈ tables_1 := fun x h => by cases h; exact List.mem_of_getElem? (i := 371) rfl
set_option maxRecDepth 20000 in
theorem pm_h3 : ∀ x, pm_lk pm_ms 3 = some x → pm_hd 3 x ∈ tables_1 := fun x h => by cases h; exact List.mem_of_getElem? (i := 408) rfl
set_option maxRecDepth 20000 in
theorem pm_h4 : ∀ x, pm_lk pm_ms 4 = some x → pm_hd 4 x ∈ tables_1 := fun x h => by cases h; exact List.mem_of_getElem? (i := 415) rfl
set_option maxRecDepth 20000 in
theorem pm_h5 : ∀ x, pm_lk pm_ms 5 = some x → pm_hd 5 x ∈ tables_1 := fun x h => by cases h; exact List.mem_of_getElem? (i := 432) rfl
set_option maxRecDepth 20000 in
theorem pm_h6 : ∀ x, pm_lk pm_ms 6 = some x → pm_hd 6 x ∈ tables_1 := fun x h => by cases h; exact List.mem_of_getElem? (i := 450) rfl
set_option maxRecDepth 20000 in
theorem pm_h7 : ∀ x, pm_lk pm_ms 7 = some x → pm_hd 7 x ∈ tables_1 := fun x h => by cases h; exact List.mem_of_getElem? (i := 514) rfl
set_option maxRecDepth 20000 in
theorem pm_h8 : ∀ x, pm_lk pm_ms 8 = some x → pm_hd 8 x ∈ tables_1 := fun x h => by cases h; exact List.mem_of_getElem? (i := 521) rfl
set_option maxRecDepth 20000 in
theorem pm_h10 : ∀ x, pm_lk pm_ms 10 = some x → pm_hd 10 x ∈ tables_1 := fun x h => by cases h; exact List.mem_of_getElem? (i := 16) rfl
set_option maxRecDepth 20000 in
theorem pm_h11 : ∀ x, pm_lk pm_ms 11 = some x → pm_hd 11 x ∈ tables_1 := fun x h => by cases h; exact List.mem_of_getElem? (i := 240) rfl
set_option maxRecDepth 20000 in
theorem pm_h12 : ∀ x, pm_lk pm_ms 12 = some x → pm_hd 12 x ∈ tables_1 := fun x h => by cases h; exact List.mem_of_getElem? (i := 376) rfl
set_option maxRecDepth 20000 in
theorem pm_h13 : ∀ x, pm_lk pm_ms 13 = some x → pm_hd 13 x ∈ tables_1 := fun x h => by cases h; exact List.mem_of_getElem? (i := 95) rfl
set_option maxRecDepth 20000 in
theorem pm_h14 : ∀ x, pm_lk pm_ms 14 = some x → pm_hd 14 x ∈ tables_1 := fun x h => by cases h; exact List.mem_of_getElem? (i := 131) rfl
set_option maxRecDepth 20000 in
theorem pm_h15 : ∀ x, pm_lk pm_ms 15 = some x → pm_hd 15 x ∈ tables_1 := fun x h => by cases h; exact List.mem_of_getElem? (i := 412) rfl
set_option maxRecDepth 20000 in
theorem pm_h16 : ∀ x, pm_lk pm_ms 16 = some x → pm_hd 16 x ∈ tables_1 := fun x h => by cases h; exact List.mem_of_getElem? (i := 139) rfl
set_option maxRecDepth 20000 in
theorem pm_h17 : ∀ x, pm_lk pm_ms 17 = some x → pm_hd 17 x ∈ tables_1 := fun x h => by cases h; exact List.mem_of_getElem? (i := 152) rfl
set_option maxRecDepth 20000 in
theorem pm_h18 : ∀ x, pm_lk pm_ms 18 = some x → pm_hd 18 x ∈ tables_1 := fun x h => by cases h; exact List.mem_of_getElem? (i := 419) rfl
set_option maxRecDepth 20000 in
theorem pm_h19 : ∀ x, pm_lk pm_ms 19 = some x → pm_hd 19 x ∈ tables_1 := fun x h => by cases h; exact List.mem_of_getElem? (i := 436) rfl
set_option maxRecDepth 20000 in
theorem pm_h20 : ∀ x, pm_lk pm_ms 20 = some x → pm_hd 20 x ∈ tables_1 := fun x h => by cases h; exact List.mem_of_getElem? (i := 454) rfl
set_option maxRecDepth 20000 in
theorem pm_h21 : ∀ x, pm_lk pm_ms 21 = some x → pm_hd 21 x ∈ tables_1 := fun x h => by cases h; exact List.mem_of_getElem? (i := 518) rfl
set_option maxRecDepth 20000 in
theorem pm_h22 : ∀ x, pm_lk pm_ms 22 = some x → pm_hd 22 x ∈ tables_1 := fun x h => by cases h; exact List.mem_of_getElem? (i := 525) rfl
set_option maxRecDepth 20000 in
theorem pm_h23 : ∀ x, pm_lk pm_ms 23 = some x → pm_hd 23 x ∈ tables_1 := fun x h => by cases h; exact List.mem_of_getElem? (i := 216) rfl
set_option maxRecDepth 20000 in
theorem pm_h24 : ∀ x, pm_lk pm_ms 24 = some x → pm_hd 24 x ∈ tables_1 := fun x h => by cases h; exact List.mem_of_getElem? (i := 22) rfl
set_option maxRecDepth 20000 in
theorem pm_h25 : ∀ x, pm_lk pm_ms 25 = some x → pm_hd 25 x ∈ tables_1 := fun x h => by cases h; exact List.mem_of_getElem? (i := 243) rfl
set_option maxRecDepth 20000 in
theorem pm_h26 : ∀ x, pm_lk pm_ms 26 = some x → pm_hd 26 x ∈ tables_1 := fun x h => by cases h; exact List.mem_of_getElem? (i := 135) rfl
set_option maxRecDepth 20000 in
theorem pm_h27 : ∀ x, pm_lk pm_ms 27 = some x → pm_hd 27 x ∈ tables_1 := fun x h => by cases h; exact List.mem_of_getElem? (i := 380) rfl
set_option maxRecDepth 20000 in
theorem pm_h28 : ∀ x, pm_lk pm_ms 28 = some x → pm_hd 28 x ∈ tables_1 := fun x h => by cases h; exact List.mem_of_getElem? (i := 384) rfl
set_option maxRecDepth 20000 in
theorem pm_h29 : ∀ x, pm_lk pm_ms 29 = some x → pm_hd 29 x ∈ tables_1 := fun x h => by cases h; exact List.mem_of_getElem? (i := 123) rfl
set_option maxRecDepth 20000 in
theorem pm_h30 : ∀ x, pm_lk pm_ms 30 = some x → pm_hd 30 x ∈ tables_1 := fun x h => by cases h; exact List.mem_of_getElem? (i := 99) rfl
set_option maxRecDepth 20000 in
theorem pm_h31 : ∀ x, pm_lk pm_ms 31 = some x → pm_hd 31 x ∈ tables_1 := fun x h => by cases h; exact List.mem_of_getElem? (i := 168) rfl
set_option maxRecDepth 20000 in
theorem pm_h32 : ∀ x, pm_lk pm_ms 32 = some x → pm_hd 32 x ∈ tables_1 := fun x h => by cases h; exact List.mem_of_getElem? (i := 192) rfl
set_option maxRecDepth 20000 in
theorem pm_h33 : ∀ x, pm_lk pm_ms 33 = some x → pm_hd 33 x ∈ tables_1 := fun x h => by cases h; exact List.mem_of_getElem? (i := 405) rfl
set_option maxRecDepth 20000 in
theorem pm_h34 : ∀ x, pm_lk pm_ms 34 = some x → pm_hd 34 x ∈ tables_1 := fun x h => by cases h; exact List.mem_of_getElem? (i := 107) rfl
set_option maxRecDepth 20000 in
theorem pm_h35 : ∀ x, pm_lk pm_ms 35 = some x → pm_hd 35 x ∈ tables_1 := fun x h => by cases h; exact List.mem_of_getElem? (i := 111) rfl
set_option maxRecDepth 20000 in
theorem pm_h36 : ∀ x, pm_lk pm_ms 36 = some x → pm_hd 36 x ∈ tables_1 := fun x h => by cases h; exact List.mem_of_getElem? (i := 220) rfl
set_option maxRecDepth 20000 in
theorem pm_h37 : ∀ x, pm_lk pm_ms 37 = some x → pm_hd 37 x ∈ tables_1 := fun x h => by cases h; exact List.mem_of_getElem? (i := 224) rfl
set_option maxRecDepth 20000 in
theorem pm_h38 : ∀ x, pm_lk pm_ms 38 = some x → pm_hd 38 x ∈ tables_1 := fun x h => by cases h; exact List.mem_of_getElem? (i := 156) rfl
set_option maxRecDepth 20000 in
theorem pm_h39 : ∀ x, pm_lk pm_ms 39 = some x → pm_hd 39 x ∈ tables_1 := fun x h => by cases h; exact List.mem_of_getElem? (i := 424) rfl
set_option maxRecDepth 20000 in
theorem pm_h40 : ∀ x, pm_lk pm_ms 40 = some x → pm_hd 40 x ∈ tables_1 := fun x h => by cases h; exact List.mem_of_getElem? (i := 428) rfl
set_option maxRecDepth 20000 in
theorem pm_h41 : ∀ x, pm_lk pm_ms 41 = some x → pm_hd 41 x ∈ tables_1 := fun x h => by cases h; exact List.mem_of_getElem? (i := 160) rfl
set_option maxRecDepth 20000 in
theorem pm_h42 : ∀ x, pm_lk pm_ms 42 = some x → pm_hd 42 x ∈ tables_1 := fun x h => by cases h; exact List.mem_of_getElem? (i := 164) rfl
set_option maxRecDepth 20000 in
theorem pm_h43 : ∀ x, pm_lk pm_ms 43 = some x → pm_hd 43 x ∈ tables_1 := fun x h => by cases h; exact List.mem_of_getElem? (i := 172) rfl
set_option maxRecDepth 20000 in
theorem pm_h44 : ∀ x, pm_lk pm_ms 44 = some x → pm_hd 44 x ∈ tables_1 := fun x h => by cases h; exact List.mem_of_getElem? (i := 176) rfl
set_option maxRecDepth 20000 in
theorem pm_h45 : ∀ x, pm_lk pm_ms 45 = some x → pm_hd 45 x ∈ tables_1 := fun x h => by cases h; exact List.mem_of_getElem? (i := 180) rfl
set_option maxRecDepth 20000 in
theorem pm_h46 : ∀ x, pm_lk pm_ms 46 = some x → pm_hd 46 x ∈ tables_1 := fun x h => by cases h; exact List.mem_of_getElem? (i := 184) rfl
set_option maxRecDepth 20000 in
theorem pm_h47 : ∀ x, pm_lk pm_ms 47 = some x → pm_hd 47 x ∈ tables_1 := fun x h => by cases h; exact List.mem_of_getElem? (i := 188) rfl
set_option maxRecDepth 20000 in
theorem pm_h48 : ∀ x, pm_lk pm_ms 48 = some x → pm_hd 48 x ∈ tables_1 := fun x h => by cases h; exact List.mem_of_getElem? (i := 196) rfl
set_option maxRecDepth 20000 in
theorem pm_h49 : ∀ x, pm_lk pm_ms 49 = some x → pm_hd 49 x ∈ tables_1 := fun x h => by cases h; exact List.mem_of_getElem? (i := 208) rfl
set_option maxRecDepth 20000 in
theorem pm_h50 : ∀ x, pm_lk pm_ms 50 = some x → pm_hd 50 x ∈ tables_1 := fun x h => by cases h; exact List.mem_of_getElem? (i := 441) rfl
set_option maxRecDepth 20000 in
theorem pm_h51 : ∀ x, pm_lk pm_ms 51 = some x → pm_hd 51 x ∈ tables_1 := fun x h => by cases h; exact List.mem_of_getElem? (i := 491) rfl
set_option maxRecDepth 20000 in
theorem pm_h52 : ∀ x, pm_lk pm_ms 52 = some x → pm_hd 52 x ∈ tables_1 := fun x h => by cases h; exact List.mem_of_getElem? (i := 459) rfl
set_option maxRecDepth 20000 in
theorem pm_h53 : ∀ x, pm_lk pm_ms 53 = some x → pm_hd 53 x ∈ tables_1 := fun x h => by cases h; exact List.mem_of_getElem? (i := 467) rfl
set_option maxRecDepth 20000 in
theorem pm_h54 : ∀ x, pm_lk pm_ms 54 = some x → pm_hd 54 x ∈ tables_1 := fun x h => by cases h; exact List.mem_of_getElem? (i := 479) rfl
set_option maxRecDepth 20000 in
theorem pm_h55 : ∀ x, pm_lk pm_ms 55 = some x → pm_hd 55 x ∈ tables_1 := fun x h => by cases h; exact List.mem_of_getElem? (i := 495) rfl
set_option maxRecDepth 20000 in
theorem pm_h56 : ∀ x, pm_lk pm_ms 56 = some x → pm_hd 56 x ∈ tables_1 := fun x h => by cases h; exact List.mem_of_getElem? (i := 483) rfl
set_option maxRecDepth 20000 in
theorem pm_h57 : ∀ x, pm_lk pm_ms 57 = some x → pm_hd 57 x ∈ tables_1 := fun x h => by cases h; exact List.mem_of_getElem? (i := 487) rfl
set_option maxRecDepth 20000 in
theorem pm_h60 : ∀ x, pm_lk pm_ms 60 = some x → pm_hd 60 x ∈ tables_1 := fun x h => by cases h; exact List.mem_of_getElem? (i := 331) rfl
set_option maxRecDepth 20000 in
theorem pm_h61 : ∀ x, pm_lk pm_ms 61 = some x → pm_hd 61 x ∈ tables_1 := fun x h => by cases h; exact List.mem_of_getElem? (i := 212) rfl
set_option maxRecDepth 20000 in
theorem pm_h62 : ∀ x, pm_lk pm_ms 62 = some x → pm_hd 62 x ∈ tables_1 := fun x h => by cases h; exact List.mem_of_getElem? (i := 115) rfl
set_option maxRecDepth 20000 in
theorem pm_h63 : ∀ x, pm_lk pm_ms 63 = some x → pm_hd 63 x ∈ tables_1 := fun x h => by cases h; exact List.mem_of_getElem? (i := 119) rfl
set_option maxRecDepth 20000 in
theorem pm_h64 : ∀ x, pm_lk pm_ms 64 = some x → pm_hd 64 x ∈ tables_1 := fun x h => by cases h; exact List.mem_of_getElem? (i := 103) rfl
set_option maxRecDepth 20000 in
theorem pm_h65 : ∀ x, pm_lk pm_ms 65 = some x → pm_hd 65 x ∈ tables_1 := fun x h => by cases h; exact List.mem_of_getElem? (i := 127) rfl
set_option maxRecDepth 20000 in
theorem pm_h66 : ∀ x, pm_lk pm_ms 66 = some x → pm_hd 66 x ∈ tables_1 := fun x h => by cases h; exact List.mem_of_getElem? (i := 143) rfl
set_option maxRecDepth 20000 in
theorem pm_h67 : ∀ x, pm_lk pm_ms 67 = some x → pm_hd 67 x ∈ tables_1 := fun x h => by cases h; exact List.mem_of_getElem? (i := 147) rfl
set_option maxRecDepth 20000 in
theorem pm_h68 : ∀ x, pm_lk pm_ms 68 = some x → pm_hd 68 x ∈ tables_1 := fun x h => by cases h; exact List.mem_of_getElem? (i := 228) rfl
set_option maxRecDepth 20000 in
theorem pm_h69 : ∀ x, pm_lk pm_ms 69 = some x → pm_hd 69 x ∈ tables_1 := fun x h => by cases h; exact List.mem_of_getElem? (i := 445) rfl
set_option maxRecDepth 20000 in
theorem pm_h70 : ∀ x, pm_lk pm_ms 70 = some x → pm_hd 70 x ∈ tables_1 := fun x h => by cases h; exact List.mem_of_getElem? (i := 200) rfl
set_option maxRecDepth 20000 in
theorem pm_h75 : ∀ x, pm_lk pm_ms 75 = some x → pm_hd 75 x ∈ tables_1 := fun x h => by cases h; exact List.mem_of_getElem? (i := 35) rfl
set_option maxRecDepth 20000 in
theorem pm_h76 : ∀ x, pm_lk pm_ms 76 = some x → pm_hd 76 x ∈ tables_1 := fun x h => by cases h; exact List.mem_of_getElem? (i := 463) rfl
set_option maxRecDepth 20000 in
theorem pm_h77 : ∀ x, pm_lk pm_ms 77 = some x → pm_hd 77 x ∈ tables_1 := fun x h => by cases h; exact List.mem_of_getElem? (i := 499) rfl
set_option maxRecDepth 20000 in
theorem pm_h78 : ∀ x, pm_lk pm_ms 78 = some x → pm_hd 78 x ∈ tables_1 := fun x h => by cases h; exact List.mem_of_getElem? (i := 503) rfl
set_option maxRecDepth 20000 in
theorem pm_h79 : ∀ x, pm_lk pm_ms 79 = some x → pm_hd 79 x ∈ tables_1 := fun x h => by cases h; exact List.mem_of_getElem? (i := 507) rfl
set_option maxRecDepth 20000 in
theorem pm_h80 : ∀ x, pm_lk pm_ms 80 = some x → pm_hd 80 x ∈ tables_1 := fun x h => by cases h; exact List.mem_of_getElem? (i := 511) rfl
set_option maxRecDepth 20000 in
theorem pm_h81 : ∀ x, pm_lk pm_ms 81 = some x → pm_hd 81 x ∈ tables_1 := fun x h => by cases h; exact List.mem_of_getElem? (i := 471) rfl
set_option maxRecDepth 20000 in
theorem pm_h82 : ∀ x, pm_lk pm_ms 82 = some x → pm_hd 82 x ∈ tables_1 := fun x h => by cases h; exact List.mem_of_getElem? (i := 475) rfl
set_option maxRecDepth 20000 in
theorem pm_h100 : ∀ x, pm_lk pm_ms 100 = some x → pm_hd 100 x ∈ tables_1 := fun x h => by cases h; exact List.mem_of_getElem? (i := 531) rfl
set_option maxRecDepth 20000 in
theorem pm_h101 : ∀ x, pm_lk pm_ms 101 = some x → pm_hd 101 x ∈ tables_1 := fun x h => by cases h; exact List.mem_of_getElem? (i := 535) rfl
set_option maxRecDepth 20000 in
theorem pm_h102 : ∀ x, pm_lk pm_ms 102 = some x → pm_hd 102 x ∈ tables_1 := fun x h => by cases h; exact List.mem_of_getElem? (i := 591) rfl
set_option maxRecDepth 20000 in
theorem pm_h103 : ∀ x, pm_lk pm_ms 103 = some x → pm_hd 103 x ∈ tables_1 := fun x h => by cases h; exact List.mem_of_getElem? (i := 602) rfl
set_option maxRecDepth 20000 in
theorem pm_h104 : ∀ x, pm_lk pm_ms 104 = some x → pm_hd 104 x ∈ tables_1 := fun x h => by cases h; exact List.mem_of_getElem? (i := 598) rfl
set_option maxRecDepth 20000 in
theorem pm_h105 : ∀ x, pm_lk pm_ms 105 = some x → pm_hd 105 x ∈ tables_1 := fun x h => by cases h; exact List.mem_of_getElem? (i := 610) rfl
set_option maxRecDepth 20000 in
theorem pm_h106 : ∀ x, pm_lk pm_ms 106 = some x → pm_hd 106 x ∈ tables_1 := fun x h => by cases h; exact List.mem_of_getElem? (i := 618) rfl
set_option maxRecDepth 20000 in
theorem pm_h107 : ∀ x, pm_lk pm_ms 107 = some x → pm_hd 107 x ∈ tables_1 := fun x h => by cases h; exact List.mem_of_getElem? (i := 614) rfl
set_option maxRecDepth 20000 in
theorem pm_h108 : ∀ x, pm_lk pm_ms 108 = some x → pm_hd 108 x ∈ tables_1 := fun x h => by cases h; exact List.mem_of_getElem? (i := 621) rfl
set_option maxRecDepth 20000 in
theorem pm_h109 : ∀ x, pm_lk pm_ms 109 = some x → pm_hd 109 x ∈ tables_1 := fun x h => by cases h; exact List.mem_of_getElem? (i := 595) rfl
set_option maxRecDepth 20000 in
theorem pm_h110 : ∀ x, pm_lk pm_ms 110 = some x → pm_hd 110 x ∈ tables_1 := fun x h => by cases h; exact List.mem_of_getElem? (i := 625) rfl
set_option maxRecDepth 20000 in
theorem pm_h111 : ∀ x, pm_lk pm_ms 111 = some x → pm_hd 111 x ∈ tables_1 := fun x h => by cases h; exact List.mem_of_getElem? (i := 606) rfl
set_option maxRecDepth 20000 in
theorem pm_h112 : ∀ x, pm_lk pm_ms 112 = some x → pm_hd 112 x ∈ tables_1 := fun x h => by cases h; exact List.mem_of_getElem? (i := 629) rfl
set_option maxRecDepth 20000 in
theorem pm_h113 : ∀ x, pm_lk pm_ms 113 = some x → pm_hd 113 x ∈ tables_1 := fun x h => by cases h; exact List.mem_of_getElem? (i := 633) rfl
set_option maxRecDepth 20000 in
theorem pm_h114 : ∀ x, pm_lk pm_ms 114 = some x → pm_hd 114 x ∈ tables_1 := fun x h => by cases h; exact List.mem_of_getElem? (i := 637) rfl
set_option maxRecDepth 20000 in
theorem pm_h115 : ∀ x, pm_lk pm_ms 115 = some x → pm_hd 115 x ∈ tables_1 := fun x h => by cases h; exact List.mem_of_getElem? (i := 641) rfl
set_option maxRecDepth 20000 in
theorem pm_h116 : ∀ x, pm_lk pm_ms 116 = some x → pm_hd 116 x ∈ tables_1 := fun x h => by cases h; exact List.mem_of_getElem? (i := 661) rfl
set_option maxRecDepth 20000 in
theorem pm_h117 : ∀ x, pm_lk pm_ms 117 = some x → pm_hd 117 x ∈ tables_1 := fun x h => by cases h; exact List.mem_of_getElem? (i := 657) rfl
set_option maxRecDepth 20000 in
theorem pm_h118 : ∀ x, pm_lk pm_ms 118 = some x → pm_hd 118 x ∈ tables_1 := fun x h => by cases h; exact List.mem_of_getElem? (i := 665) rfl
set_option maxRecDepth 20000 in
theorem pm_h119 : ∀ x, pm_lk pm_ms 119 = some x → pm_hd 119 x ∈ tables_1 := fun x h => by cases h; exact List.mem_of_getElem? (i := 669) rfl
set_option maxRecDepth 20000 in
theorem pm_h120 : ∀ x, pm_lk pm_ms 120 = some x → pm_hd 120 x ∈ tables_1 := fun x h => by cases h; exact List.mem_of_getElem? (i := 677) rfl
set_option maxRecDepth 20000 in
theorem pm_h121 : ∀ x, pm_lk pm_ms 121 = some x → pm_hd 121 x ∈ tables_1 := fun x h => by cases h; exact List.mem_of_getElem? (i := 673) rfl
set_option maxRecDepth 20000 in
theorem pm_h122 : ∀ x, pm_lk pm_ms 122 = some x → pm_hd 122 x ∈ tables_1 := fun x h => by cases h; exact List.mem_of_getElem? (i := 681) rfl
set_option maxRecDepth 20000 in
theorem pm_h123 : ∀ x, pm_lk pm_ms 123 = some x → pm_hd 123 x ∈ tables_1 := fun x h => by cases h; exact List.mem_of_getElem? (i := 653) rfl
set_option maxRecDepth 20000 in
theorem pm_h124 : ∀ x, pm_lk pm_ms 124 = some x → pm_hd 124 x ∈ tables_1 := fun x h => by cases h; exact List.mem_of_getElem? (i := 649) rfl
set_option maxRecDepth 20000 in
theorem pm_h125 : ∀ x, pm_lk pm_ms 125 = some x → pm_hd 125 x ∈ tables_1 := fun x h => by cases h; exact List.mem_of_getElem? (i := 645) rfl
set_option maxRecDepth 20000 in
theorem pm_h126 : ∀ x, pm_lk pm_ms 126 = some x → pm_hd 126 x ∈ tables_1 := fun x h => by cases h; exact List.mem_of_getElem? (i := 685) rfl
set_option maxRecDepth 20000 in
theorem pm_h127 : ∀ x, pm_lk pm_ms 127 = some x → pm_hd 127 x ∈ tables_1 := fun x h => by cases h; exact List.mem_of_getElem? (i := 693) rfl
set_option maxRecDepth 20000 in
theorem pm_h128 : ∀ x, pm_lk pm_ms 128 = some x → pm_hd 128 x ∈ tables_1 := fun x h => by cases h; exact List.mem_of_getElem? (i := 689) rfl
set_option maxRecDepth 20000 in
theorem pm_h129 : ∀ x, pm_lk pm_ms 129 = some x → pm_hd 129 x ∈ tables_1 := fun x h => by cases h; exact List.mem_of_getElem? (i := 713) rfl
set_option maxRecDepth 20000 in
theorem pm_h130 : ∀ x, pm_lk pm_ms 130 = some x → pm_hd 130 x ∈ tables_1 := fun x h => by cases h; exact List.mem_of_getElem? (i := 709) rfl
set_option maxRecDepth 20000 in
theorem pm_h131 : ∀ x, pm_lk pm_ms 131 = some x → pm_hd 131 x ∈ tables_1 := fun x h => by cases h; exact List.mem_of_getElem? (i := 717) rfl
set_option maxRecDepth 20000 in
theorem pm_h132 : ∀ x, pm_lk pm_ms 132 = some x → pm_hd 132 x ∈ tables_1 := fun x h => by cases h; exact List.mem_of_getElem? (i := 705) rfl
set_option maxRecDepth 20000 in
theorem pm_h133 : ∀ x, pm_lk pm_ms 133 = some x → pm_hd 133 x ∈ tables_1 := fun x h => by cases h; exact List.mem_of_getElem? (i := 721) rfl
set_option maxRecDepth 20000 in
theorem pm_h134 : ∀ x, pm_lk pm_ms 134 = some x → pm_hd 134 x ∈ tables_1 := fun x h => by cases h; exact List.mem_of_getElem? (i := 701) rfl
set_option maxRecDepth 20000 in
theorem pm_h135 : ∀ x, pm_lk pm_ms 135 = some x → pm_hd 135 x ∈ tables_1 := fun x h => by cases h; exact List.mem_of_getElem? (i := 697) rfl
set_option maxRecDepth 20000 in
theorem pm_h136 : ∀ x, pm_lk pm_ms 136 = some x → pm_hd 136 x ∈ tables_1 := fun x h => by cases h; exact List.mem_of_getElem? (i := 725) rfl
set_option maxRecDepth 20000 in
theorem pm_h137 : ∀ x, pm_lk pm_ms 137 = some x → pm_hd 137 x ∈ tables_1 := fun x h => by cases h; exact List.mem_of_getElem? (i := 729) rfl
set_option maxRecDepth 20000 in
theorem pm_h138 : ∀ x, pm_lk pm_ms 138 = some x → pm_hd 138 x ∈ tables_1 := fun x h => by cases h; exact List.mem_of_getElem? (i := 737) rfl
set_option maxRecDepth 20000 in
theorem pm_h139 : ∀ x, pm_lk pm_ms 139 = some x → pm_hd 139 x ∈ tables_1 := fun x h => by cases h; exact List.mem_of_getElem? (i := 733) rfl
def pm_hjs : List Nat := [0, 1, 2, 3, 4, 5, 6, 7, 8, 10, 11, 12, 13, 14, 15, 16, 17, 18, 19, 20, 21, 22, 23, 24, 25, 26, 27, 28, 29, 30, 31, 32, 33, 34, 35, 36, 37, 38, 39, 40, 41, 42, 43, 44, 45, 46, 47, 48, 49, 50, 51, 52, 53, 54, 55, 56, 57, 60, 61, 62, 63, 64, 65, 66, 67, 68, 69, 70, 75, 76, 77, 78, 79, 80, 81, 82, 100, 101, 102, 103, 104, 105, 106, 107, 108, 109, 110, 111, 112, 113, 114, 115, 116, 117, 118, 119, 120, 121, 122, 123, 124, 125, 126, 127, 128, 129, 130, 131, 132, 133, 134, 135, 136, 137, 138, 139]
set_option maxRecDepth 20000 in
theorem pm_hd_ok : ∀ j ∈ pm_hjs, ∀ x, pm_lk pm_ms j = some x → pm_hd j x ∈ tables_1 := by
  unfold pm_hjs
  exact List.forall_mem_cons.mpr ⟨pm_h0, List.forall_mem_cons.mpr ⟨pm_h1, List.forall_mem_cons.mpr ⟨pm_h2, List.forall_mem_cons.mpr ⟨pm_h3, List.forall_mem_cons.mpr ⟨pm_h4, List.forall_mem_cons.mpr ⟨pm_h5, List.forall_mem_cons.mpr ⟨pm_h6, List.forall_mem_cons.mpr ⟨pm_h7, List.forall_mem_cons.mpr ⟨pm_h8, List.forall_mem_cons.mpr ⟨pm_h10, List.forall_mem_cons.mpr ⟨pm_h11, List.forall_mem_cons.mpr ⟨pm_h12, List.forall_mem_cons.mpr ⟨pm_h13, List.forall_mem_cons.mpr ⟨pm_h14, List.forall_mem_cons.mpr ⟨pm_h15, List.forall_mem_cons.mpr ⟨pm_h16, List.forall_mem_cons.mpr ⟨pm_h17, List.forall_mem_cons.mpr ⟨pm_h18, List.forall_mem_cons.mpr ⟨pm_h19, List.forall_mem_cons.mpr ⟨pm_h20, List.forall_mem_cons.mpr ⟨pm_h21, List.forall_mem_cons.mpr ⟨pm_h22, List.forall_mem_cons.mpr ⟨pm_h23, List.forall_mem_cons.mpr ⟨pm_h24, List.forall_mem_cons.mpr ⟨pm_h25, List.forall_mem_cons.mpr ⟨pm_h26, List.forall_mem_cons.mpr ⟨pm_h27, List.forall_mem_cons.mpr ⟨pm_h28, List.forall_mem_cons.mpr ⟨pm_h29, List.forall_mem_cons.mpr ⟨pm_h30, List.forall_mem_cons.mpr ⟨pm_h31, List.forall_mem_cons.mpr ⟨pm_h32, List.forall_mem_cons.mpr ⟨pm_h33, List.forall_mem_cons.mpr ⟨pm_h34, List.forall_mem_cons.mpr ⟨pm_h35, List.forall_mem_cons.mpr ⟨pm_h36, List.forall_mem_cons.mpr ⟨pm_h37, List.forall_mem_cons.mpr ⟨pm_h38, List.forall_mem_cons.mpr ⟨pm_h39, List.forall_mem_cons.mpr ⟨pm_h40, List.forall_mem_cons.mpr ⟨pm_h41, List.forall_mem_cons.mpr ⟨pm_h42, List.forall_mem_cons.mpr ⟨pm_h43, List.forall_mem_cons.mpr ⟨pm_h44, List.forall_mem_cons.mpr ⟨pm_h45, List.forall_mem_cons.mpr ⟨pm_h46, List.forall_mem_cons.mpr ⟨pm_h47, List.forall_mem_cons.mpr ⟨pm_h48, List.forall_mem_cons.mpr ⟨pm_h49, List.forall_mem_cons.mpr ⟨pm_h50, List.forall_mem_cons.mpr ⟨pm_h51, List.forall_mem_cons.mpr ⟨pm_h52, List.forall_mem_cons.mpr ⟨pm_h53, List.forall_mem_cons.mpr ⟨pm_h54, List.forall_mem_cons.mpr ⟨pm_h55, List.forall_mem_cons.mpr ⟨pm_h56, List.forall_mem_cons.mpr ⟨pm_h57, List.forall_mem_cons.mpr ⟨pm_h60, List.forall_mem_cons.mpr ⟨pm_h61, List.forall_mem_cons.mpr ⟨pm_h62, List.forall_mem_cons.mpr ⟨pm_h63, List.forall_mem_cons.mpr ⟨pm_h64, List.forall_mem_cons.mpr ⟨pm_h65, List.forall_mem_cons.mpr ⟨pm_h66, List.forall_mem_cons.mpr ⟨pm_h67, List.forall_mem_cons.mpr ⟨pm_h68, List.forall_mem_cons.mpr ⟨pm_h69, List.forall_mem_cons.mpr ⟨pm_h70, List.forall_mem_cons.mpr ⟨pm_h75, List.forall_mem_cons.mpr ⟨pm_h76, List.forall_mem_cons.mpr ⟨pm_h77, List.forall_mem_cons.mpr ⟨pm_h78, List.forall_mem_cons.mpr ⟨pm_h79, List.forall_mem_cons.mpr ⟨pm_h80, List.forall_mem_cons.mpr ⟨pm_h81, List.forall_mem_cons.mpr ⟨pm_h82, List.forall_mem_cons.mpr ⟨pm_h100, List.forall_mem_cons.mpr ⟨pm_h101, List.forall_mem_cons.mpr ⟨pm_h102, List.forall_mem_cons.mpr ⟨pm_h103, List.forall_mem_cons.mpr ⟨pm_h104, List.forall_mem_cons.mpr ⟨pm_h105, List.forall_mem_cons.mpr ⟨pm_h106, List.forall_mem_cons.mpr ⟨pm_h107, List.forall_mem_cons.mpr ⟨pm_h108, List.forall_mem_cons.mpr ⟨pm_h109, List.forall_mem_cons.mpr ⟨pm_h110, List.forall_mem_cons.mpr ⟨pm_h111, List.forall_mem_cons.mpr ⟨pm_h112, List.forall_mem_cons.mpr ⟨pm_h113, List.forall_mem_cons.mpr ⟨pm_h114, List.forall_mem_cons.mpr ⟨pm_h115, List.forall_mem_cons.mpr ⟨pm_h116, List.forall_mem_cons.mpr ⟨pm_h117, List.forall_mem_cons.mpr ⟨pm_h118, List.forall_mem_cons.mpr ⟨pm_h119, List.forall_mem_cons.mpr ⟨pm_h120, List.forall_mem_cons.mpr ⟨pm_h121, List.forall_mem_cons.mpr ⟨pm_h122, List.forall_mem_cons.mpr ⟨pm_h123, List.forall_mem_cons.mpr ⟨pm_h124, List.forall_mem_cons.mpr ⟨pm_h125, List.forall_mem_cons.mpr ⟨pm_h126, List.forall_mem_cons.mpr ⟨pm_h127, List.forall_mem_cons.mpr ⟨pm_h128, List.forall_mem_cons.mpr ⟨pm_h129, List.forall_mem_cons.mpr ⟨pm_h130, List.forall_mem_cons.mpr ⟨pm_h131, List.forall_mem_cons.mpr ⟨pm_h132, List.forall_mem_cons.mpr ⟨pm_h133, List.forall_mem_cons.mpr ⟨pm_h134, List.forall_mem_cons.mpr ⟨pm_h135, List.forall_mem_cons.mpr ⟨pm_h136, List.forall_mem_cons.mpr ⟨pm_h137, List.forall_mem_cons.mpr ⟨pm_h138, List.forall_mem_cons.mpr ⟨pm_h139, fun _ h => absurd h List.not_mem_nil⟩⟩⟩⟩⟩⟩⟩⟩⟩⟩⟩⟩⟩⟩⟩⟩⟩⟩⟩⟩⟩⟩⟩⟩⟩⟩⟩⟩⟩⟩⟩⟩⟩⟩⟩⟩⟩⟩⟩⟩⟩⟩⟩⟩⟩⟩⟩⟩⟩⟩⟩⟩⟩⟩⟩⟩⟩⟩⟩⟩⟩⟩⟩⟩⟩⟩⟩⟩⟩⟩⟩⟩⟩⟩⟩⟩⟩⟩⟩⟩⟩⟩⟩⟩⟩⟩⟩⟩⟩⟩⟩⟩⟩⟩⟩⟩⟩⟩⟩⟩⟩⟩⟩⟩⟩⟩⟩⟩⟩⟩⟩⟩⟩⟩⟩⟩
def pm_np (y : MethodName) : Nat := match parseMethodDescriptor y.desc with
  | some d => d.parameters.length
  | none => 99
def pm_cchk (q : Nat × Nat × Nat × Nat × Nat × List Value) : Bool := match q with
  | (key, (vi, j', n, ci, pad)) =>
    if vi = 3 then pm_inT (.methodLink (pm_cn (key / 1000)) (key % 1000) Lib.objectInit)
    else if vi = 4 then pm_inT (.methodLink (pm_cn (key / 1000)) (key % 1000) Lib.Math.max.name)
    else if vi = 5 then pm_inT (.methodLink (pm_cn (key / 1000)) (key % 1000) Lib.Math.min.name)
    else if vi = 6 then pm_inT (.methodLink (pm_cn (key / 1000)) (key % 1000) Lib.Math.abs.name)
    else match pm_lk pm_ms j' with
      | none => false
      | some x => decide (j' ∈ pm_hjs) && pm_inT (.initialized x.1.cls) && decide (pad = List.replicate (x.2.2.1 - n) pm_U) && decide (n ≤ x.2.2.1) && decide (x.2.2.1 ≤ 20) && plainName x.1.cls && decide (x.1.cls ≠ "java/lang/invoke/MethodHandle") && decide (x.1.cls ≠ "java/lang/invoke/VarHandle") && decide (x.1.cls = pm_cn (pm_own j')) &&
        (if vi = 0 then pm_inT (.methodLink (pm_cn (key / 1000)) (key % 1000) x.1) && pm_inT (.static x.1) && decide (n = pm_np x.1)
         else if vi = 1 then pm_inT (.methodLink (pm_cn (key / 1000)) (key % 1000) x.1) && pm_inT (.instanceMethod x.1) && pm_inT (.selects x.1.cls x.1 x.1) && decide (n = pm_np x.1 + 1) && decide ((pm_cl[ci]?).map (fun r => r.1) = some x.1.cls) && decide (pm_hh j' = [])
         else if vi = 2 then (pm_inT (.methodLink (pm_cn (key / 1000)) (key % 1000) x.1) || pm_inN (.methodLinkNest (pm_cn (key / 1000)) (key % 1000) x.1 "StowPlan")) && pm_inT (.instanceMethod x.1) && decide (x.1.name = "<init>") && decide (x.2.2.2.1 = none) && decide (n = pm_np x.1 + 1) && decide (pm_hh j' = []) && decide ((pm_cl[ci]?).map (fun r => r.1) = some x.1.cls)
         else false)
theorem pm_ce0 : pm_cchk (1, (3, 0, 0, 0, [])) = true := by decide +kernel
theorem pm_ce1 : pm_cchk (9, (0, 24, 2, 0, [])) = true := by decide +kernel
theorem pm_ce2 : pm_cchk (45, (2, 75, 1, 2, [])) = true := by decide +kernel
theorem pm_ce3 : pm_cchk (53, (0, 25, 4, 0, [])) = true := by decide +kernel
theorem pm_ce4 : pm_cchk (72, (2, 60, 6, 1, [])) = true := by decide +kernel
theorem pm_ce5 : pm_cchk (75, (1, 30, 2, 0, [])) = true := by decide +kernel
theorem pm_ce6 : pm_cchk (79, (1, 27, 4, 0, [])) = true := by decide +kernel
theorem pm_ce7 : pm_cchk (83, (1, 61, 1, 1, [])) = true := by decide +kernel
theorem pm_ce8 : pm_cchk (87, (1, 28, 2, 0, [])) = true := by decide +kernel
theorem pm_ce9 : pm_cchk (96, (1, 64, 1, 1, [])) = true := by decide +kernel
theorem pm_ce10 : pm_cchk (99, (1, 63, 2, 1, [])) = true := by decide +kernel
theorem pm_ce11 : pm_cchk (103, (1, 32, 5, 0, [pm_U])) = true := by decide +kernel
theorem pm_ce12 : pm_cchk (106, (1, 33, 5, 0, [])) = true := by decide +kernel
theorem pm_ce13 : pm_cchk (110, (1, 34, 2, 0, [])) = true := by decide +kernel
theorem pm_ce14 : pm_cchk (114, (1, 26, 2, 0, [])) = true := by decide +kernel
theorem pm_ce15 : pm_cchk (117, (1, 29, 4, 0, [])) = true := by decide +kernel
theorem pm_ce16 : pm_cchk (121, (1, 66, 2, 1, [])) = true := by decide +kernel
theorem pm_ce17 : pm_cchk (125, (1, 67, 3, 1, [pm_U, pm_U])) = true := by decide +kernel
theorem pm_ce18 : pm_cchk (129, (1, 38, 2, 0, [pm_U, pm_U])) = true := by decide +kernel
theorem pm_ce19 : pm_cchk (144, (1, 39, 4, 0, [])) = true := by decide +kernel
theorem pm_ce20 : pm_cchk (155, (1, 50, 2, 0, [pm_U, pm_U, pm_U])) = true := by decide +kernel
theorem pm_ce21 : pm_cchk (160, (1, 52, 1, 0, [pm_U, pm_U])) = true := by decide +kernel
theorem pm_ce22 : pm_cchk (163, (1, 76, 1, 2, [])) = true := by decide +kernel
theorem pm_ce23 : pm_cchk (166, (1, 53, 3, 0, [pm_U, pm_U])) = true := by decide +kernel
theorem pm_ce24 : pm_cchk (173, (1, 79, 2, 2, [])) = true := by decide +kernel
theorem pm_ce25 : pm_cchk (176, (1, 80, 2, 2, [])) = true := by decide +kernel
theorem pm_ce26 : pm_cchk (179, (1, 56, 4, 0, [pm_U])) = true := by decide +kernel
theorem pm_ce27 : pm_cchk (183, (1, 31, 4, 0, [pm_U])) = true := by decide +kernel
theorem pm_ce28 : pm_cchk (201, (1, 36, 1, 0, [pm_U, pm_U, pm_U])) = true := by decide +kernel
theorem pm_ce29 : pm_cchk (205, (1, 37, 3, 0, [pm_U, pm_U, pm_U])) = true := by decide +kernel
theorem pm_ce30 : pm_cchk (208, (5, 0, 0, 0, [])) = true := by decide +kernel
theorem pm_ce31 : pm_cchk (213, (4, 0, 0, 0, [])) = true := by decide +kernel
theorem pm_ce32 : pm_cchk (216, (1, 65, 4, 1, [])) = true := by decide +kernel
theorem pm_ce33 : pm_cchk (220, (1, 35, 3, 0, [pm_U, pm_U])) = true := by decide +kernel
theorem pm_ce34 : pm_cchk (224, (1, 62, 1, 1, [])) = true := by decide +kernel
theorem pm_ce35 : pm_cchk (227, (1, 68, 3, 1, [])) = true := by decide +kernel
theorem pm_ce36 : pm_cchk (231, (1, 41, 3, 0, [])) = true := by decide +kernel
theorem pm_ce37 : pm_cchk (235, (1, 40, 3, 0, [pm_U, pm_U])) = true := by decide +kernel
theorem pm_ce38 : pm_cchk (239, (1, 42, 2, 0, [pm_U, pm_U])) = true := by decide +kernel
theorem pm_ce39 : pm_cchk (242, (1, 43, 2, 0, [pm_U, pm_U])) = true := by decide +kernel
theorem pm_ce40 : pm_cchk (245, (1, 45, 2, 0, [pm_U, pm_U])) = true := by decide +kernel
theorem pm_ce41 : pm_cchk (248, (1, 46, 2, 0, [pm_U])) = true := by decide +kernel
theorem pm_ce42 : pm_cchk (251, (1, 47, 2, 0, [])) = true := by decide +kernel
theorem pm_ce43 : pm_cchk (254, (1, 48, 2, 0, [pm_U, pm_U])) = true := by decide +kernel
theorem pm_ce44 : pm_cchk (257, (1, 49, 2, 0, [pm_U, pm_U, pm_U])) = true := by decide +kernel
theorem pm_ce45 : pm_cchk (260, (1, 44, 4, 0, [pm_U, pm_U, pm_U])) = true := by decide +kernel
theorem pm_ce46 : pm_cchk (263, (1, 70, 2, 1, [pm_U, pm_U, pm_U])) = true := by decide +kernel
theorem pm_ce47 : pm_cchk (266, (1, 69, 2, 1, [])) = true := by decide +kernel
theorem pm_ce48 : pm_cchk (272, (1, 81, 2, 2, [])) = true := by decide +kernel
theorem pm_ce49 : pm_cchk (276, (1, 82, 2, 2, [pm_U])) = true := by decide +kernel
theorem pm_ce50 : pm_cchk (280, (1, 54, 5, 0, [pm_U, pm_U])) = true := by decide +kernel
theorem pm_ce51 : pm_cchk (283, (1, 51, 2, 0, [pm_U, pm_U, pm_U])) = true := by decide +kernel
theorem pm_ce52 : pm_cchk (288, (1, 55, 2, 0, [])) = true := by decide +kernel
theorem pm_ce53 : pm_cchk (291, (1, 77, 4, 2, [])) = true := by decide +kernel
theorem pm_ce54 : pm_cchk (295, (1, 78, 2, 2, [])) = true := by decide +kernel
theorem pm_ce55 : pm_cchk (299, (1, 57, 3, 0, [pm_U])) = true := by decide +kernel
theorem pm_ce56 : pm_cchk (1003, (3, 0, 0, 0, [])) = true := by decide +kernel
theorem pm_ce57 : pm_cchk (1036, (1, 63, 2, 1, [])) = true := by decide +kernel
theorem pm_ce58 : pm_cchk (1046, (1, 62, 1, 1, [])) = true := by decide +kernel
theorem pm_ce59 : pm_cchk (1050, (1, 64, 1, 1, [])) = true := by decide +kernel
theorem pm_ce60 : pm_cchk (1054, (1, 68, 3, 1, [])) = true := by decide +kernel
theorem pm_ce61 : pm_cchk (1058, (6, 0, 0, 0, [])) = true := by decide +kernel
theorem pm_ce62 : pm_cchk (2003, (3, 0, 0, 0, [])) = true := by decide +kernel
theorem pm_ce63 : pm_cchk (3001, (3, 0, 0, 0, [])) = true := by decide +kernel
theorem pm_ce64 : pm_cchk (3044, (0, 101, 2, 3, [])) = true := by decide +kernel
theorem pm_ce65 : pm_cchk (3064, (1, 106, 2, 3, [])) = true := by decide +kernel
theorem pm_ce66 : pm_cchk (3068, (0, 104, 3, 3, [])) = true := by decide +kernel
theorem pm_ce67 : pm_cchk (3072, (1, 103, 2, 3, [])) = true := by decide +kernel
theorem pm_ce68 : pm_cchk (3076, (1, 105, 2, 3, [])) = true := by decide +kernel
theorem pm_ce69 : pm_cchk (3079, (1, 107, 4, 3, [])) = true := by decide +kernel
theorem pm_ce70 : pm_cchk (3082, (0, 108, 3, 3, [])) = true := by decide +kernel
theorem pm_ce71 : pm_cchk (3086, (1, 110, 4, 3, [])) = true := by decide +kernel
theorem pm_ce72 : pm_cchk (3090, (1, 116, 4, 3, [])) = true := by decide +kernel
theorem pm_ce73 : pm_cchk (3093, (1, 120, 5, 3, [pm_U])) = true := by decide +kernel
theorem pm_ce74 : pm_cchk (3097, (1, 117, 4, 3, [pm_U, pm_U])) = true := by decide +kernel
theorem pm_ce75 : pm_cchk (3100, (1, 118, 5, 3, [pm_U, pm_U])) = true := by decide +kernel
theorem pm_ce76 : pm_cchk (3103, (1, 119, 5, 3, [pm_U])) = true := by decide +kernel
theorem pm_ce77 : pm_cchk (3106, (1, 121, 5, 3, [])) = true := by decide +kernel
theorem pm_ce78 : pm_cchk (3109, (1, 122, 4, 3, [pm_U, pm_U, pm_U])) = true := by decide +kernel
theorem pm_ce79 : pm_cchk (3112, (1, 123, 6, 3, [pm_U])) = true := by decide +kernel
theorem pm_ce80 : pm_cchk (3116, (1, 124, 3, 3, [pm_U, pm_U, pm_U, pm_U, pm_U, pm_U, pm_U, pm_U])) = true := by decide +kernel
theorem pm_ce81 : pm_cchk (3119, (1, 127, 4, 3, [pm_U, pm_U, pm_U, pm_U, pm_U, pm_U, pm_U])) = true := by decide +kernel
theorem pm_ce82 : pm_cchk (3123, (1, 129, 3, 3, [pm_U, pm_U])) = true := by decide +kernel
theorem pm_ce83 : pm_cchk (3126, (1, 131, 5, 3, [pm_U, pm_U])) = true := by decide +kernel
theorem pm_ce84 : pm_cchk (3132, (1, 130, 4, 3, [pm_U])) = true := by decide +kernel
theorem pm_ce85 : pm_cchk (3135, (1, 132, 4, 3, [pm_U, pm_U, pm_U, pm_U, pm_U, pm_U])) = true := by decide +kernel
theorem pm_ce86 : pm_cchk (3138, (1, 133, 2, 3, [pm_U])) = true := by decide +kernel
theorem pm_ce87 : pm_cchk (3142, (1, 134, 2, 3, [pm_U, pm_U, pm_U, pm_U, pm_U, pm_U])) = true := by decide +kernel
theorem pm_ce88 : pm_cchk (3145, (1, 138, 2, 3, [pm_U, pm_U, pm_U])) = true := by decide +kernel
theorem pm_ce89 : pm_cchk (4007, (1, 11, 5, 0, [pm_U])) = true := by decide +kernel
theorem pm_ce90 : pm_cchk (4017, (1, 12, 5, 0, [pm_U])) = true := by decide +kernel
theorem pm_ce91 : pm_cchk (4023, (1, 15, 5, 0, [pm_U])) = true := by decide +kernel
theorem pm_ce92 : pm_cchk (4027, (1, 18, 3, 0, [pm_U, pm_U, pm_U, pm_U])) = true := by decide +kernel
theorem pm_ce93 : pm_cchk (4031, (1, 19, 2, 0, [pm_U, pm_U, pm_U])) = true := by decide +kernel
theorem pm_ce94 : pm_cchk (4035, (1, 20, 2, 0, [pm_U])) = true := by decide +kernel
theorem pm_ce95 : pm_cchk (4038, (1, 21, 4, 0, [pm_U])) = true := by decide +kernel
theorem pm_ce96 : pm_cchk (4042, (1, 22, 3, 0, [pm_U])) = true := by decide +kernel
theorem pm_ce97 : pm_cchk (4045, (0, 0, 2, 4, [])) = true := by decide +kernel
theorem pm_ce98 : pm_cchk (4051, (2, 10, 4, 0, [pm_U, pm_U])) = true := by decide +kernel
theorem pm_ce99 : pm_cchk (4056, (2, 100, 4, 3, [pm_U])) = true := by decide +kernel
theorem pm_ce100 : pm_cchk (4057, (0, 1, 6, 4, [pm_U])) = true := by decide +kernel
theorem pm_ce101 : pm_cchk (4060, (1, 109, 5, 3, [])) = true := by decide +kernel
theorem pm_ce102 : pm_cchk (4061, (1, 102, 1, 3, [])) = true := by decide +kernel
theorem pm_ce103 : pm_cchk (4065, (0, 2, 6, 4, [pm_U])) = true := by decide +kernel
theorem pm_ce104 : pm_cchk (4067, (1, 111, 5, 3, [pm_U, pm_U])) = true := by decide +kernel
theorem pm_ce105 : pm_cchk (4068, (1, 13, 2, 0, [pm_U])) = true := by decide +kernel
theorem pm_ce106 : pm_cchk (4072, (1, 112, 2, 3, [])) = true := by decide +kernel
theorem pm_ce107 : pm_cchk (4073, (1, 14, 3, 0, [])) = true := by decide +kernel
theorem pm_ce108 : pm_cchk (4077, (1, 113, 3, 3, [])) = true := by decide +kernel
theorem pm_ce109 : pm_cchk (4078, (0, 3, 6, 4, [pm_U])) = true := by decide +kernel
theorem pm_ce110 : pm_cchk (4081, (1, 114, 5, 3, [])) = true := by decide +kernel
theorem pm_ce111 : pm_cchk (4082, (1, 16, 4, 0, [pm_U, pm_U])) = true := by decide +kernel
theorem pm_ce112 : pm_cchk (4086, (1, 115, 4, 3, [])) = true := by decide +kernel
theorem pm_ce113 : pm_cchk (4087, (1, 17, 1, 0, [pm_U, pm_U, pm_U])) = true := by decide +kernel
theorem pm_ce114 : pm_cchk (4090, (1, 125, 1, 3, [])) = true := by decide +kernel
theorem pm_ce115 : pm_cchk (4091, (0, 4, 4, 4, [pm_U])) = true := by decide +kernel
theorem pm_ce116 : pm_cchk (4094, (1, 126, 3, 3, [])) = true := by decide +kernel
theorem pm_ce117 : pm_cchk (4095, (0, 5, 3, 4, [pm_U])) = true := by decide +kernel
theorem pm_ce118 : pm_cchk (4098, (1, 128, 2, 3, [pm_U, pm_U])) = true := by decide +kernel
theorem pm_ce119 : pm_cchk (4099, (0, 6, 3, 4, [pm_U])) = true := by decide +kernel
theorem pm_ce120 : pm_cchk (4101, (1, 135, 2, 3, [pm_U])) = true := by decide +kernel
theorem pm_ce121 : pm_cchk (4102, (0, 7, 5, 4, [pm_U])) = true := by decide +kernel
theorem pm_ce122 : pm_cchk (4105, (1, 136, 4, 3, [])) = true := by decide +kernel
theorem pm_ce123 : pm_cchk (4106, (0, 8, 4, 4, [pm_U])) = true := by decide +kernel
theorem pm_ce124 : pm_cchk (4108, (1, 137, 3, 3, [pm_U])) = true := by decide +kernel
theorem pm_ce125 : pm_cchk (4109, (1, 23, 2, 0, [])) = true := by decide +kernel
theorem pm_ce126 : pm_cchk (4112, (1, 139, 2, 3, [pm_U, pm_U, pm_U])) = true := by decide +kernel
set_option maxRecDepth 20000 in
theorem pm_ctab_ok : ∀ q ∈ pm_ctab, pm_cchk q = true := by
  unfold pm_ctab
  exact List.forall_mem_cons.mpr ⟨pm_ce0, List.forall_mem_cons.mpr ⟨pm_ce1, List.forall_mem_cons.mpr ⟨pm_ce2, List.forall_mem_cons.mpr ⟨pm_ce3, List.forall_mem_cons.mpr ⟨pm_ce4, List.forall_mem_cons.mpr ⟨pm_ce5, List.forall_mem_cons.mpr ⟨pm_ce6, List.forall_mem_cons.mpr ⟨pm_ce7, List.forall_mem_cons.mpr ⟨pm_ce8, List.forall_mem_cons.mpr ⟨pm_ce9, List.forall_mem_cons.mpr ⟨pm_ce10, List.forall_mem_cons.mpr ⟨pm_ce11, List.forall_mem_cons.mpr ⟨pm_ce12, List.forall_mem_cons.mpr ⟨pm_ce13, List.forall_mem_cons.mpr ⟨pm_ce14, List.forall_mem_cons.mpr ⟨pm_ce15, List.forall_mem_cons.mpr ⟨pm_ce16, List.forall_mem_cons.mpr ⟨pm_ce17, List.forall_mem_cons.mpr ⟨pm_ce18, List.forall_mem_cons.mpr ⟨pm_ce19, List.forall_mem_cons.mpr ⟨pm_ce20, List.forall_mem_cons.mpr ⟨pm_ce21, List.forall_mem_cons.mpr ⟨pm_ce22, List.forall_mem_cons.mpr ⟨pm_ce23, List.forall_mem_cons.mpr ⟨pm_ce24, List.forall_mem_cons.mpr ⟨pm_ce25, List.forall_mem_cons.mpr ⟨pm_ce26, List.forall_mem_cons.mpr ⟨pm_ce27, List.forall_mem_cons.mpr ⟨pm_ce28, List.forall_mem_cons.mpr ⟨pm_ce29, List.forall_mem_cons.mpr ⟨pm_ce30, List.forall_mem_cons.mpr ⟨pm_ce31, List.forall_mem_cons.mpr ⟨pm_ce32, List.forall_mem_cons.mpr ⟨pm_ce33, List.forall_mem_cons.mpr ⟨pm_ce34, List.forall_mem_cons.mpr ⟨pm_ce35, List.forall_mem_cons.mpr ⟨pm_ce36, List.forall_mem_cons.mpr ⟨pm_ce37, List.forall_mem_cons.mpr ⟨pm_ce38, List.forall_mem_cons.mpr ⟨pm_ce39, List.forall_mem_cons.mpr ⟨pm_ce40, List.forall_mem_cons.mpr ⟨pm_ce41, List.forall_mem_cons.mpr ⟨pm_ce42, List.forall_mem_cons.mpr ⟨pm_ce43, List.forall_mem_cons.mpr ⟨pm_ce44, List.forall_mem_cons.mpr ⟨pm_ce45, List.forall_mem_cons.mpr ⟨pm_ce46, List.forall_mem_cons.mpr ⟨pm_ce47, List.forall_mem_cons.mpr ⟨pm_ce48, List.forall_mem_cons.mpr ⟨pm_ce49, List.forall_mem_cons.mpr ⟨pm_ce50, List.forall_mem_cons.mpr ⟨pm_ce51, List.forall_mem_cons.mpr ⟨pm_ce52, List.forall_mem_cons.mpr ⟨pm_ce53, List.forall_mem_cons.mpr ⟨pm_ce54, List.forall_mem_cons.mpr ⟨pm_ce55, List.forall_mem_cons.mpr ⟨pm_ce56, List.forall_mem_cons.mpr ⟨pm_ce57, List.forall_mem_cons.mpr ⟨pm_ce58, List.forall_mem_cons.mpr ⟨pm_ce59, List.forall_mem_cons.mpr ⟨pm_ce60, List.forall_mem_cons.mpr ⟨pm_ce61, List.forall_mem_cons.mpr ⟨pm_ce62, List.forall_mem_cons.mpr ⟨pm_ce63, List.forall_mem_cons.mpr ⟨pm_ce64, List.forall_mem_cons.mpr ⟨pm_ce65, List.forall_mem_cons.mpr ⟨pm_ce66, List.forall_mem_cons.mpr ⟨pm_ce67, List.forall_mem_cons.mpr ⟨pm_ce68, List.forall_mem_cons.mpr ⟨pm_ce69, List.forall_mem_cons.mpr ⟨pm_ce70, List.forall_mem_cons.mpr ⟨pm_ce71, List.forall_mem_cons.mpr ⟨pm_ce72, List.forall_mem_cons.mpr ⟨pm_ce73, List.forall_mem_cons.mpr ⟨pm_ce74, List.forall_mem_cons.mpr ⟨pm_ce75, List.forall_mem_cons.mpr ⟨pm_ce76, List.forall_mem_cons.mpr ⟨pm_ce77, List.forall_mem_cons.mpr ⟨pm_ce78, List.forall_mem_cons.mpr ⟨pm_ce79, List.forall_mem_cons.mpr ⟨pm_ce80, List.forall_mem_cons.mpr ⟨pm_ce81, List.forall_mem_cons.mpr ⟨pm_ce82, List.forall_mem_cons.mpr ⟨pm_ce83, List.forall_mem_cons.mpr ⟨pm_ce84, List.forall_mem_cons.mpr ⟨pm_ce85, List.forall_mem_cons.mpr ⟨pm_ce86, List.forall_mem_cons.mpr ⟨pm_ce87, List.forall_mem_cons.mpr ⟨pm_ce88, List.forall_mem_cons.mpr ⟨pm_ce89, List.forall_mem_cons.mpr ⟨pm_ce90, List.forall_mem_cons.mpr ⟨pm_ce91, List.forall_mem_cons.mpr ⟨pm_ce92, List.forall_mem_cons.mpr ⟨pm_ce93, List.forall_mem_cons.mpr ⟨pm_ce94, List.forall_mem_cons.mpr ⟨pm_ce95, List.forall_mem_cons.mpr ⟨pm_ce96, List.forall_mem_cons.mpr ⟨pm_ce97, List.forall_mem_cons.mpr ⟨pm_ce98, List.forall_mem_cons.mpr ⟨pm_ce99, List.forall_mem_cons.mpr ⟨pm_ce100, List.forall_mem_cons.mpr ⟨pm_ce101, List.forall_mem_cons.mpr ⟨pm_ce102, List.forall_mem_cons.mpr ⟨pm_ce103, List.forall_mem_cons.mpr ⟨pm_ce104, List.forall_mem_cons.mpr ⟨pm_ce105, List.forall_mem_cons.mpr ⟨pm_ce106, List.forall_mem_cons.mpr ⟨pm_ce107, List.forall_mem_cons.mpr ⟨pm_ce108, List.forall_mem_cons.mpr ⟨pm_ce109, List.forall_mem_cons.mpr ⟨pm_ce110, List.forall_mem_cons.mpr ⟨pm_ce111, List.forall_mem_cons.mpr ⟨pm_ce112, List.forall_mem_cons.mpr ⟨pm_ce113, List.forall_mem_cons.mpr ⟨pm_ce114, List.forall_mem_cons.mpr ⟨pm_ce115, List.forall_mem_cons.mpr ⟨pm_ce116, List.forall_mem_cons.mpr ⟨pm_ce117, List.forall_mem_cons.mpr ⟨pm_ce118, List.forall_mem_cons.mpr ⟨pm_ce119, List.forall_mem_cons.mpr ⟨pm_ce120, List.forall_mem_cons.mpr ⟨pm_ce121, List.forall_mem_cons.mpr ⟨pm_ce122, List.forall_mem_cons.mpr ⟨pm_ce123, List.forall_mem_cons.mpr ⟨pm_ce124, List.forall_mem_cons.mpr ⟨pm_ce125, List.forall_mem_cons.mpr ⟨pm_ce126, fun _ h => absurd h List.not_mem_nil⟩⟩⟩⟩⟩⟩⟩⟩⟩⟩⟩⟩⟩⟩⟩⟩⟩⟩⟩⟩⟩⟩⟩⟩⟩⟩⟩⟩⟩⟩⟩⟩⟩⟩⟩⟩⟩⟩⟩⟩⟩⟩⟩⟩⟩⟩⟩⟩⟩⟩⟩⟩⟩⟩⟩⟩⟩⟩⟩⟩⟩⟩⟩⟩⟩⟩⟩⟩⟩⟩⟩⟩⟩⟩⟩⟩⟩⟩⟩⟩⟩⟩⟩⟩⟩⟩⟩⟩⟩⟩⟩⟩⟩⟩⟩⟩⟩⟩⟩⟩⟩⟩⟩⟩⟩⟩⟩⟩⟩⟩⟩⟩⟩⟩⟩⟩⟩⟩⟩⟩⟩⟩⟩⟩⟩⟩⟩
theorem pm_lib_ok : (pm_inT (.instanceMethod Lib.objectInit) && pm_inT (.static Lib.Math.max.name) && pm_inT (.static Lib.Math.min.name) && pm_inT (.static Lib.Math.abs.name) && pm_inT (.initialized "java/lang/Math") && pm_inT (.arrayClass .int) && pm_inT (.arrayClass .boolean) && pm_inT (.arrayClass .long)) = true := by decide +kernel
theorem pm_lib_code : Cond.code Lib.objectInit ⟨#[0xb1]⟩ 1 none ∈ pm_gw ∧ Cond.code Lib.Math.max.name Lib.Math.max.code 2 (some .int) ∈ pm_gw ∧ Cond.code Lib.Math.min.name Lib.Math.min.code 2 (some .int) ∈ pm_gw ∧ Cond.code Lib.Math.abs.name Lib.Math.abs.code 1 (some .int) ∈ pm_gw := by
  refine ⟨List.mem_filter.mpr ⟨List.mem_append_right _ (List.mem_of_getElem? (i := 19) rfl), rfl⟩, List.mem_filter.mpr ⟨List.mem_append_right _ (List.mem_of_getElem? (i := 28) rfl), rfl⟩, List.mem_filter.mpr ⟨List.mem_append_right _ (List.mem_of_getElem? (i := 25) rfl), rfl⟩, List.mem_filter.mpr ⟨List.mem_append_right _ (List.mem_of_getElem? (i := 203) rfl), rfl⟩⟩
/-- objects made -/
def pm_dv (t : FieldType) : Value := defaultValue t
def pm_nchk (q : Nat × Nat × List Value) : Bool := match pm_cl[q.2.1]? with
  | some (C, T, N) => pm_inT (.classLink (pm_cn (q.1 / 1000)) (q.1 % 1000) C) && pm_inT (.instantiable C N) && pm_inT (.initialized C) && decide (q.2.2.length = N) && (List.range N).all (fun k => match parseFieldDescriptor (T k).2.2.1 with
    | some t => decide (defaultValue t = q.2.2.getD k .null)
    | none => false) && q.2.2.all (fun v => match v with | .ref _ => false | _ => true)
  | none => false
theorem pm_ntab_ok : pm_ntab.all pm_nchk = true := by decide +kernel
theorem pm_ltab_ok : pm_ltab.all (fun q => pm_inT (.constantLong (pm_cn (q.1 / 1000)) (q.1 % 1000) q.2)) = true := by decide +kernel
/-- arrays of boxes -/
def pm_ak (j : Nat) (i : Instr) : Bool := match i with
  | .anewarray x => pm_inT (.classLink (pm_cn (pm_own j)) x "StowPlan$Box")
  | _ => true
theorem pm_an_ok : pm_tabs.all (fun q => q.2.all (fun r => pm_ak q.1 r.2.1)) = true := by decide +kernel
