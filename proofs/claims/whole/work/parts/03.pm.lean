/-! A small pure machine: frames over an abstract memory of two regions; what it runs, the JVM runs (part 05). Numbers of cells are 2k (region 0) and 2k+1 (region 1); number 1 is the script. -/
abbrev pm_C : Type := (Nat × vp_A) ⊕ (Nat × List Value)
abbrev pm_A : Type := Nat × (Nat → Option pm_C)
abbrev pm_M : Type := (pm_A × pm_A) × (Nat × Nat)
abbrev pm_F : Type := Nat × Nat × List Value × List Value
abbrev pm_O : Type := Option Value ⊕ String
abbrev pm_R : Type := pm_O × pm_M
abbrev pm_P : Type := (pm_F × pm_M) ⊕ (((pm_F × pm_M) × (Option Value → pm_F) × (String → Option (Option pm_F))) ⊕ Option pm_R)
abbrev pm_S : Type := Nat × (Nat → Int32)
abbrev pm_U : Value := .retAddr 0
def g0 (k : Nat) : Nat := 2 * k
def g1 (k : Nat) : Nat := 2 * k + 1
def pm_get (M : pm_M) (q : Nat) : Option pm_C := if q % 2 = 0 then M.1.1.2 (q / 2) else M.1.2.2 (q / 2)
def pm_set (M : pm_M) (q : Nat) (c : pm_C) : pm_M :=
  if q % 2 = 0 then (((M.1.1.1, va_up M.1.1.2 (q / 2) (some c)), M.1.2), M.2) else ((M.1.1, (M.1.2.1, va_up M.1.2.2 (q / 2) (some c))), M.2)
def pm_at (M : pm_M) (r : Bool) : Nat := if r = false then g0 M.1.1.1 else g1 M.1.2.1
def pm_new (M : pm_M) (r : Bool) (c : pm_C) (n : Nat) : pm_M :=
  if r = false then (((M.1.1.1 + 1, va_up M.1.1.2 M.1.1.1 (some c)), M.1.2), (M.2.1 + 1, M.2.2 + n)) else ((M.1.1, (M.1.2.1 + 1, va_up M.1.2.2 M.1.2.1 (some c))), (M.2.1 + 1, M.2.2 + n))
def pm_thr (M : pm_M) : pm_M := (M.1, (M.2.1 + 1, M.2.2 + 6))
theorem pm_get_g0 (a b : pm_A) (n : Nat × Nat) (k : Nat) : pm_get ((a, b), n) (g0 k) = a.2 k := by
  unfold pm_get g0
  rw [if_pos (by omega), show 2 * k / 2 = k by omega]
theorem pm_get_g1 (a b : pm_A) (n : Nat × Nat) (k : Nat) : pm_get ((a, b), n) (g1 k) = b.2 k := by
  unfold pm_get g1
  rw [if_neg (by omega), show (2 * k + 1) / 2 = k by omega]
theorem pm_set_g0 (a b : pm_A) (n : Nat × Nat) (k : Nat) (c : pm_C) : pm_set ((a, b), n) (g0 k) c = (((a.1, va_up a.2 k (some c)), b), n) := by
  unfold pm_set g0
  rw [if_pos (by omega), show 2 * k / 2 = k by omega]
theorem pm_set_g1 (a b : pm_A) (n : Nat × Nat) (k : Nat) (c : pm_C) : pm_set ((a, b), n) (g1 k) c = ((a, (b.1, va_up b.2 k (some c))), n) := by
  unfold pm_set g1
  rw [if_neg (by omega), show (2 * k + 1) / 2 = k by omega]
theorem pm_g0_ne1 (k : Nat) : ¬ g0 k = 1 := by unfold g0; omega
theorem pm_g0_inj (a b : Nat) : g0 a = g0 b ↔ a = b := by unfold g0; omega
theorem pm_g1_inj (a b : Nat) : g1 a = g1 b ↔ a = b := by unfold g1; omega
theorem pm_g1_ne1 (k : Nat) : ¬ g1 (k + 1) = 1 := by unfold g1; omega
/-- what one step asks of the rest -/
def pm_ex (k : Nat → pm_F → pm_M → Option pm_R) (d : Nat) : pm_P → Option pm_R
  | .inl (f, M) => k d f M
  | .inr (.inl ((f, M), c, h)) => match d with
    | 0 => none
    | d' + 1 => match k d' f M with
      | none => none
      | some (.inl v, M') => k (d' + 1) (c v) M'
      | some (.inr E, M') => match h E with
        | some (some f') => k (d' + 1) f' M'
        | some none => some (.inr E, M')
        | none => none
  | .inr (.inr r) => r
theorem pm_ex_mono {k k' : Nat → pm_F → pm_M → Option pm_R} (hk : ∀ d f M r, k d f M = some r → k' d f M = some r) {d : Nat} {P : pm_P} {r : pm_R} (h : pm_ex k d P = some r) : pm_ex k' d P = some r := by
  rcases P with ⟨f, M⟩ | ⟨⟨f, M⟩, c, hh⟩ | r0
  · exact hk _ _ _ _ h
  · cases d with
    | zero => cases h
    | succ d' =>
      simp only [pm_ex] at h ⊢
      cases h1 : k d' f M with
      | none => rw [h1] at h; cases h
      | some x =>
        obtain ⟨o, M'⟩ := x
        rw [h1] at h
        rw [hk _ _ _ _ h1]
        cases o with
        | inl v => exact hk _ _ _ _ h
        | inr E =>
          simp only at h ⊢
          rcases h2 : hh E with _ | _ | f'
          · rw [h2] at h; cases h
          · rw [h2] at h; exact h
          · rw [h2] at h; exact hk _ _ _ _ h
  · exact h
section PMRUN
variable (pl : pm_F → pm_M → pm_P)
def pm_run : Nat → Nat → pm_F → pm_M → Option pm_R
  | 0, _, _, _ => none
  | n + 1, d, f, M => pm_ex (pm_run n) d (pl f M)
theorem pm_run_step {n d : Nat} {f : pm_F} {M : pm_M} : pm_run pl (n + 1) d f M = pm_ex (pm_run pl n) d (pl f M) := rfl
theorem pm_run_mono1 : ∀ (n d : Nat) (f : pm_F) (M : pm_M) (r : pm_R), pm_run pl n d f M = some r → pm_run pl (n + 1) d f M = some r
  | 0, d, f, M, r, h => by cases h
  | n + 1, d, f, M, r, h => by
    rw [pm_run_step] at h ⊢
    exact pm_ex_mono (pm_run_mono1 n) h
theorem pm_run_mono {n n' : Nat} (hn : n ≤ n') {d : Nat} {f : pm_F} {M : pm_M} {r : pm_R} (h : pm_run pl n d f M = some r) : pm_run pl n' d f M = some r := by
  induction hn with
  | refl => exact h
  | step _ ih => exact pm_run_mono1 pl _ _ _ _ _ ih
theorem pm_run_det {n n' d : Nat} {f : pm_F} {M : pm_M} {r r' : pm_R} (h : pm_run pl n d f M = some r) (h' : pm_run pl n' d f M = some r') : r = r' := by
  have h1 := pm_run_mono pl (Nat.le_max_left n n') h
  have h2 := pm_run_mono pl (Nat.le_max_right n n') h'
  exact Option.some.inj (h1.symm.trans h2)
/-- what a frame comes to -/
noncomputable def pm_fr (d : Nat) (f : pm_F) (M : pm_M) : Option pm_R := by
  classical
  exact if h : ∃ r, ∃ n, pm_run pl n d f M = some r then some (Classical.choose h) else none
theorem pm_fr_iff {d : Nat} {f : pm_F} {M : pm_M} {r : pm_R} : pm_fr pl d f M = some r ↔ ∃ n, pm_run pl n d f M = some r := by
  unfold pm_fr
  constructor
  · intro h
    split at h
    · rename_i hx
      have := Classical.choose_spec hx
      cases Option.some.inj h
      exact this
    · cases h
  · rintro ⟨n, hn⟩
    have hx : ∃ r, ∃ n, pm_run pl n d f M = some r := ⟨r, n, hn⟩
    rw [dif_pos hx]
    obtain ⟨n', hn'⟩ := Classical.choose_spec hx
    rw [pm_run_det pl hn' hn]
theorem pm_fr_eq (d : Nat) (f : pm_F) (M : pm_M) : pm_fr pl d f M = pm_ex (pm_fr pl) d (pl f M) := by
  apply Option.ext
  intro r
  constructor
  · intro h
    obtain ⟨n, hn⟩ := (pm_fr_iff pl).mp h
    cases n with
    | zero => cases hn
    | succ n =>
      rw [pm_run_step] at hn
      exact pm_ex_mono (fun d f M r h => (pm_fr_iff pl).mpr ⟨n, h⟩) hn
  · intro h
    refine (pm_fr_iff pl).mpr ?_
    rcases hP : pl f M with ⟨f1, M1⟩ | ⟨⟨f1, M1⟩, c, hh⟩ | r0
    · rw [hP] at h
      obtain ⟨n, hn⟩ := (pm_fr_iff pl).mp h
      refine ⟨n + 1, ?_⟩
      rw [pm_run_step, hP]
      exact hn
    · rw [hP] at h
      cases d with
      | zero => cases h
      | succ d' =>
        simp only [pm_ex] at h
        cases h1 : pm_fr pl d' f1 M1 with
        | none => rw [h1] at h; cases h
        | some x =>
          obtain ⟨o, M'⟩ := x
          rw [h1] at h
          obtain ⟨n1, hn1⟩ := (pm_fr_iff pl).mp h1
          cases o with
          | inl v =>
            obtain ⟨n2, hn2⟩ := (pm_fr_iff pl).mp h
            refine ⟨max n1 n2 + 1, ?_⟩
            rw [pm_run_step, hP]
            simp only [pm_ex]
            rw [pm_run_mono pl (Nat.le_max_left n1 n2) hn1]
            exact pm_run_mono pl (Nat.le_max_right n1 n2) hn2
          | inr E =>
            simp only at h
            rcases h2 : hh E with _ | _ | f'
            · rw [h2] at h
              cases h
            · rw [h2] at h
              refine ⟨n1 + 1, ?_⟩
              rw [pm_run_step, hP]
              simp only [pm_ex]
              rw [hn1]
              simp only [h2]
              exact h
            · rw [h2] at h
              obtain ⟨n2, hn2⟩ := (pm_fr_iff pl).mp h
              refine ⟨max n1 n2 + 1, ?_⟩
              rw [pm_run_step, hP]
              simp only [pm_ex]
              rw [pm_run_mono pl (Nat.le_max_left n1 n2) hn1]
              simp only [h2]
              exact pm_run_mono pl (Nat.le_max_right n1 n2) hn2
    · rw [hP] at h
      refine ⟨1, ?_⟩
      rw [pm_run_step, hP]
      exact h
end PMRUN
