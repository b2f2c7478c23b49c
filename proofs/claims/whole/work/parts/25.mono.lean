/-! What is made is counted, and never less. -/
def pm_le (M M' : pm_M) : Prop := M.2.1 ≤ M'.2.1 ∧ M.2.2 ≤ M'.2.2
theorem pm_le.rf {M : pm_M} : pm_le M M := ⟨Nat.le_refl _, Nat.le_refl _⟩
theorem pm_le.tr {M M' M'' : pm_M} (h : pm_le M M') (h' : pm_le M' M'') : pm_le M M'' := ⟨Nat.le_trans h.1 h'.1, Nat.le_trans h.2 h'.2⟩
def pm_ok (M : pm_M) : pm_P → Prop
  | .inl (_, M') => pm_le M M'
  | .inr (.inl ((_, M'), _, _)) => M' = M
  | .inr (.inr (some (_, M'))) => pm_le M M'
  | .inr (.inr none) => True
theorem ok_J {j nx : Nat} {L st : List Value} {M M' : pm_M} (h : pm_le M M') : pm_ok M (pm_J j nx L st M') := h
theorem ok_X {M : pm_M} : pm_ok M pm_X := trivial
theorem pm_le_set {M : pm_M} {q : Nat} {c : pm_C} : pm_le M (pm_set M q c) := by
  unfold pm_le
  rw [(pm_set_b M q c).2.2]
  exact pm_le.rf
theorem pm_le_new {M : pm_M} {r : Bool} {c : pm_C} {n : Nat} : pm_le M (pm_new M r c n) := by
  unfold pm_le pm_new
  cases r <;> simp only [if_true, Bool.true_eq_false, if_false] <;> exact ⟨Nat.le_succ _, Nat.le_add_right _ _⟩
theorem pm_le_thr {M : pm_M} : pm_le M (pm_thr M) := ⟨Nat.le_succ _, Nat.le_add_right _ _⟩
section OKS
variable {S : pm_S} {t i ci w c0 j nx tg a b df n j' vi : Nat} {lo : Int} {tgs : List Nat} {E : String} {rg : Bool} {fs pad : List Value} {hl : List (String × Nat × Nat)} {z : Int32} {v : Value} {q : Bool} {L st : List Value} {M : pm_M}
theorem ok_old : pm_ok M (pm_old t i j nx L st M) := by unfold pm_old; split <;> first | exact ok_X | exact ok_J pm_le.rf
theorem ok_ost : pm_ok M (pm_ost t i j nx L st M) := by unfold pm_ost; (repeat' split) <;> first | exact ok_X | exact ok_J pm_le.rf
theorem ok_osl : pm_ok M (pm_osl i j nx L st M) := by unfold pm_osl; (repeat' split) <;> first | exact ok_X | exact ok_J pm_le.rf
theorem ok_ocs : pm_ok M (pm_ocs v j nx L st M) := ok_J pm_le.rf
theorem ok_oii {f : Int32 → Int32 → Int32} : pm_ok M (pm_oii f j nx L st M) := by unfold pm_oii; (repeat' split) <;> first | exact ok_X | exact ok_J pm_le.rf
theorem ok_oir : pm_ok M (pm_oir j nx L st M q) := by unfold pm_oir; (repeat' split) <;> first | exact ok_X | exact ok_J pm_le.rf
theorem ok_oi1 {f : Int32 → Value} : pm_ok M (pm_oi1 f j nx L st M) := by unfold pm_oi1; (repeat' split) <;> first | exact ok_X | exact ok_J pm_le.rf
theorem ok_ol1 {f : Int64 → Value} : pm_ok M (pm_ol1 f j nx L st M) := by unfold pm_ol1; (repeat' split) <;> first | exact ok_X | exact ok_J pm_le.rf
theorem ok_oll {f : Int64 → Int64 → Value} : pm_ok M (pm_oll f j nx L st M) := by unfold pm_oll; (repeat' split) <;> first | exact ok_X | exact ok_J pm_le.rf
theorem ok_oli {f : Int64 → Int32 → Int64} : pm_ok M (pm_oli f j nx L st M) := by unfold pm_oli; (repeat' split) <;> first | exact ok_X | exact ok_J pm_le.rf
theorem ok_oc2eq : pm_ok M (pm_oc2eq j nx tg L st M) := by unfold pm_oc2eq; (repeat' split) <;> first | exact ok_X | exact ok_J pm_le.rf
theorem ok_oc2ne : pm_ok M (pm_oc2ne j nx tg L st M) := by unfold pm_oc2ne; (repeat' split) <;> first | exact ok_X | exact ok_J pm_le.rf
theorem ok_oc2lt : pm_ok M (pm_oc2lt j nx tg L st M) := by unfold pm_oc2lt; (repeat' split) <;> first | exact ok_X | exact ok_J pm_le.rf
theorem ok_oc2ge : pm_ok M (pm_oc2ge j nx tg L st M) := by unfold pm_oc2ge; (repeat' split) <;> first | exact ok_X | exact ok_J pm_le.rf
theorem ok_oc2gt : pm_ok M (pm_oc2gt j nx tg L st M) := by unfold pm_oc2gt; (repeat' split) <;> first | exact ok_X | exact ok_J pm_le.rf
theorem ok_oc2le : pm_ok M (pm_oc2le j nx tg L st M) := by unfold pm_oc2le; (repeat' split) <;> first | exact ok_X | exact ok_J pm_le.rf
theorem ok_oc1eq : pm_ok M (pm_oc1eq j nx tg L st M) := by unfold pm_oc1eq; (repeat' split) <;> first | exact ok_X | exact ok_J pm_le.rf
theorem ok_oc1ne : pm_ok M (pm_oc1ne j nx tg L st M) := by unfold pm_oc1ne; (repeat' split) <;> first | exact ok_X | exact ok_J pm_le.rf
theorem ok_oc1lt : pm_ok M (pm_oc1lt j nx tg L st M) := by unfold pm_oc1lt; (repeat' split) <;> first | exact ok_X | exact ok_J pm_le.rf
theorem ok_oc1ge : pm_ok M (pm_oc1ge j nx tg L st M) := by unfold pm_oc1ge; (repeat' split) <;> first | exact ok_X | exact ok_J pm_le.rf
theorem ok_oc1gt : pm_ok M (pm_oc1gt j nx tg L st M) := by unfold pm_oc1gt; (repeat' split) <;> first | exact ok_X | exact ok_J pm_le.rf
theorem ok_oc1le : pm_ok M (pm_oc1le j nx tg L st M) := by unfold pm_oc1le; (repeat' split) <;> first | exact ok_X | exact ok_J pm_le.rf
theorem ok_onu : pm_ok M (pm_onu a b j L st M) := by unfold pm_onu; (repeat' split) <;> first | exact ok_X | exact ok_J pm_le.rf
theorem ok_oac : pm_ok M (pm_oac a b j L st M) := by unfold pm_oac; (repeat' split) <;> first | exact ok_X | exact ok_J pm_le.rf
theorem ok_ogo : pm_ok M (pm_ogo j tg L st M) := ok_J pm_le.rf
theorem ok_oinc : pm_ok M (pm_oinc i z j nx L st M) := by unfold pm_oinc; (repeat' split) <;> first | exact ok_X | exact ok_J pm_le.rf
theorem ok_odup : pm_ok M (pm_odup j nx L st M) := by unfold pm_odup; (repeat' split) <;> first | exact ok_X | exact ok_J pm_le.rf
theorem ok_odup1 : pm_ok M (pm_odup1 j nx L st M) := by unfold pm_odup1; (repeat' split) <;> first | exact ok_X | exact ok_J pm_le.rf
theorem ok_odup2 : pm_ok M (pm_odup2 j nx L st M) := by unfold pm_odup2; (repeat' split) <;> first | exact ok_X | exact ok_J pm_le.rf
theorem ok_opop : pm_ok M (pm_opop j nx L st M) := by unfold pm_opop; (repeat' split) <;> first | exact ok_X | exact ok_J pm_le.rf
theorem ok_ogf : pm_ok M (pm_ogf ci i j nx L st M) := by unfold pm_ogf; (repeat' split) <;> first | exact ok_X | exact ok_J pm_le.rf
theorem ok_opf : pm_ok M (pm_opf ci i t j nx L st M) := by unfold pm_opf; (repeat' split) <;> first | exact ok_X | exact ok_J pm_le_set
theorem ok_oal : pm_ok M (pm_oal S t j nx L st M) := by unfold pm_oal; (repeat' split) <;> first | exact ok_X | exact ok_J pm_le.rf
theorem ok_oas : pm_ok M (pm_oas w t c0 j nx L st M) := by unfold pm_oas; (repeat' split) <;> first | exact ok_X | exact ok_J pm_le_set
theorem ok_oln : pm_ok M (pm_oln S j nx L st M) := by unfold pm_oln; (repeat' split) <;> first | exact ok_X | exact ok_J pm_le.rf
theorem ok_one : pm_ok M (pm_one ci fs rg j nx L st M) := ok_J pm_le_new
theorem ok_ona : pm_ok M (pm_ona w t rg j nx L st M) := by unfold pm_ona; (repeat' split) <;> first | exact ok_X | exact ok_J pm_le_new
theorem ok_ocl : pm_ok M (pm_ocl vi j' n ci pad hl j nx L st M) := by unfold pm_ocl; (repeat' split) <;> first | exact ok_X | exact rfl
theorem ok_ort : pm_ok M (pm_ort t st M) := by unfold pm_ort; (repeat' split) <;> first | exact ok_X | exact pm_le.rf
theorem ok_oth : pm_ok M (pm_oth E st M) := by unfold pm_oth; split <;> first | exact pm_le_thr | exact ok_X
theorem ok_omx {f : Int32 → Int32 → Int32} : pm_ok M (pm_omx f j nx L st M) := by unfold pm_omx; split <;> first | exact ok_oii | exact ok_X
theorem ok_oab {f : Int32 → Value} : pm_ok M (pm_oab f j nx L st M) := by unfold pm_oab; split <;> first | exact ok_oi1 | exact ok_X
theorem ok_ots : pm_ok M (pm_ots df lo tgs j L st M) := by unfold pm_ots; (repeat' split) <;> first | exact ok_X | exact ok_J pm_le.rf
theorem ok_ooi : pm_ok M (pm_ooi j nx L st M) := by unfold pm_ooi; (repeat' split) <;> first | exact ok_X | exact ok_J pm_le.rf
end OKS
set_option maxHeartbeats 4000000 in
theorem ok_dec {S : pm_S} {j pc nx tg : Nat} {L st : List Value} {M : pm_M} {i : Instr} : pm_ok M (pm_dec S j pc nx tg L st M i) := by
  unfold pm_dec
  (repeat' split) <;> first | exact ok_X | exact ok_old | exact ok_ost | exact ok_osl | exact ok_ocs | exact ok_oii | exact ok_oir | exact ok_oi1 | exact ok_oll | exact ok_oli | exact ok_oc2eq | exact ok_oc2ne | exact ok_oc2lt | exact ok_oc2ge | exact ok_oc2gt | exact ok_oc2le | exact ok_oc1eq | exact ok_oc1ne | exact ok_oc1lt | exact ok_oc1ge | exact ok_oc1gt | exact ok_oc1le | exact ok_onu | exact ok_oac | exact ok_ogo | exact ok_oinc | exact ok_odup | exact ok_odup1 | exact ok_odup2 | exact ok_opop | exact ok_ogf | exact ok_opf | exact ok_oal | exact ok_oas | exact ok_oln | exact ok_one | exact ok_ona | exact ok_ocl | exact ok_ort | exact ok_oth | exact ok_omx | exact ok_oab | exact ok_ots | exact ok_ooi
theorem ok_pl {S : pm_S} {f : pm_F} {M : pm_M} : pm_ok M (pm_pl S f M) := by
  unfold pm_pl
  split
  · exact ok_dec
  · exact ok_X
theorem pm_run_le {S : pm_S} : ∀ (n d : Nat) (f : pm_F) (M : pm_M) (o : pm_O) (M' : pm_M), pm_run (pm_pl S) n d f M = some (o, M') → pm_le M M'
  | 0, d, f, M, o, M', h => by cases h
  | n + 1, d, f, M, o, M', h => by
    rw [pm_run_step] at h
    have hok := ok_pl (S := S) (f := f) (M := M)
    rcases hP : pm_pl S f M with ⟨f1, M1⟩ | ⟨⟨f1, M1⟩, c, hh⟩ | r0
    · rw [hP] at h hok
      exact pm_le.tr hok (pm_run_le n _ _ _ _ _ h)
    · rw [hP] at h hok
      have hok : M1 = M := hok
      subst hok
      cases d with
      | zero => cases h
      | succ d' =>
        simp only [pm_ex] at h
        cases h1 : pm_run (pm_pl S) n d' f1 M1 with
        | none => rw [h1] at h; cases h
        | some x =>
          obtain ⟨o1, M2⟩ := x
          rw [h1] at h
          have g1 := pm_run_le n _ _ _ _ _ h1
          cases o1 with
          | inl v => exact pm_le.tr g1 (pm_run_le n _ _ _ _ _ h)
          | inr E =>
            simp only at h
            rcases h2 : hh E with _ | _ | f'
            · rw [h2] at h; cases h
            · rw [h2] at h; cases h; exact g1
            · rw [h2] at h; exact pm_le.tr g1 (pm_run_le n _ _ _ _ _ h)
    · rw [hP] at h hok
      have h : r0 = some (o, M') := h
      subst h
      exact hok
