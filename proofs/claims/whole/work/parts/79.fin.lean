/-! The whole. -/
theorem whole_ok : pm_whole := by
  intro S hS
  obtain ⟨c, h1, h2, h3⟩ := pro (S := S) (d := 980) hS
  obtain ⟨M', k1, k2, k3⟩ := law_l (S := S) (d := 980) hS 512 3 _ pm_U pm_U (by omega) (by omega) (start_ok (x1 := sv S 0) (x2 := sv S 1) (x3 := sv S 2) (c := c))
  have k2 : M'.2.1 ≤ c.1 + 1 + 512 := k2
  have k3 : M'.2.2 ≤ c.2 + 1 + 9 * 512 := k3
  rw [← i_1] at k1
  exact ⟨M', h1.trans k1, by omega, by omega⟩
theorem i_vc : Claimed_1_1 ∧ Claimed_1_2 := pm_vc whole_ok
