def pm_len : Instr → Nat
  | .aload _ => 2
  | .iload _ => 2
  | .lload _ => 2
  | .astore _ => 2
  | .istore _ => 2
  | .lstore _ => 2
  | .bipush _ => 2
  | .sipush _ => 3
  | .ldc _ => 2
  | .ldc2_w _ => 3
  | .if_icmp _ _ => 3
  | .ifCond _ _ => 3
  | .ifnull _ => 3
  | .ifnonnull _ => 3
  | .if_acmp _ _ => 3
  | .goto _ => 3
  | .iinc _ _ => 3
  | .getfield _ => 3
  | .putfield _ => 3
  | .new _ => 3
  | .newarray _ => 2
  | .anewarray _ => 3
  | .invokestatic _ => 3
  | .invokevirtual _ => 3
  | .invokespecial _ => 3
  | .tableswitch _ _ _ _ => 0
  | _ => 1
theorem pm_len_ok : pm_tabs.all (fun q => q.2.all (fun r => decide (pm_len r.2.1 = 0) || decide (r.2.2.1 = r.1 + pm_len r.2.1))) = true := by decide +kernel
theorem pm_ins_len {j pc : Nat} {i : Instr} {nx tg : Nat} (h : pm_ins j pc = some (i, nx, tg)) (hi : pm_len i ≠ 0) : nx = pc + pm_len i := by
  obtain ⟨t, h1, h2⟩ := pm_ins_mem h
  have h3 := List.all_eq_true.mp (List.all_eq_true.mp pm_len_ok _ h1) _ h2
  simp only [Bool.or_eq_true, decide_eq_true_eq] at h3
  exact h3.resolve_left hi
