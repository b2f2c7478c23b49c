/-! The class's memory. at: size, weight, port, kind of a box; ps: where it lies; wh: who lies in a cell; pg plugs, ld loads, kp who is kept apart; cc, cd, tr, be: what a fill works with; ou: the law's answer; X: the rest. -/
abbrev at_T : Type := Nat → Nat × Nat × Nat × Nat
abbrev ps_T : Type := Nat → Option (Nat × Nat × Nat)
abbrev wh_T : Type := Nat → Nat → Nat → Option Nat
abbrev pg_T : Type := Nat → Nat → Nat → Bool
abbrev wy_T : Type := Nat × Nat × (Nat → Option Nat) × (Nat → Nat)
def bn (k : Nat) : Nat := g0 (k + 13)
def bi (b : Bool) : Int32 := if b = true then w 1 else w 0
def pb (o : Option (Nat × Nat × Nat)) : Int32 := match o with
  | none => m1
  | some (b, _, _) => w b
def pr (o : Option (Nat × Nat × Nat)) : Int32 := match o with
  | none => m1
  | some (_, r, _) => w r
def pt (o : Option (Nat × Nat × Nat)) : Int32 := match o with
  | none => m1
  | some (_, _, t) => w t
theorem pb_n : pb none = m1 := rfl
theorem pr_n : pr none = m1 := rfl
theorem pt_n : pt none = m1 := rfl
theorem pb_s (b r t : Nat) : pb (some (b, r, t)) = w b := rfl
theorem pr_s (b r t : Nat) : pr (some (b, r, t)) = w r := rfl
theorem pt_s (b r t : Nat) : pt (some (b, r, t)) = w t := rfl
def obl (B R T n cc : Nat) : List Value := [.int (w B), .int (w R), .int (w T), .ref (g0 1), .int (w n), .ref (g0 2), .ref (g0 3), .ref (g0 4), .ref (g0 5), .int (w cc), .ref (g0 6), .ref (g0 9)]
def bxl (a : at_T) (k : Nat) (b r t : Int32) (kp : Int64) : List Value := [.int (w k), .int (w (a k).1), .int (w (a k).2.1), .int (w (a k).2.2.1), .int (w (a k).2.2.2), .int b, .int r, .int t, .long kp]
def CR (B R T n : Nat) (a : at_T) (ps : ps_T) (wh : wh_T) (pg : pg_T) (ld : Nat → Nat) (kp : Nat → Int64) (cc : Nat) (cd : Nat → Option Nat) (tr be : wy_T) (ou : Int64) (k : Nat) : Option pm_C := match k with
  | 0 => some (.inr (0, obl B R T n cc))
  | 1 => some (.inl (3, (40, ra (fun i => if i < n then some (bn i) else none))))
  | 2 => some (.inl (3, (B * R * T, ra (fun i => (wh (i / T / R) (i / T % R) (i % T)).map bn))))
  | 3 => some (.inl (1, (B * R * T, .inl (fun i => bi (pg (i / T / R) (i / T % R) (i % T))))))
  | 4 => some (.inl (0, (4, .inl (fun i => w (ld i)))))
  | 5 => some (.inl (3, (4, ra (fun i => (cd i).map bn))))
  | 6 => some (.inr (2, [.ref (g0 7), .ref (g0 8), .int (w tr.1), .int (w tr.2.1)]))
  | 7 => some (.inl (3, (4, ra (fun i => (tr.2.2.1 i).map bn))))
  | 8 => some (.inl (0, (4, .inl (fun i => w (tr.2.2.2 i)))))
  | 9 => some (.inr (2, [.ref (g0 10), .ref (g0 11), .int (w be.1), .int (w be.2.1)]))
  | 10 => some (.inl (3, (4, ra (fun i => (be.2.2.1 i).map bn))))
  | 11 => some (.inl (0, (4, .inl (fun i => w (be.2.2.2 i)))))
  | 12 => some (.inl (2, (1, .inr (.inl (fun i => if i = 0 then ou else 0)))))
  | k + 13 => if k < n then some (.inr (1, bxl a k (pb (ps k)) (pr (ps k)) (pt (ps k)) (kp k))) else none
def CM (B R T n : Nat) (a : at_T) (ps : ps_T) (wh : wh_T) (pg : pg_T) (ld : Nat → Nat) (kp : Nat → Int64) (cc : Nat) (cd : Nat → Option Nat) (tr be : wy_T) (ou : Int64) (X : pm_A × (Nat × Nat)) : pm_M := (((n + 13, CR B R T n a ps wh pg ld kp cc cd tr be ou), X.1), X.2)
section CGET
variable {B R T n : Nat} {a : at_T} {ps : ps_T} {wh : wh_T} {pg : pg_T} {ld : Nat → Nat} {kp : Nat → Int64} {cc : Nat} {cd : Nat → Option Nat} {tr be : wy_T} {ou : Int64} {X : pm_A × (Nat × Nat)}
theorem gt_0 : pm_get (CM B R T n a ps wh pg ld kp cc cd tr be ou X) (g0 0) = some (.inr (0, [.int (w B), .int (w R), .int (w T), .ref (g0 1), .int (w n), .ref (g0 2), .ref (g0 3), .ref (g0 4), .ref (g0 5), .int (w cc), .ref (g0 6), .ref (g0 9)])) := pm_get_g0 _ _ _ _
theorem gt_1 : pm_get (CM B R T n a ps wh pg ld kp cc cd tr be ou X) (g0 1) = some (.inl (3, (40, ra (fun i => if i < n then some (bn i) else none)))) := pm_get_g0 _ _ _ _
theorem gt_2 : pm_get (CM B R T n a ps wh pg ld kp cc cd tr be ou X) (g0 2) = some (.inl (3, (B * R * T, ra (fun i => (wh (i / T / R) (i / T % R) (i % T)).map bn)))) := pm_get_g0 _ _ _ _
theorem gt_3 : pm_get (CM B R T n a ps wh pg ld kp cc cd tr be ou X) (g0 3) = some (.inl (1, (B * R * T, .inl (fun i => bi (pg (i / T / R) (i / T % R) (i % T)))))) := pm_get_g0 _ _ _ _
theorem gt_4 : pm_get (CM B R T n a ps wh pg ld kp cc cd tr be ou X) (g0 4) = some (.inl (0, (4, .inl (fun i => w (ld i))))) := pm_get_g0 _ _ _ _
theorem gt_5 : pm_get (CM B R T n a ps wh pg ld kp cc cd tr be ou X) (g0 5) = some (.inl (3, (4, ra (fun i => (cd i).map bn)))) := pm_get_g0 _ _ _ _
theorem gt_6 : pm_get (CM B R T n a ps wh pg ld kp cc cd tr be ou X) (g0 6) = some (.inr (2, [.ref (g0 7), .ref (g0 8), .int (w tr.1), .int (w tr.2.1)])) := pm_get_g0 _ _ _ _
theorem gt_7 : pm_get (CM B R T n a ps wh pg ld kp cc cd tr be ou X) (g0 7) = some (.inl (3, (4, ra (fun i => (tr.2.2.1 i).map bn)))) := pm_get_g0 _ _ _ _
theorem gt_8 : pm_get (CM B R T n a ps wh pg ld kp cc cd tr be ou X) (g0 8) = some (.inl (0, (4, .inl (fun i => w (tr.2.2.2 i))))) := pm_get_g0 _ _ _ _
theorem gt_9 : pm_get (CM B R T n a ps wh pg ld kp cc cd tr be ou X) (g0 9) = some (.inr (2, [.ref (g0 10), .ref (g0 11), .int (w be.1), .int (w be.2.1)])) := pm_get_g0 _ _ _ _
theorem gt_10 : pm_get (CM B R T n a ps wh pg ld kp cc cd tr be ou X) (g0 10) = some (.inl (3, (4, ra (fun i => (be.2.2.1 i).map bn)))) := pm_get_g0 _ _ _ _
theorem gt_11 : pm_get (CM B R T n a ps wh pg ld kp cc cd tr be ou X) (g0 11) = some (.inl (0, (4, .inl (fun i => w (be.2.2.2 i))))) := pm_get_g0 _ _ _ _
theorem gt_12 : pm_get (CM B R T n a ps wh pg ld kp cc cd tr be ou X) (g0 12) = some (.inl (2, (1, .inr (.inl (fun i => if i = 0 then ou else 0))))) := pm_get_g0 _ _ _ _
theorem gt_b {k : Nat} (hk : k < n) : pm_get (CM B R T n a ps wh pg ld kp cc cd tr be ou X) (bn k) = some (.inr (1, [.int (w k), .int (w (a k).1), .int (w (a k).2.1), .int (w (a k).2.2.1), .int (w (a k).2.2.2), .int (pb (ps k)), .int (pr (ps k)), .int (pt (ps k)), .long (kp k)])) := by
  unfold CM bn
  rw [pm_get_g0]
  exact if_pos hk
theorem ob_0 : pm_obj (CM B R T n a ps wh pg ld kp cc cd tr be ou X) 0 (.ref (g0 0)) = true := by
  unfold pm_obj
  dsimp only
  rw [gt_0]
  rfl
theorem ob_6 : pm_obj (CM B R T n a ps wh pg ld kp cc cd tr be ou X) 2 (.ref (g0 6)) = true := by
  unfold pm_obj
  dsimp only
  rw [gt_6]
  rfl
theorem ob_9 : pm_obj (CM B R T n a ps wh pg ld kp cc cd tr be ou X) 2 (.ref (g0 9)) = true := by
  unfold pm_obj
  dsimp only
  rw [gt_9]
  rfl
theorem ob_b {k : Nat} (hk : k < n) : pm_obj (CM B R T n a ps wh pg ld kp cc cd tr be ou X) 1 (.ref (bn k)) = true := by
  unfold pm_obj
  dsimp only
  rw [gt_b hk]
  rfl
end CGET
theorem bn_inj {i k : Nat} : (bn i = bn k) = (i = k) := by
  unfold bn
  rw [pm_g0_inj]
  exact propext ⟨fun h => by omega, fun h => by omega⟩
theorem bn_ne1 (k : Nat) : ¬ bn k = 1 := pm_g0_ne1 _
