theorem f75_0 (S : pm_S) (d : Nat) (L : List Value) (st : List Value) (M : pm_M) : fr S (d) (75, 0, L, st) M = if pm_ty (L.getD 0 pm_U) = 2 then fr S d (75, 1, L, L.getD 0 pm_U :: st) M else none := (fr_eq S (d) (75, 0, L, st) M).trans (x_old _ _ 2 0 75 1 L st M)
theorem f75_1 (S : pm_S) (d : Nat) (L : List Value) (q : Nat) (r : List Value) (M : pm_M) : fr S (d) (75, 1, L, .ref q :: r) M = if r.length ≤ 4 then fr S d (75, 4, L, r) M else none := (fr_eq S (d) (75, 1, L, .ref q :: r) M).trans (x_ooi _ _ 75 4 L r q M)
theorem f75_4 (S : pm_S) (d : Nat) (L : List Value) (st : List Value) (M : pm_M) : fr S (d) (75, 4, L, st) M = if pm_ty (L.getD 0 pm_U) = 2 then fr S d (75, 5, L, L.getD 0 pm_U :: st) M else none := (fr_eq S (d) (75, 4, L, st) M).trans (x_old _ _ 2 0 75 5 L st M)
theorem f75_5 (S : pm_S) (d : Nat) (L : List Value) (st : List Value) (M : pm_M) : fr S (d) (75, 5, L, st) M = fr S d (75, 6, L, .int 4 :: st) M := (fr_eq S (d) (75, 5, L, st) M).trans (x_ocs _ _ (.int 4) 75 6 L st M)
theorem f75_6 (S : pm_S) (d : Nat) (L : List Value) (n : Int32) (r : List Value) (M : pm_M) : fr S (d) (75, 6, L, .int n :: r) M = if ¬ n < 0 ∧ n.toNatClampNeg ≤ 60000 then fr S d (75, 9, L, .ref (pm_at M false) :: r) (pm_new M false (.inl (3, (n.toNatClampNeg, pm_z 2))) n.toNatClampNeg) else none := (fr_eq S (d) (75, 6, L, .int n :: r) M).trans (x_ona _ _ 2 3 false 75 9 L r n M)
theorem f75_9 (S : pm_S) (d : Nat) (L : List Value) (v : Value) (q : Nat) (r : List Value) (M : pm_M) : fr S (d) (75, 9, L, v :: .ref q :: r) M = match pm_get M q with
  | some (.inr (c, fs)) => if c = 2 ∧ 0 < fs.length ∧ pm_fit 2 v = true then fr S d (75, 12, L, r) (pm_set M q (.inr (c, fs.set 0 v))) else none
  | _ => none := (fr_eq S (d) (75, 9, L, v :: .ref q :: r) M).trans (x_opf _ _ 2 0 2 75 12 L r q v M)
theorem f75_12 (S : pm_S) (d : Nat) (L : List Value) (st : List Value) (M : pm_M) : fr S (d) (75, 12, L, st) M = if pm_ty (L.getD 0 pm_U) = 2 then fr S d (75, 13, L, L.getD 0 pm_U :: st) M else none := (fr_eq S (d) (75, 12, L, st) M).trans (x_old _ _ 2 0 75 13 L st M)
theorem f75_13 (S : pm_S) (d : Nat) (L : List Value) (st : List Value) (M : pm_M) : fr S (d) (75, 13, L, st) M = fr S d (75, 14, L, .int 4 :: st) M := (fr_eq S (d) (75, 13, L, st) M).trans (x_ocs _ _ (.int 4) 75 14 L st M)
theorem f75_14 (S : pm_S) (d : Nat) (L : List Value) (n : Int32) (r : List Value) (M : pm_M) : fr S (d) (75, 14, L, .int n :: r) M = if ¬ n < 0 ∧ n.toNatClampNeg ≤ 60000 then fr S d (75, 16, L, .ref (pm_at M false) :: r) (pm_new M false (.inl (0, (n.toNatClampNeg, pm_z 0))) n.toNatClampNeg) else none := (fr_eq S (d) (75, 14, L, .int n :: r) M).trans (x_ona _ _ 0 0 false 75 16 L r n M)
theorem f75_16 (S : pm_S) (d : Nat) (L : List Value) (v : Value) (q : Nat) (r : List Value) (M : pm_M) : fr S (d) (75, 16, L, v :: .ref q :: r) M = match pm_get M q with
  | some (.inr (c, fs)) => if c = 2 ∧ 1 < fs.length ∧ pm_fit 2 v = true then fr S d (75, 19, L, r) (pm_set M q (.inr (c, fs.set 1 v))) else none
  | _ => none := (fr_eq S (d) (75, 16, L, v :: .ref q :: r) M).trans (x_opf _ _ 2 1 2 75 19 L r q v M)
theorem f75_19 (S : pm_S) (d : Nat) (L : List Value)  (M : pm_M) : fr S (d) (75, 19, L, []) M = some (.inl none, M) := (fr_eq S (d) (75, 19, L, []) M).trans (x_orv _ _ M)
theorem f76_0 (S : pm_S) (d : Nat) (L : List Value) (st : List Value) (M : pm_M) : fr S (d) (76, 0, L, st) M = if pm_ty (L.getD 0 pm_U) = 2 then fr S d (76, 1, L, L.getD 0 pm_U :: st) M else none := (fr_eq S (d) (76, 0, L, st) M).trans (x_old _ _ 2 0 76 1 L st M)
theorem f76_1 (S : pm_S) (d : Nat) (L : List Value) (st : List Value) (M : pm_M) : fr S (d) (76, 1, L, st) M = fr S d (76, 2, L, .int 0 :: st) M := (fr_eq S (d) (76, 1, L, st) M).trans (x_ocs _ _ (.int 0) 76 2 L st M)
theorem f76_2 (S : pm_S) (d : Nat) (L : List Value) (v : Value) (q : Nat) (r : List Value) (M : pm_M) : fr S (d) (76, 2, L, v :: .ref q :: r) M = match pm_get M q with
  | some (.inr (c, fs)) => if c = 2 ∧ 2 < fs.length ∧ pm_fit 0 v = true then fr S d (76, 5, L, r) (pm_set M q (.inr (c, fs.set 2 v))) else none
  | _ => none := (fr_eq S (d) (76, 2, L, v :: .ref q :: r) M).trans (x_opf _ _ 2 2 0 76 5 L r q v M)
theorem f76_5 (S : pm_S) (d : Nat) (L : List Value) (st : List Value) (M : pm_M) : fr S (d) (76, 5, L, st) M = if pm_ty (L.getD 0 pm_U) = 2 then fr S d (76, 6, L, L.getD 0 pm_U :: st) M else none := (fr_eq S (d) (76, 5, L, st) M).trans (x_old _ _ 2 0 76 6 L st M)
theorem f76_6 (S : pm_S) (d : Nat) (L : List Value) (st : List Value) (M : pm_M) : fr S (d) (76, 6, L, st) M = fr S d (76, 7, L, .int 0 :: st) M := (fr_eq S (d) (76, 6, L, st) M).trans (x_ocs _ _ (.int 0) 76 7 L st M)
theorem f76_7 (S : pm_S) (d : Nat) (L : List Value) (v : Value) (q : Nat) (r : List Value) (M : pm_M) : fr S (d) (76, 7, L, v :: .ref q :: r) M = match pm_get M q with
  | some (.inr (c, fs)) => if c = 2 ∧ 3 < fs.length ∧ pm_fit 0 v = true then fr S d (76, 10, L, r) (pm_set M q (.inr (c, fs.set 3 v))) else none
  | _ => none := (fr_eq S (d) (76, 7, L, v :: .ref q :: r) M).trans (x_opf _ _ 2 3 0 76 10 L r q v M)
theorem f76_10 (S : pm_S) (d : Nat) (L : List Value)  (M : pm_M) : fr S (d) (76, 10, L, []) M = some (.inl none, M) := (fr_eq S (d) (76, 10, L, []) M).trans (x_orv _ _ M)
theorem f77_0 (S : pm_S) (d : Nat) (L : List Value) (st : List Value) (M : pm_M) : fr S (d) (77, 0, L, st) M = if pm_ty (L.getD 0 pm_U) = 2 then fr S d (77, 1, L, L.getD 0 pm_U :: st) M else none := (fr_eq S (d) (77, 0, L, st) M).trans (x_old _ _ 2 0 77 1 L st M)
theorem f77_1 (S : pm_S) (d : Nat) (L : List Value) (q : Nat) (r : List Value) (M : pm_M) : fr S (d) (77, 1, L, .ref q :: r) M = match pm_get M q with
  | some (.inr (c, fs)) => if c = 2 ∧ 2 < fs.length then fr S d (77, 4, L, fs.getD 2 pm_U :: r) M else none
  | _ => none := (fr_eq S (d) (77, 1, L, .ref q :: r) M).trans (x_ogf _ _ 2 2 77 4 L r q M)
theorem f77_4 (S : pm_S) (d : Nat) (L : List Value) (x : Int32) (r : List Value) (M : pm_M) : fr S (d) (77, 4, L, .int x :: r) M = if x < 0 then fr S d (77, 15, L, r) M else fr S d (77, 7, L, r) M := (fr_eq S (d) (77, 4, L, .int x :: r) M).trans (x_oc1lt _ _ 77 7 15 L r x M)
theorem f77_7 (S : pm_S) (d : Nat) (L : List Value) (st : List Value) (M : pm_M) : fr S (d) (77, 7, L, st) M = if pm_ty (L.getD 0 pm_U) = 2 then fr S d (77, 8, L, L.getD 0 pm_U :: st) M else none := (fr_eq S (d) (77, 7, L, st) M).trans (x_old _ _ 2 0 77 8 L st M)
theorem f77_8 (S : pm_S) (d : Nat) (L : List Value) (q : Nat) (r : List Value) (M : pm_M) : fr S (d) (77, 8, L, .ref q :: r) M = match pm_get M q with
  | some (.inr (c, fs)) => if c = 2 ∧ 2 < fs.length then fr S d (77, 11, L, fs.getD 2 pm_U :: r) M else none
  | _ => none := (fr_eq S (d) (77, 8, L, .ref q :: r) M).trans (x_ogf _ _ 2 2 77 11 L r q M)
theorem f77_11 (S : pm_S) (d : Nat) (L : List Value) (st : List Value) (M : pm_M) : fr S (d) (77, 11, L, st) M = fr S d (77, 12, L, .int 4 :: st) M := (fr_eq S (d) (77, 11, L, st) M).trans (x_ocs _ _ (.int 4) 77 12 L st M)
theorem f77_12 (S : pm_S) (d : Nat) (L : List Value) (x y : Int32) (r : List Value) (M : pm_M) : fr S (d) (77, 12, L, .int y :: .int x :: r) M = if x < y then fr S d (77, 16, L, r) M else fr S d (77, 15, L, r) M := (fr_eq S (d) (77, 12, L, .int y :: .int x :: r) M).trans (x_oc2lt _ _ 77 15 16 L r x y M)
theorem f77_15 (S : pm_S) (d : Nat) (L : List Value)  (M : pm_M) : fr S (d) (77, 15, L, []) M = some (.inl none, M) := (fr_eq S (d) (77, 15, L, []) M).trans (x_orv _ _ M)
theorem f77_16 (S : pm_S) (d : Nat) (L : List Value) (st : List Value) (M : pm_M) : fr S (d) (77, 16, L, st) M = if pm_ty (L.getD 0 pm_U) = 2 then fr S d (77, 17, L, L.getD 0 pm_U :: st) M else none := (fr_eq S (d) (77, 16, L, st) M).trans (x_old _ _ 2 0 77 17 L st M)
theorem f77_17 (S : pm_S) (d : Nat) (L : List Value) (q : Nat) (r : List Value) (M : pm_M) : fr S (d) (77, 17, L, .ref q :: r) M = match pm_get M q with
  | some (.inr (c, fs)) => if c = 2 ∧ 0 < fs.length then fr S d (77, 20, L, fs.getD 0 pm_U :: r) M else none
  | _ => none := (fr_eq S (d) (77, 17, L, .ref q :: r) M).trans (x_ogf _ _ 2 0 77 20 L r q M)
theorem f77_20 (S : pm_S) (d : Nat) (L : List Value) (st : List Value) (M : pm_M) : fr S (d) (77, 20, L, st) M = if pm_ty (L.getD 0 pm_U) = 2 then fr S d (77, 21, L, L.getD 0 pm_U :: st) M else none := (fr_eq S (d) (77, 20, L, st) M).trans (x_old _ _ 2 0 77 21 L st M)
theorem f77_21 (S : pm_S) (d : Nat) (L : List Value) (q : Nat) (r : List Value) (M : pm_M) : fr S (d) (77, 21, L, .ref q :: r) M = match pm_get M q with
  | some (.inr (c, fs)) => if c = 2 ∧ 2 < fs.length then fr S d (77, 24, L, fs.getD 2 pm_U :: r) M else none
  | _ => none := (fr_eq S (d) (77, 21, L, .ref q :: r) M).trans (x_ogf _ _ 2 2 77 24 L r q M)
theorem f77_24 (S : pm_S) (d : Nat) (L : List Value) (st : List Value) (M : pm_M) : fr S (d) (77, 24, L, st) M = if pm_ty (L.getD 1 pm_U) = 2 then fr S d (77, 25, L, L.getD 1 pm_U :: st) M else none := (fr_eq S (d) (77, 24, L, st) M).trans (x_old _ _ 2 1 77 25 L st M)
theorem f77_25 (S : pm_S) (d : Nat) (L : List Value) (v : Value) (i : Int32) (q : Nat) (r : List Value) (M : pm_M) : fr S (d) (77, 25, L, v :: .int i :: .ref q :: r) M = if pm_sq M 1 v = true then (match (pm_get M q).bind (fun c => pm_ev 2 3 c i v) with
  | some c => fr S d (77, 26, L, r) (pm_set M q c)
  | none => none) else none := (fr_eq S (d) (77, 25, L, v :: .int i :: .ref q :: r) M).trans (x_oas _ _ 2 3 1 77 26 L r v i q M)
theorem f77_26 (S : pm_S) (d : Nat) (L : List Value) (st : List Value) (M : pm_M) : fr S (d) (77, 26, L, st) M = if pm_ty (L.getD 0 pm_U) = 2 then fr S d (77, 27, L, L.getD 0 pm_U :: st) M else none := (fr_eq S (d) (77, 26, L, st) M).trans (x_old _ _ 2 0 77 27 L st M)
theorem f77_27 (S : pm_S) (d : Nat) (L : List Value) (q : Nat) (r : List Value) (M : pm_M) : fr S (d) (77, 27, L, .ref q :: r) M = match pm_get M q with
  | some (.inr (c, fs)) => if c = 2 ∧ 1 < fs.length then fr S d (77, 30, L, fs.getD 1 pm_U :: r) M else none
  | _ => none := (fr_eq S (d) (77, 27, L, .ref q :: r) M).trans (x_ogf _ _ 2 1 77 30 L r q M)
theorem f77_30 (S : pm_S) (d : Nat) (L : List Value) (st : List Value) (M : pm_M) : fr S (d) (77, 30, L, st) M = if pm_ty (L.getD 0 pm_U) = 2 then fr S d (77, 31, L, L.getD 0 pm_U :: st) M else none := (fr_eq S (d) (77, 30, L, st) M).trans (x_old _ _ 2 0 77 31 L st M)
theorem f77_31 (S : pm_S) (d : Nat) (L : List Value) (q : Nat) (r : List Value) (M : pm_M) : fr S (d) (77, 31, L, .ref q :: r) M = match pm_get M q with
  | some (.inr (c, fs)) => if c = 2 ∧ 2 < fs.length then fr S d (77, 34, L, fs.getD 2 pm_U :: r) M else none
  | _ => none := (fr_eq S (d) (77, 31, L, .ref q :: r) M).trans (x_ogf _ _ 2 2 77 34 L r q M)
theorem f77_34 (S : pm_S) (d : Nat) (L : List Value) (st : List Value) (M : pm_M) : fr S (d) (77, 34, L, st) M = if pm_ty (L.getD 2 pm_U) = 0 then fr S d (77, 35, L, L.getD 2 pm_U :: st) M else none := (fr_eq S (d) (77, 34, L, st) M).trans (x_old _ _ 0 2 77 35 L st M)
theorem f77_35 (S : pm_S) (d : Nat) (L : List Value) (v : Value) (i : Int32) (q : Nat) (r : List Value) (M : pm_M) : fr S (d) (77, 35, L, v :: .int i :: .ref q :: r) M = if pm_sq M 9 v = true then (match (pm_get M q).bind (fun c => pm_ev 0 0 c i v) with
  | some c => fr S d (77, 36, L, r) (pm_set M q c)
  | none => none) else none := (fr_eq S (d) (77, 35, L, v :: .int i :: .ref q :: r) M).trans (x_oas _ _ 0 0 9 77 36 L r v i q M)
theorem f77_36 (S : pm_S) (d : Nat) (L : List Value) (st : List Value) (M : pm_M) : fr S (d) (77, 36, L, st) M = if pm_ty (L.getD 0 pm_U) = 2 then fr S d (77, 37, L, L.getD 0 pm_U :: st) M else none := (fr_eq S (d) (77, 36, L, st) M).trans (x_old _ _ 2 0 77 37 L st M)
theorem f77_37 (S : pm_S) (d : Nat) (L : List Value) (v : Value) (r : List Value) (M : pm_M) : fr S (d) (77, 37, L, v :: r) M = if ¬ pm_ty v = 1 ∧ ¬ pm_ty v = 9 then fr S d (77, 38, L, v :: v :: r) M else none := (fr_eq S (d) (77, 37, L, v :: r) M).trans (x_odup _ _ 77 38 L r v M)
theorem f77_38 (S : pm_S) (d : Nat) (L : List Value) (q : Nat) (r : List Value) (M : pm_M) : fr S (d) (77, 38, L, .ref q :: r) M = match pm_get M q with
  | some (.inr (c, fs)) => if c = 2 ∧ 2 < fs.length then fr S d (77, 41, L, fs.getD 2 pm_U :: r) M else none
  | _ => none := (fr_eq S (d) (77, 38, L, .ref q :: r) M).trans (x_ogf _ _ 2 2 77 41 L r q M)
theorem f77_41 (S : pm_S) (d : Nat) (L : List Value) (st : List Value) (M : pm_M) : fr S (d) (77, 41, L, st) M = fr S d (77, 42, L, .int 1 :: st) M := (fr_eq S (d) (77, 41, L, st) M).trans (x_ocs _ _ (.int 1) 77 42 L st M)
theorem f77_42 (S : pm_S) (d : Nat) (L : List Value) (x y : Int32) (r : List Value) (M : pm_M) : fr S (d) (77, 42, L, .int y :: .int x :: r) M = fr S d (77, 43, L, .int (x + y) :: r) M := (fr_eq S (d) (77, 42, L, .int y :: .int x :: r) M).trans (x_oii _ _ (fun x y => x + y) 77 43 L r x y M)
theorem f77_43 (S : pm_S) (d : Nat) (L : List Value) (v : Value) (q : Nat) (r : List Value) (M : pm_M) : fr S (d) (77, 43, L, v :: .ref q :: r) M = match pm_get M q with
  | some (.inr (c, fs)) => if c = 2 ∧ 2 < fs.length ∧ pm_fit 0 v = true then fr S d (77, 46, L, r) (pm_set M q (.inr (c, fs.set 2 v))) else none
  | _ => none := (fr_eq S (d) (77, 43, L, v :: .ref q :: r) M).trans (x_opf _ _ 2 2 0 77 46 L r q v M)
theorem f77_46 (S : pm_S) (d : Nat) (L : List Value) (st : List Value) (M : pm_M) : fr S (d) (77, 46, L, st) M = if pm_ty (L.getD 0 pm_U) = 2 then fr S d (77, 47, L, L.getD 0 pm_U :: st) M else none := (fr_eq S (d) (77, 46, L, st) M).trans (x_old _ _ 2 0 77 47 L st M)
theorem f77_47 (S : pm_S) (d : Nat) (L : List Value) (v : Value) (r : List Value) (M : pm_M) : fr S (d) (77, 47, L, v :: r) M = if ¬ pm_ty v = 1 ∧ ¬ pm_ty v = 9 then fr S d (77, 48, L, v :: v :: r) M else none := (fr_eq S (d) (77, 47, L, v :: r) M).trans (x_odup _ _ 77 48 L r v M)
theorem f77_48 (S : pm_S) (d : Nat) (L : List Value) (q : Nat) (r : List Value) (M : pm_M) : fr S (d) (77, 48, L, .ref q :: r) M = match pm_get M q with
  | some (.inr (c, fs)) => if c = 2 ∧ 3 < fs.length then fr S d (77, 51, L, fs.getD 3 pm_U :: r) M else none
  | _ => none := (fr_eq S (d) (77, 48, L, .ref q :: r) M).trans (x_ogf _ _ 2 3 77 51 L r q M)
theorem f77_51 (S : pm_S) (d : Nat) (L : List Value) (st : List Value) (M : pm_M) : fr S (d) (77, 51, L, st) M = if pm_ty (L.getD 3 pm_U) = 0 then fr S d (77, 52, L, L.getD 3 pm_U :: st) M else none := (fr_eq S (d) (77, 51, L, st) M).trans (x_old _ _ 0 3 77 52 L st M)
theorem f77_52 (S : pm_S) (d : Nat) (L : List Value) (x y : Int32) (r : List Value) (M : pm_M) : fr S (d) (77, 52, L, .int y :: .int x :: r) M = fr S d (77, 53, L, .int (x + y) :: r) M := (fr_eq S (d) (77, 52, L, .int y :: .int x :: r) M).trans (x_oii _ _ (fun x y => x + y) 77 53 L r x y M)
theorem f77_53 (S : pm_S) (d : Nat) (L : List Value) (v : Value) (q : Nat) (r : List Value) (M : pm_M) : fr S (d) (77, 53, L, v :: .ref q :: r) M = match pm_get M q with
  | some (.inr (c, fs)) => if c = 2 ∧ 3 < fs.length ∧ pm_fit 0 v = true then fr S d (77, 56, L, r) (pm_set M q (.inr (c, fs.set 3 v))) else none
  | _ => none := (fr_eq S (d) (77, 53, L, v :: .ref q :: r) M).trans (x_opf _ _ 2 3 0 77 56 L r q v M)
theorem f77_56 (S : pm_S) (d : Nat) (L : List Value)  (M : pm_M) : fr S (d) (77, 56, L, []) M = some (.inl none, M) := (fr_eq S (d) (77, 56, L, []) M).trans (x_orv _ _ M)
theorem f78_0 (S : pm_S) (d : Nat) (L : List Value) (st : List Value) (M : pm_M) : fr S (d) (78, 0, L, st) M = if pm_ty (L.getD 0 pm_U) = 2 then fr S d (78, 1, L, L.getD 0 pm_U :: st) M else none := (fr_eq S (d) (78, 0, L, st) M).trans (x_old _ _ 2 0 78 1 L st M)
theorem f78_1 (S : pm_S) (d : Nat) (L : List Value) (q : Nat) (r : List Value) (M : pm_M) : fr S (d) (78, 1, L, .ref q :: r) M = match pm_get M q with
  | some (.inr (c, fs)) => if c = 2 ∧ 2 < fs.length then fr S d (78, 4, L, fs.getD 2 pm_U :: r) M else none
  | _ => none := (fr_eq S (d) (78, 1, L, .ref q :: r) M).trans (x_ogf _ _ 2 2 78 4 L r q M)
theorem f78_4 (S : pm_S) (d : Nat) (L : List Value) (x : Int32) (r : List Value) (M : pm_M) : fr S (d) (78, 4, L, .int x :: r) M = if 0 < x then fr S d (78, 8, L, r) M else fr S d (78, 7, L, r) M := (fr_eq S (d) (78, 4, L, .int x :: r) M).trans (x_oc1gt _ _ 78 7 8 L r x M)
theorem f78_7 (S : pm_S) (d : Nat) (L : List Value)  (M : pm_M) : fr S (d) (78, 7, L, []) M = some (.inl none, M) := (fr_eq S (d) (78, 7, L, []) M).trans (x_orv _ _ M)
theorem f78_8 (S : pm_S) (d : Nat) (L : List Value) (st : List Value) (M : pm_M) : fr S (d) (78, 8, L, st) M = if pm_ty (L.getD 0 pm_U) = 2 then fr S d (78, 9, L, L.getD 0 pm_U :: st) M else none := (fr_eq S (d) (78, 8, L, st) M).trans (x_old _ _ 2 0 78 9 L st M)
theorem f78_9 (S : pm_S) (d : Nat) (L : List Value) (v : Value) (r : List Value) (M : pm_M) : fr S (d) (78, 9, L, v :: r) M = if ¬ pm_ty v = 1 ∧ ¬ pm_ty v = 9 then fr S d (78, 10, L, v :: v :: r) M else none := (fr_eq S (d) (78, 9, L, v :: r) M).trans (x_odup _ _ 78 10 L r v M)
theorem f78_10 (S : pm_S) (d : Nat) (L : List Value) (q : Nat) (r : List Value) (M : pm_M) : fr S (d) (78, 10, L, .ref q :: r) M = match pm_get M q with
  | some (.inr (c, fs)) => if c = 2 ∧ 2 < fs.length then fr S d (78, 13, L, fs.getD 2 pm_U :: r) M else none
  | _ => none := (fr_eq S (d) (78, 10, L, .ref q :: r) M).trans (x_ogf _ _ 2 2 78 13 L r q M)
theorem f78_13 (S : pm_S) (d : Nat) (L : List Value) (st : List Value) (M : pm_M) : fr S (d) (78, 13, L, st) M = fr S d (78, 14, L, .int 1 :: st) M := (fr_eq S (d) (78, 13, L, st) M).trans (x_ocs _ _ (.int 1) 78 14 L st M)
theorem f78_14 (S : pm_S) (d : Nat) (L : List Value) (x y : Int32) (r : List Value) (M : pm_M) : fr S (d) (78, 14, L, .int y :: .int x :: r) M = fr S d (78, 15, L, .int (x - y) :: r) M := (fr_eq S (d) (78, 14, L, .int y :: .int x :: r) M).trans (x_oii _ _ (fun x y => x - y) 78 15 L r x y M)
theorem f78_15 (S : pm_S) (d : Nat) (L : List Value) (v : Value) (q : Nat) (r : List Value) (M : pm_M) : fr S (d) (78, 15, L, v :: .ref q :: r) M = match pm_get M q with
  | some (.inr (c, fs)) => if c = 2 ∧ 2 < fs.length ∧ pm_fit 0 v = true then fr S d (78, 18, L, r) (pm_set M q (.inr (c, fs.set 2 v))) else none
  | _ => none := (fr_eq S (d) (78, 15, L, v :: .ref q :: r) M).trans (x_opf _ _ 2 2 0 78 18 L r q v M)
theorem f78_18 (S : pm_S) (d : Nat) (L : List Value) (st : List Value) (M : pm_M) : fr S (d) (78, 18, L, st) M = if pm_ty (L.getD 0 pm_U) = 2 then fr S d (78, 19, L, L.getD 0 pm_U :: st) M else none := (fr_eq S (d) (78, 18, L, st) M).trans (x_old _ _ 2 0 78 19 L st M)
theorem f78_19 (S : pm_S) (d : Nat) (L : List Value) (v : Value) (r : List Value) (M : pm_M) : fr S (d) (78, 19, L, v :: r) M = if ¬ pm_ty v = 1 ∧ ¬ pm_ty v = 9 then fr S d (78, 20, L, v :: v :: r) M else none := (fr_eq S (d) (78, 19, L, v :: r) M).trans (x_odup _ _ 78 20 L r v M)
theorem f78_20 (S : pm_S) (d : Nat) (L : List Value) (q : Nat) (r : List Value) (M : pm_M) : fr S (d) (78, 20, L, .ref q :: r) M = match pm_get M q with
  | some (.inr (c, fs)) => if c = 2 ∧ 3 < fs.length then fr S d (78, 23, L, fs.getD 3 pm_U :: r) M else none
  | _ => none := (fr_eq S (d) (78, 20, L, .ref q :: r) M).trans (x_ogf _ _ 2 3 78 23 L r q M)
theorem f78_23 (S : pm_S) (d : Nat) (L : List Value) (st : List Value) (M : pm_M) : fr S (d) (78, 23, L, st) M = if pm_ty (L.getD 1 pm_U) = 0 then fr S d (78, 24, L, L.getD 1 pm_U :: st) M else none := (fr_eq S (d) (78, 23, L, st) M).trans (x_old _ _ 0 1 78 24 L st M)
theorem f78_24 (S : pm_S) (d : Nat) (L : List Value) (x y : Int32) (r : List Value) (M : pm_M) : fr S (d) (78, 24, L, .int y :: .int x :: r) M = fr S d (78, 25, L, .int (x - y) :: r) M := (fr_eq S (d) (78, 24, L, .int y :: .int x :: r) M).trans (x_oii _ _ (fun x y => x - y) 78 25 L r x y M)
theorem f78_25 (S : pm_S) (d : Nat) (L : List Value) (v : Value) (q : Nat) (r : List Value) (M : pm_M) : fr S (d) (78, 25, L, v :: .ref q :: r) M = match pm_get M q with
  | some (.inr (c, fs)) => if c = 2 ∧ 3 < fs.length ∧ pm_fit 0 v = true then fr S d (78, 28, L, r) (pm_set M q (.inr (c, fs.set 3 v))) else none
  | _ => none := (fr_eq S (d) (78, 25, L, v :: .ref q :: r) M).trans (x_opf _ _ 2 3 0 78 28 L r q v M)
theorem f78_28 (S : pm_S) (d : Nat) (L : List Value)  (M : pm_M) : fr S (d) (78, 28, L, []) M = some (.inl none, M) := (fr_eq S (d) (78, 28, L, []) M).trans (x_orv _ _ M)
theorem f79_0 (S : pm_S) (d : Nat) (L : List Value) (st : List Value) (M : pm_M) : fr S (d) (79, 0, L, st) M = if pm_ty (L.getD 1 pm_U) = 0 then fr S d (79, 1, L, L.getD 1 pm_U :: st) M else none := (fr_eq S (d) (79, 0, L, st) M).trans (x_old _ _ 0 1 79 1 L st M)
theorem f79_1 (S : pm_S) (d : Nat) (L : List Value) (x : Int32) (r : List Value) (M : pm_M) : fr S (d) (79, 1, L, .int x :: r) M = if x < 0 then fr S d (79, 21, L, r) M else fr S d (79, 4, L, r) M := (fr_eq S (d) (79, 1, L, .int x :: r) M).trans (x_oc1lt _ _ 79 4 21 L r x M)
theorem f79_4 (S : pm_S) (d : Nat) (L : List Value) (st : List Value) (M : pm_M) : fr S (d) (79, 4, L, st) M = if pm_ty (L.getD 1 pm_U) = 0 then fr S d (79, 5, L, L.getD 1 pm_U :: st) M else none := (fr_eq S (d) (79, 4, L, st) M).trans (x_old _ _ 0 1 79 5 L st M)
theorem f79_5 (S : pm_S) (d : Nat) (L : List Value) (st : List Value) (M : pm_M) : fr S (d) (79, 5, L, st) M = if pm_ty (L.getD 0 pm_U) = 2 then fr S d (79, 6, L, L.getD 0 pm_U :: st) M else none := (fr_eq S (d) (79, 5, L, st) M).trans (x_old _ _ 2 0 79 6 L st M)
theorem f79_6 (S : pm_S) (d : Nat) (L : List Value) (q : Nat) (r : List Value) (M : pm_M) : fr S (d) (79, 6, L, .ref q :: r) M = match pm_get M q with
  | some (.inr (c, fs)) => if c = 2 ∧ 2 < fs.length then fr S d (79, 9, L, fs.getD 2 pm_U :: r) M else none
  | _ => none := (fr_eq S (d) (79, 6, L, .ref q :: r) M).trans (x_ogf _ _ 2 2 79 9 L r q M)
theorem f79_9 (S : pm_S) (d : Nat) (L : List Value) (x y : Int32) (r : List Value) (M : pm_M) : fr S (d) (79, 9, L, .int y :: .int x :: r) M = if y ≤ x then fr S d (79, 21, L, r) M else fr S d (79, 12, L, r) M := (fr_eq S (d) (79, 9, L, .int y :: .int x :: r) M).trans (x_oc2ge _ _ 79 12 21 L r x y M)
theorem f79_12 (S : pm_S) (d : Nat) (L : List Value) (st : List Value) (M : pm_M) : fr S (d) (79, 12, L, st) M = if pm_ty (L.getD 0 pm_U) = 2 then fr S d (79, 13, L, L.getD 0 pm_U :: st) M else none := (fr_eq S (d) (79, 12, L, st) M).trans (x_old _ _ 2 0 79 13 L st M)
theorem f79_13 (S : pm_S) (d : Nat) (L : List Value) (q : Nat) (r : List Value) (M : pm_M) : fr S (d) (79, 13, L, .ref q :: r) M = match pm_get M q with
  | some (.inr (c, fs)) => if c = 2 ∧ 0 < fs.length then fr S d (79, 16, L, fs.getD 0 pm_U :: r) M else none
  | _ => none := (fr_eq S (d) (79, 13, L, .ref q :: r) M).trans (x_ogf _ _ 2 0 79 16 L r q M)
theorem f79_16 (S : pm_S) (d : Nat) (L : List Value) (st : List Value) (M : pm_M) : fr S (d) (79, 16, L, st) M = if pm_ty (L.getD 1 pm_U) = 0 then fr S d (79, 17, L, L.getD 1 pm_U :: st) M else none := (fr_eq S (d) (79, 16, L, st) M).trans (x_old _ _ 0 1 79 17 L st M)
theorem f79_17 (S : pm_S) (d : Nat) (L : List Value) (i : Int32) (q : Nat) (hq : ¬ q = 1) (r : List Value) (M : pm_M) : fr S (d) (79, 17, L, .int i :: .ref q :: r) M = match (pm_get M q).bind (fun c => pm_el 3 c i) with
  | some v => fr S d (79, 18, L, v :: r) M
  | none => none := (fr_eq S (d) (79, 17, L, .int i :: .ref q :: r) M).trans (x_oal _ _ S 3 79 18 L r i q hq M)
theorem f79_18 (S : pm_S) (d : Nat) (L : List Value) (st : List Value) (M : pm_M) : fr S (d) (79, 18, L, st) M = fr S d (79, 22, L, st) M := (fr_eq S (d) (79, 18, L, st) M).trans (x_ogo _ _ 79 22 L st M)
theorem f79_21 (S : pm_S) (d : Nat) (L : List Value) (st : List Value) (M : pm_M) : fr S (d) (79, 21, L, st) M = fr S d (79, 22, L, .null :: st) M := (fr_eq S (d) (79, 21, L, st) M).trans (x_ocs _ _ .null 79 22 L st M)
theorem f79_22 (S : pm_S) (d : Nat) (L : List Value) (v : Value) (M : pm_M) : fr S (d) (79, 22, L, [v]) M = if pm_fit 2 v = true then some (.inl (some v), M) else none := (fr_eq S (d) (79, 22, L, [v]) M).trans (x_ort _ _ 2 v M)
theorem f80_0 (S : pm_S) (d : Nat) (L : List Value) (st : List Value) (M : pm_M) : fr S (d) (80, 0, L, st) M = if pm_ty (L.getD 1 pm_U) = 0 then fr S d (80, 1, L, L.getD 1 pm_U :: st) M else none := (fr_eq S (d) (80, 0, L, st) M).trans (x_old _ _ 0 1 80 1 L st M)
theorem f80_1 (S : pm_S) (d : Nat) (L : List Value) (x : Int32) (r : List Value) (M : pm_M) : fr S (d) (80, 1, L, .int x :: r) M = if x < 0 then fr S d (80, 21, L, r) M else fr S d (80, 4, L, r) M := (fr_eq S (d) (80, 1, L, .int x :: r) M).trans (x_oc1lt _ _ 80 4 21 L r x M)
theorem f80_4 (S : pm_S) (d : Nat) (L : List Value) (st : List Value) (M : pm_M) : fr S (d) (80, 4, L, st) M = if pm_ty (L.getD 1 pm_U) = 0 then fr S d (80, 5, L, L.getD 1 pm_U :: st) M else none := (fr_eq S (d) (80, 4, L, st) M).trans (x_old _ _ 0 1 80 5 L st M)
theorem f80_5 (S : pm_S) (d : Nat) (L : List Value) (st : List Value) (M : pm_M) : fr S (d) (80, 5, L, st) M = if pm_ty (L.getD 0 pm_U) = 2 then fr S d (80, 6, L, L.getD 0 pm_U :: st) M else none := (fr_eq S (d) (80, 5, L, st) M).trans (x_old _ _ 2 0 80 6 L st M)
theorem f80_6 (S : pm_S) (d : Nat) (L : List Value) (q : Nat) (r : List Value) (M : pm_M) : fr S (d) (80, 6, L, .ref q :: r) M = match pm_get M q with
  | some (.inr (c, fs)) => if c = 2 ∧ 2 < fs.length then fr S d (80, 9, L, fs.getD 2 pm_U :: r) M else none
  | _ => none := (fr_eq S (d) (80, 6, L, .ref q :: r) M).trans (x_ogf _ _ 2 2 80 9 L r q M)
theorem f80_9 (S : pm_S) (d : Nat) (L : List Value) (x y : Int32) (r : List Value) (M : pm_M) : fr S (d) (80, 9, L, .int y :: .int x :: r) M = if y ≤ x then fr S d (80, 21, L, r) M else fr S d (80, 12, L, r) M := (fr_eq S (d) (80, 9, L, .int y :: .int x :: r) M).trans (x_oc2ge _ _ 80 12 21 L r x y M)
theorem f80_12 (S : pm_S) (d : Nat) (L : List Value) (st : List Value) (M : pm_M) : fr S (d) (80, 12, L, st) M = if pm_ty (L.getD 0 pm_U) = 2 then fr S d (80, 13, L, L.getD 0 pm_U :: st) M else none := (fr_eq S (d) (80, 12, L, st) M).trans (x_old _ _ 2 0 80 13 L st M)
theorem f80_13 (S : pm_S) (d : Nat) (L : List Value) (q : Nat) (r : List Value) (M : pm_M) : fr S (d) (80, 13, L, .ref q :: r) M = match pm_get M q with
  | some (.inr (c, fs)) => if c = 2 ∧ 1 < fs.length then fr S d (80, 16, L, fs.getD 1 pm_U :: r) M else none
  | _ => none := (fr_eq S (d) (80, 13, L, .ref q :: r) M).trans (x_ogf _ _ 2 1 80 16 L r q M)
theorem f80_16 (S : pm_S) (d : Nat) (L : List Value) (st : List Value) (M : pm_M) : fr S (d) (80, 16, L, st) M = if pm_ty (L.getD 1 pm_U) = 0 then fr S d (80, 17, L, L.getD 1 pm_U :: st) M else none := (fr_eq S (d) (80, 16, L, st) M).trans (x_old _ _ 0 1 80 17 L st M)
theorem f80_17 (S : pm_S) (d : Nat) (L : List Value) (i : Int32) (q : Nat) (hq : ¬ q = 1) (r : List Value) (M : pm_M) : fr S (d) (80, 17, L, .int i :: .ref q :: r) M = match (pm_get M q).bind (fun c => pm_el 0 c i) with
  | some v => fr S d (80, 18, L, v :: r) M
  | none => none := (fr_eq S (d) (80, 17, L, .int i :: .ref q :: r) M).trans (x_oal _ _ S 0 80 18 L r i q hq M)
theorem f80_18 (S : pm_S) (d : Nat) (L : List Value) (st : List Value) (M : pm_M) : fr S (d) (80, 18, L, st) M = fr S d (80, 22, L, st) M := (fr_eq S (d) (80, 18, L, st) M).trans (x_ogo _ _ 80 22 L st M)
theorem f80_21 (S : pm_S) (d : Nat) (L : List Value) (st : List Value) (M : pm_M) : fr S (d) (80, 21, L, st) M = fr S d (80, 22, L, .int (-1) :: st) M := (fr_eq S (d) (80, 21, L, st) M).trans (x_ocs _ _ (.int (-1)) 80 22 L st M)
theorem f80_22 (S : pm_S) (d : Nat) (L : List Value) (v : Value) (M : pm_M) : fr S (d) (80, 22, L, [v]) M = if pm_fit 0 v = true then some (.inl (some v), M) else none := (fr_eq S (d) (80, 22, L, [v]) M).trans (x_ort _ _ 0 v M)
theorem f81_0 (S : pm_S) (d : Nat) (L : List Value) (st : List Value) (M : pm_M) : fr S (d) (81, 0, L, st) M = if pm_ty (L.getD 0 pm_U) = 2 then fr S d (81, 1, L, L.getD 0 pm_U :: st) M else none := (fr_eq S (d) (81, 0, L, st) M).trans (x_old _ _ 2 0 81 1 L st M)
theorem f81_1 (S : pm_S) (d : Nat) (L : List Value) (q : Nat) (r : List Value) (M : pm_M) : fr S (d) (81, 1, L, .ref q :: r) M = match pm_get M q with
  | some (.inr (c, fs)) => if c = 2 ∧ 2 < fs.length then fr S d (81, 4, L, fs.getD 2 pm_U :: r) M else none
  | _ => none := (fr_eq S (d) (81, 1, L, .ref q :: r) M).trans (x_ogf _ _ 2 2 81 4 L r q M)
theorem f81_4 (S : pm_S) (d : Nat) (L : List Value) (st : List Value) (M : pm_M) : fr S (d) (81, 4, L, st) M = if pm_ty (L.getD 1 pm_U) = 2 then fr S d (81, 5, L, L.getD 1 pm_U :: st) M else none := (fr_eq S (d) (81, 4, L, st) M).trans (x_old _ _ 2 1 81 5 L st M)
theorem f81_5 (S : pm_S) (d : Nat) (L : List Value) (q : Nat) (r : List Value) (M : pm_M) : fr S (d) (81, 5, L, .ref q :: r) M = match pm_get M q with
  | some (.inr (c, fs)) => if c = 2 ∧ 2 < fs.length then fr S d (81, 8, L, fs.getD 2 pm_U :: r) M else none
  | _ => none := (fr_eq S (d) (81, 5, L, .ref q :: r) M).trans (x_ogf _ _ 2 2 81 8 L r q M)
theorem f81_8 (S : pm_S) (d : Nat) (L : List Value) (x y : Int32) (r : List Value) (M : pm_M) : fr S (d) (81, 8, L, .int y :: .int x :: r) M = if y < x then fr S d (81, 33, L, r) M else fr S d (81, 11, L, r) M := (fr_eq S (d) (81, 8, L, .int y :: .int x :: r) M).trans (x_oc2gt _ _ 81 11 33 L r x y M)
theorem f81_11 (S : pm_S) (d : Nat) (L : List Value) (st : List Value) (M : pm_M) : fr S (d) (81, 11, L, st) M = if pm_ty (L.getD 0 pm_U) = 2 then fr S d (81, 12, L, L.getD 0 pm_U :: st) M else none := (fr_eq S (d) (81, 11, L, st) M).trans (x_old _ _ 2 0 81 12 L st M)
theorem f81_12 (S : pm_S) (d : Nat) (L : List Value) (q : Nat) (r : List Value) (M : pm_M) : fr S (d) (81, 12, L, .ref q :: r) M = match pm_get M q with
  | some (.inr (c, fs)) => if c = 2 ∧ 2 < fs.length then fr S d (81, 15, L, fs.getD 2 pm_U :: r) M else none
  | _ => none := (fr_eq S (d) (81, 12, L, .ref q :: r) M).trans (x_ogf _ _ 2 2 81 15 L r q M)
theorem f81_15 (S : pm_S) (d : Nat) (L : List Value) (st : List Value) (M : pm_M) : fr S (d) (81, 15, L, st) M = if pm_ty (L.getD 1 pm_U) = 2 then fr S d (81, 16, L, L.getD 1 pm_U :: st) M else none := (fr_eq S (d) (81, 15, L, st) M).trans (x_old _ _ 2 1 81 16 L st M)
theorem f81_16 (S : pm_S) (d : Nat) (L : List Value) (q : Nat) (r : List Value) (M : pm_M) : fr S (d) (81, 16, L, .ref q :: r) M = match pm_get M q with
  | some (.inr (c, fs)) => if c = 2 ∧ 2 < fs.length then fr S d (81, 19, L, fs.getD 2 pm_U :: r) M else none
  | _ => none := (fr_eq S (d) (81, 16, L, .ref q :: r) M).trans (x_ogf _ _ 2 2 81 19 L r q M)
theorem f81_19 (S : pm_S) (d : Nat) (L : List Value) (x y : Int32) (r : List Value) (M : pm_M) : fr S (d) (81, 19, L, .int y :: .int x :: r) M = if ¬ x = y then fr S d (81, 37, L, r) M else fr S d (81, 22, L, r) M := (fr_eq S (d) (81, 19, L, .int y :: .int x :: r) M).trans (x_oc2ne _ _ 81 22 37 L r x y M)
theorem f81_22 (S : pm_S) (d : Nat) (L : List Value) (st : List Value) (M : pm_M) : fr S (d) (81, 22, L, st) M = if pm_ty (L.getD 0 pm_U) = 2 then fr S d (81, 23, L, L.getD 0 pm_U :: st) M else none := (fr_eq S (d) (81, 22, L, st) M).trans (x_old _ _ 2 0 81 23 L st M)
theorem f81_23 (S : pm_S) (d : Nat) (L : List Value) (q : Nat) (r : List Value) (M : pm_M) : fr S (d) (81, 23, L, .ref q :: r) M = match pm_get M q with
  | some (.inr (c, fs)) => if c = 2 ∧ 3 < fs.length then fr S d (81, 26, L, fs.getD 3 pm_U :: r) M else none
  | _ => none := (fr_eq S (d) (81, 23, L, .ref q :: r) M).trans (x_ogf _ _ 2 3 81 26 L r q M)
theorem f81_26 (S : pm_S) (d : Nat) (L : List Value) (st : List Value) (M : pm_M) : fr S (d) (81, 26, L, st) M = if pm_ty (L.getD 1 pm_U) = 2 then fr S d (81, 27, L, L.getD 1 pm_U :: st) M else none := (fr_eq S (d) (81, 26, L, st) M).trans (x_old _ _ 2 1 81 27 L st M)
theorem f81_27 (S : pm_S) (d : Nat) (L : List Value) (q : Nat) (r : List Value) (M : pm_M) : fr S (d) (81, 27, L, .ref q :: r) M = match pm_get M q with
  | some (.inr (c, fs)) => if c = 2 ∧ 3 < fs.length then fr S d (81, 30, L, fs.getD 3 pm_U :: r) M else none
  | _ => none := (fr_eq S (d) (81, 27, L, .ref q :: r) M).trans (x_ogf _ _ 2 3 81 30 L r q M)
theorem f81_30 (S : pm_S) (d : Nat) (L : List Value) (x y : Int32) (r : List Value) (M : pm_M) : fr S (d) (81, 30, L, .int y :: .int x :: r) M = if y ≤ x then fr S d (81, 37, L, r) M else fr S d (81, 33, L, r) M := (fr_eq S (d) (81, 30, L, .int y :: .int x :: r) M).trans (x_oc2ge _ _ 81 33 37 L r x y M)
theorem f81_33 (S : pm_S) (d : Nat) (L : List Value) (st : List Value) (M : pm_M) : fr S (d) (81, 33, L, st) M = fr S d (81, 34, L, .int 1 :: st) M := (fr_eq S (d) (81, 33, L, st) M).trans (x_ocs _ _ (.int 1) 81 34 L st M)
theorem f81_34 (S : pm_S) (d : Nat) (L : List Value) (st : List Value) (M : pm_M) : fr S (d) (81, 34, L, st) M = fr S d (81, 38, L, st) M := (fr_eq S (d) (81, 34, L, st) M).trans (x_ogo _ _ 81 38 L st M)
theorem f81_37 (S : pm_S) (d : Nat) (L : List Value) (st : List Value) (M : pm_M) : fr S (d) (81, 37, L, st) M = fr S d (81, 38, L, .int 0 :: st) M := (fr_eq S (d) (81, 37, L, st) M).trans (x_ocs _ _ (.int 0) 81 38 L st M)
theorem f81_38 (S : pm_S) (d : Nat) (L : List Value) (v : Value) (M : pm_M) : fr S (d) (81, 38, L, [v]) M = if pm_fit 3 v = true then some (.inl (some v), M) else none := (fr_eq S (d) (81, 38, L, [v]) M).trans (x_ort _ _ 3 v M)
theorem f82_0 (S : pm_S) (d : Nat) (L : List Value) (st : List Value) (M : pm_M) : fr S (d) (82, 0, L, st) M = fr S d (82, 1, L, .int 0 :: st) M := (fr_eq S (d) (82, 0, L, st) M).trans (x_ocs _ _ (.int 0) 82 1 L st M)
theorem f82_1 (S : pm_S) (d : Nat) (L : List Value) (v : Value) (r : List Value) (M : pm_M) : fr S (d) (82, 1, L, v :: r) M = if pm_ty v = 0 ∧ 2 < L.length ∧ ¬ pm_ty (L.getD (2 - 1) pm_U) = 1 then fr S d (82, 2, L.set 2 v, r) M else none := (fr_eq S (d) (82, 1, L, v :: r) M).trans (x_ost _ _ 0 2 82 2 L r v M)
theorem f82_2 (S : pm_S) (d : Nat) (L : List Value) (st : List Value) (M : pm_M) : fr S (d) (82, 2, L, st) M = if pm_ty (L.getD 2 pm_U) = 0 then fr S d (82, 3, L, L.getD 2 pm_U :: st) M else none := (fr_eq S (d) (82, 2, L, st) M).trans (x_old _ _ 0 2 82 3 L st M)
theorem f82_3 (S : pm_S) (d : Nat) (L : List Value) (st : List Value) (M : pm_M) : fr S (d) (82, 3, L, st) M = if pm_ty (L.getD 1 pm_U) = 2 then fr S d (82, 4, L, L.getD 1 pm_U :: st) M else none := (fr_eq S (d) (82, 3, L, st) M).trans (x_old _ _ 2 1 82 4 L st M)
theorem f82_4 (S : pm_S) (d : Nat) (L : List Value) (q : Nat) (r : List Value) (M : pm_M) : fr S (d) (82, 4, L, .ref q :: r) M = match pm_get M q with
  | some (.inr (c, fs)) => if c = 2 ∧ 2 < fs.length then fr S d (82, 7, L, fs.getD 2 pm_U :: r) M else none
  | _ => none := (fr_eq S (d) (82, 4, L, .ref q :: r) M).trans (x_ogf _ _ 2 2 82 7 L r q M)
theorem f82_7 (S : pm_S) (d : Nat) (L : List Value) (x y : Int32) (r : List Value) (M : pm_M) : fr S (d) (82, 7, L, .int y :: .int x :: r) M = if y ≤ x then fr S d (82, 45, L, r) M else fr S d (82, 10, L, r) M := (fr_eq S (d) (82, 7, L, .int y :: .int x :: r) M).trans (x_oc2ge _ _ 82 10 45 L r x y M)
theorem f82_10 (S : pm_S) (d : Nat) (L : List Value) (st : List Value) (M : pm_M) : fr S (d) (82, 10, L, st) M = if pm_ty (L.getD 2 pm_U) = 0 then fr S d (82, 11, L, L.getD 2 pm_U :: st) M else none := (fr_eq S (d) (82, 10, L, st) M).trans (x_old _ _ 0 2 82 11 L st M)
theorem f82_11 (S : pm_S) (d : Nat) (L : List Value) (st : List Value) (M : pm_M) : fr S (d) (82, 11, L, st) M = fr S d (82, 12, L, .int 4 :: st) M := (fr_eq S (d) (82, 11, L, st) M).trans (x_ocs _ _ (.int 4) 82 12 L st M)
theorem f82_12 (S : pm_S) (d : Nat) (L : List Value) (x y : Int32) (r : List Value) (M : pm_M) : fr S (d) (82, 12, L, .int y :: .int x :: r) M = if y ≤ x then fr S d (82, 45, L, r) M else fr S d (82, 15, L, r) M := (fr_eq S (d) (82, 12, L, .int y :: .int x :: r) M).trans (x_oc2ge _ _ 82 15 45 L r x y M)
theorem f82_15 (S : pm_S) (d : Nat) (L : List Value) (st : List Value) (M : pm_M) : fr S (d) (82, 15, L, st) M = if pm_ty (L.getD 0 pm_U) = 2 then fr S d (82, 16, L, L.getD 0 pm_U :: st) M else none := (fr_eq S (d) (82, 15, L, st) M).trans (x_old _ _ 2 0 82 16 L st M)
theorem f82_16 (S : pm_S) (d : Nat) (L : List Value) (q : Nat) (r : List Value) (M : pm_M) : fr S (d) (82, 16, L, .ref q :: r) M = match pm_get M q with
  | some (.inr (c, fs)) => if c = 2 ∧ 0 < fs.length then fr S d (82, 19, L, fs.getD 0 pm_U :: r) M else none
  | _ => none := (fr_eq S (d) (82, 16, L, .ref q :: r) M).trans (x_ogf _ _ 2 0 82 19 L r q M)
theorem f82_19 (S : pm_S) (d : Nat) (L : List Value) (st : List Value) (M : pm_M) : fr S (d) (82, 19, L, st) M = if pm_ty (L.getD 2 pm_U) = 0 then fr S d (82, 20, L, L.getD 2 pm_U :: st) M else none := (fr_eq S (d) (82, 19, L, st) M).trans (x_old _ _ 0 2 82 20 L st M)
theorem f82_20 (S : pm_S) (d : Nat) (L : List Value) (st : List Value) (M : pm_M) : fr S (d) (82, 20, L, st) M = if pm_ty (L.getD 1 pm_U) = 2 then fr S d (82, 21, L, L.getD 1 pm_U :: st) M else none := (fr_eq S (d) (82, 20, L, st) M).trans (x_old _ _ 2 1 82 21 L st M)
theorem f82_21 (S : pm_S) (d : Nat) (L : List Value) (q : Nat) (r : List Value) (M : pm_M) : fr S (d) (82, 21, L, .ref q :: r) M = match pm_get M q with
  | some (.inr (c, fs)) => if c = 2 ∧ 0 < fs.length then fr S d (82, 24, L, fs.getD 0 pm_U :: r) M else none
  | _ => none := (fr_eq S (d) (82, 21, L, .ref q :: r) M).trans (x_ogf _ _ 2 0 82 24 L r q M)
theorem f82_24 (S : pm_S) (d : Nat) (L : List Value) (st : List Value) (M : pm_M) : fr S (d) (82, 24, L, st) M = if pm_ty (L.getD 2 pm_U) = 0 then fr S d (82, 25, L, L.getD 2 pm_U :: st) M else none := (fr_eq S (d) (82, 24, L, st) M).trans (x_old _ _ 0 2 82 25 L st M)
theorem f82_25 (S : pm_S) (d : Nat) (L : List Value) (i : Int32) (q : Nat) (hq : ¬ q = 1) (r : List Value) (M : pm_M) : fr S (d) (82, 25, L, .int i :: .ref q :: r) M = match (pm_get M q).bind (fun c => pm_el 3 c i) with
  | some v => fr S d (82, 26, L, v :: r) M
  | none => none := (fr_eq S (d) (82, 25, L, .int i :: .ref q :: r) M).trans (x_oal _ _ S 3 82 26 L r i q hq M)
theorem f82_26 (S : pm_S) (d : Nat) (L : List Value) (v : Value) (i : Int32) (q : Nat) (r : List Value) (M : pm_M) : fr S (d) (82, 26, L, v :: .int i :: .ref q :: r) M = if pm_sq M 1 v = true then (match (pm_get M q).bind (fun c => pm_ev 2 3 c i v) with
  | some c => fr S d (82, 27, L, r) (pm_set M q c)
  | none => none) else none := (fr_eq S (d) (82, 26, L, v :: .int i :: .ref q :: r) M).trans (x_oas _ _ 2 3 1 82 27 L r v i q M)
theorem f82_27 (S : pm_S) (d : Nat) (L : List Value) (st : List Value) (M : pm_M) : fr S (d) (82, 27, L, st) M = if pm_ty (L.getD 0 pm_U) = 2 then fr S d (82, 28, L, L.getD 0 pm_U :: st) M else none := (fr_eq S (d) (82, 27, L, st) M).trans (x_old _ _ 2 0 82 28 L st M)
theorem f82_28 (S : pm_S) (d : Nat) (L : List Value) (q : Nat) (r : List Value) (M : pm_M) : fr S (d) (82, 28, L, .ref q :: r) M = match pm_get M q with
  | some (.inr (c, fs)) => if c = 2 ∧ 1 < fs.length then fr S d (82, 31, L, fs.getD 1 pm_U :: r) M else none
  | _ => none := (fr_eq S (d) (82, 28, L, .ref q :: r) M).trans (x_ogf _ _ 2 1 82 31 L r q M)
theorem f82_31 (S : pm_S) (d : Nat) (L : List Value) (st : List Value) (M : pm_M) : fr S (d) (82, 31, L, st) M = if pm_ty (L.getD 2 pm_U) = 0 then fr S d (82, 32, L, L.getD 2 pm_U :: st) M else none := (fr_eq S (d) (82, 31, L, st) M).trans (x_old _ _ 0 2 82 32 L st M)
theorem f82_32 (S : pm_S) (d : Nat) (L : List Value) (st : List Value) (M : pm_M) : fr S (d) (82, 32, L, st) M = if pm_ty (L.getD 1 pm_U) = 2 then fr S d (82, 33, L, L.getD 1 pm_U :: st) M else none := (fr_eq S (d) (82, 32, L, st) M).trans (x_old _ _ 2 1 82 33 L st M)
theorem f82_33 (S : pm_S) (d : Nat) (L : List Value) (q : Nat) (r : List Value) (M : pm_M) : fr S (d) (82, 33, L, .ref q :: r) M = match pm_get M q with
  | some (.inr (c, fs)) => if c = 2 ∧ 1 < fs.length then fr S d (82, 36, L, fs.getD 1 pm_U :: r) M else none
  | _ => none := (fr_eq S (d) (82, 33, L, .ref q :: r) M).trans (x_ogf _ _ 2 1 82 36 L r q M)
theorem f82_36 (S : pm_S) (d : Nat) (L : List Value) (st : List Value) (M : pm_M) : fr S (d) (82, 36, L, st) M = if pm_ty (L.getD 2 pm_U) = 0 then fr S d (82, 37, L, L.getD 2 pm_U :: st) M else none := (fr_eq S (d) (82, 36, L, st) M).trans (x_old _ _ 0 2 82 37 L st M)
theorem f82_37 (S : pm_S) (d : Nat) (L : List Value) (i : Int32) (q : Nat) (hq : ¬ q = 1) (r : List Value) (M : pm_M) : fr S (d) (82, 37, L, .int i :: .ref q :: r) M = match (pm_get M q).bind (fun c => pm_el 0 c i) with
  | some v => fr S d (82, 38, L, v :: r) M
  | none => none := (fr_eq S (d) (82, 37, L, .int i :: .ref q :: r) M).trans (x_oal _ _ S 0 82 38 L r i q hq M)
theorem f82_38 (S : pm_S) (d : Nat) (L : List Value) (v : Value) (i : Int32) (q : Nat) (r : List Value) (M : pm_M) : fr S (d) (82, 38, L, v :: .int i :: .ref q :: r) M = if pm_sq M 9 v = true then (match (pm_get M q).bind (fun c => pm_ev 0 0 c i v) with
  | some c => fr S d (82, 39, L, r) (pm_set M q c)
  | none => none) else none := (fr_eq S (d) (82, 38, L, v :: .int i :: .ref q :: r) M).trans (x_oas _ _ 0 0 9 82 39 L r v i q M)
theorem f82_39 (S : pm_S) (d : Nat) (L : List Value) (st : List Value) (M : pm_M) : fr S (d) (82, 39, L, st) M = match L.getD 2 pm_U with
  | .int x => if 2 < L.length ∧ ¬ pm_ty (L.getD (2 - 1) pm_U) = 1 then fr S d (82, 42, L.set 2 (.int (x + 1)), st) M else none
  | _ => none := (fr_eq S (d) (82, 39, L, st) M).trans (x_oinc _ _ 2 1 82 42 L st M)
theorem f82_42 (S : pm_S) (d : Nat) (L : List Value) (st : List Value) (M : pm_M) : fr S (d) (82, 42, L, st) M = fr S d (82, 2, L, st) M := (fr_eq S (d) (82, 42, L, st) M).trans (x_ogo _ _ 82 2 L st M)
theorem f82_45 (S : pm_S) (d : Nat) (L : List Value) (st : List Value) (M : pm_M) : fr S (d) (82, 45, L, st) M = if pm_ty (L.getD 0 pm_U) = 2 then fr S d (82, 46, L, L.getD 0 pm_U :: st) M else none := (fr_eq S (d) (82, 45, L, st) M).trans (x_old _ _ 2 0 82 46 L st M)
theorem f82_46 (S : pm_S) (d : Nat) (L : List Value) (st : List Value) (M : pm_M) : fr S (d) (82, 46, L, st) M = if pm_ty (L.getD 1 pm_U) = 2 then fr S d (82, 47, L, L.getD 1 pm_U :: st) M else none := (fr_eq S (d) (82, 46, L, st) M).trans (x_old _ _ 2 1 82 47 L st M)
theorem f82_47 (S : pm_S) (d : Nat) (L : List Value) (q : Nat) (r : List Value) (M : pm_M) : fr S (d) (82, 47, L, .ref q :: r) M = match pm_get M q with
  | some (.inr (c, fs)) => if c = 2 ∧ 2 < fs.length then fr S d (82, 50, L, fs.getD 2 pm_U :: r) M else none
  | _ => none := (fr_eq S (d) (82, 47, L, .ref q :: r) M).trans (x_ogf _ _ 2 2 82 50 L r q M)
theorem f82_50 (S : pm_S) (d : Nat) (L : List Value) (v : Value) (q : Nat) (r : List Value) (M : pm_M) : fr S (d) (82, 50, L, v :: .ref q :: r) M = match pm_get M q with
  | some (.inr (c, fs)) => if c = 2 ∧ 2 < fs.length ∧ pm_fit 0 v = true then fr S d (82, 53, L, r) (pm_set M q (.inr (c, fs.set 2 v))) else none
  | _ => none := (fr_eq S (d) (82, 50, L, v :: .ref q :: r) M).trans (x_opf _ _ 2 2 0 82 53 L r q v M)
theorem f82_53 (S : pm_S) (d : Nat) (L : List Value) (st : List Value) (M : pm_M) : fr S (d) (82, 53, L, st) M = if pm_ty (L.getD 0 pm_U) = 2 then fr S d (82, 54, L, L.getD 0 pm_U :: st) M else none := (fr_eq S (d) (82, 53, L, st) M).trans (x_old _ _ 2 0 82 54 L st M)
theorem f82_54 (S : pm_S) (d : Nat) (L : List Value) (st : List Value) (M : pm_M) : fr S (d) (82, 54, L, st) M = if pm_ty (L.getD 1 pm_U) = 2 then fr S d (82, 55, L, L.getD 1 pm_U :: st) M else none := (fr_eq S (d) (82, 54, L, st) M).trans (x_old _ _ 2 1 82 55 L st M)
theorem f82_55 (S : pm_S) (d : Nat) (L : List Value) (q : Nat) (r : List Value) (M : pm_M) : fr S (d) (82, 55, L, .ref q :: r) M = match pm_get M q with
  | some (.inr (c, fs)) => if c = 2 ∧ 3 < fs.length then fr S d (82, 58, L, fs.getD 3 pm_U :: r) M else none
  | _ => none := (fr_eq S (d) (82, 55, L, .ref q :: r) M).trans (x_ogf _ _ 2 3 82 58 L r q M)
theorem f82_58 (S : pm_S) (d : Nat) (L : List Value) (v : Value) (q : Nat) (r : List Value) (M : pm_M) : fr S (d) (82, 58, L, v :: .ref q :: r) M = match pm_get M q with
  | some (.inr (c, fs)) => if c = 2 ∧ 3 < fs.length ∧ pm_fit 0 v = true then fr S d (82, 61, L, r) (pm_set M q (.inr (c, fs.set 3 v))) else none
  | _ => none := (fr_eq S (d) (82, 58, L, v :: .ref q :: r) M).trans (x_opf _ _ 2 3 0 82 61 L r q v M)
theorem f82_61 (S : pm_S) (d : Nat) (L : List Value)  (M : pm_M) : fr S (d) (82, 61, L, []) M = some (.inl none, M) := (fr_eq S (d) (82, 61, L, []) M).trans (x_orv _ _ M)
