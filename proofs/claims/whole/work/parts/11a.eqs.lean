theorem f60_0 (S : pm_S) (d : Nat) (L : List Value) (st : List Value) (M : pm_M) : fr S (d) (60, 0, L, st) M = if pm_ty (L.getD 0 pm_U) = 2 then fr S d (60, 1, L, L.getD 0 pm_U :: st) M else none := (fr_eq S (d) (60, 0, L, st) M).trans (x_old _ _ 2 0 60 1 L st M)
theorem f60_1 (S : pm_S) (d : Nat) (L : List Value) (q : Nat) (r : List Value) (M : pm_M) : fr S (d) (60, 1, L, .ref q :: r) M = if r.length ≤ 4 then fr S d (60, 4, L, r) M else none := (fr_eq S (d) (60, 1, L, .ref q :: r) M).trans (x_ooi _ _ 60 4 L r q M)
theorem f60_4 (S : pm_S) (d : Nat) (L : List Value) (st : List Value) (M : pm_M) : fr S (d) (60, 4, L, st) M = if pm_ty (L.getD 0 pm_U) = 2 then fr S d (60, 5, L, L.getD 0 pm_U :: st) M else none := (fr_eq S (d) (60, 4, L, st) M).trans (x_old _ _ 2 0 60 5 L st M)
theorem f60_5 (S : pm_S) (d : Nat) (L : List Value) (st : List Value) (M : pm_M) : fr S (d) (60, 5, L, st) M = if pm_ty (L.getD 1 pm_U) = 0 then fr S d (60, 6, L, L.getD 1 pm_U :: st) M else none := (fr_eq S (d) (60, 5, L, st) M).trans (x_old _ _ 0 1 60 6 L st M)
theorem f60_6 (S : pm_S) (d : Nat) (L : List Value) (v : Value) (q : Nat) (r : List Value) (M : pm_M) : fr S (d) (60, 6, L, v :: .ref q :: r) M = match pm_get M q with
  | some (.inr (c, fs)) => if c = 1 ∧ 0 < fs.length ∧ pm_fit 0 v = true then fr S d (60, 9, L, r) (pm_set M q (.inr (c, fs.set 0 v))) else none
  | _ => none := (fr_eq S (d) (60, 6, L, v :: .ref q :: r) M).trans (x_opf _ _ 1 0 0 60 9 L r q v M)
theorem f60_9 (S : pm_S) (d : Nat) (L : List Value) (st : List Value) (M : pm_M) : fr S (d) (60, 9, L, st) M = if pm_ty (L.getD 0 pm_U) = 2 then fr S d (60, 10, L, L.getD 0 pm_U :: st) M else none := (fr_eq S (d) (60, 9, L, st) M).trans (x_old _ _ 2 0 60 10 L st M)
theorem f60_10 (S : pm_S) (d : Nat) (L : List Value) (st : List Value) (M : pm_M) : fr S (d) (60, 10, L, st) M = if pm_ty (L.getD 2 pm_U) = 0 then fr S d (60, 11, L, L.getD 2 pm_U :: st) M else none := (fr_eq S (d) (60, 10, L, st) M).trans (x_old _ _ 0 2 60 11 L st M)
theorem f60_11 (S : pm_S) (d : Nat) (L : List Value) (v : Value) (q : Nat) (r : List Value) (M : pm_M) : fr S (d) (60, 11, L, v :: .ref q :: r) M = match pm_get M q with
  | some (.inr (c, fs)) => if c = 1 ∧ 1 < fs.length ∧ pm_fit 0 v = true then fr S d (60, 14, L, r) (pm_set M q (.inr (c, fs.set 1 v))) else none
  | _ => none := (fr_eq S (d) (60, 11, L, v :: .ref q :: r) M).trans (x_opf _ _ 1 1 0 60 14 L r q v M)
theorem f60_14 (S : pm_S) (d : Nat) (L : List Value) (st : List Value) (M : pm_M) : fr S (d) (60, 14, L, st) M = if pm_ty (L.getD 0 pm_U) = 2 then fr S d (60, 15, L, L.getD 0 pm_U :: st) M else none := (fr_eq S (d) (60, 14, L, st) M).trans (x_old _ _ 2 0 60 15 L st M)
theorem f60_15 (S : pm_S) (d : Nat) (L : List Value) (st : List Value) (M : pm_M) : fr S (d) (60, 15, L, st) M = if pm_ty (L.getD 3 pm_U) = 0 then fr S d (60, 16, L, L.getD 3 pm_U :: st) M else none := (fr_eq S (d) (60, 15, L, st) M).trans (x_old _ _ 0 3 60 16 L st M)
theorem f60_16 (S : pm_S) (d : Nat) (L : List Value) (v : Value) (q : Nat) (r : List Value) (M : pm_M) : fr S (d) (60, 16, L, v :: .ref q :: r) M = match pm_get M q with
  | some (.inr (c, fs)) => if c = 1 ∧ 2 < fs.length ∧ pm_fit 0 v = true then fr S d (60, 19, L, r) (pm_set M q (.inr (c, fs.set 2 v))) else none
  | _ => none := (fr_eq S (d) (60, 16, L, v :: .ref q :: r) M).trans (x_opf _ _ 1 2 0 60 19 L r q v M)
theorem f60_19 (S : pm_S) (d : Nat) (L : List Value) (st : List Value) (M : pm_M) : fr S (d) (60, 19, L, st) M = if pm_ty (L.getD 0 pm_U) = 2 then fr S d (60, 20, L, L.getD 0 pm_U :: st) M else none := (fr_eq S (d) (60, 19, L, st) M).trans (x_old _ _ 2 0 60 20 L st M)
theorem f60_20 (S : pm_S) (d : Nat) (L : List Value) (st : List Value) (M : pm_M) : fr S (d) (60, 20, L, st) M = if pm_ty (L.getD 4 pm_U) = 0 then fr S d (60, 22, L, L.getD 4 pm_U :: st) M else none := (fr_eq S (d) (60, 20, L, st) M).trans (x_old _ _ 0 4 60 22 L st M)
theorem f60_22 (S : pm_S) (d : Nat) (L : List Value) (v : Value) (q : Nat) (r : List Value) (M : pm_M) : fr S (d) (60, 22, L, v :: .ref q :: r) M = match pm_get M q with
  | some (.inr (c, fs)) => if c = 1 ∧ 3 < fs.length ∧ pm_fit 0 v = true then fr S d (60, 25, L, r) (pm_set M q (.inr (c, fs.set 3 v))) else none
  | _ => none := (fr_eq S (d) (60, 22, L, v :: .ref q :: r) M).trans (x_opf _ _ 1 3 0 60 25 L r q v M)
theorem f60_25 (S : pm_S) (d : Nat) (L : List Value) (st : List Value) (M : pm_M) : fr S (d) (60, 25, L, st) M = if pm_ty (L.getD 0 pm_U) = 2 then fr S d (60, 26, L, L.getD 0 pm_U :: st) M else none := (fr_eq S (d) (60, 25, L, st) M).trans (x_old _ _ 2 0 60 26 L st M)
theorem f60_26 (S : pm_S) (d : Nat) (L : List Value) (st : List Value) (M : pm_M) : fr S (d) (60, 26, L, st) M = if pm_ty (L.getD 5 pm_U) = 0 then fr S d (60, 28, L, L.getD 5 pm_U :: st) M else none := (fr_eq S (d) (60, 26, L, st) M).trans (x_old _ _ 0 5 60 28 L st M)
theorem f60_28 (S : pm_S) (d : Nat) (L : List Value) (v : Value) (q : Nat) (r : List Value) (M : pm_M) : fr S (d) (60, 28, L, v :: .ref q :: r) M = match pm_get M q with
  | some (.inr (c, fs)) => if c = 1 ∧ 4 < fs.length ∧ pm_fit 0 v = true then fr S d (60, 31, L, r) (pm_set M q (.inr (c, fs.set 4 v))) else none
  | _ => none := (fr_eq S (d) (60, 28, L, v :: .ref q :: r) M).trans (x_opf _ _ 1 4 0 60 31 L r q v M)
theorem f60_31 (S : pm_S) (d : Nat) (L : List Value) (st : List Value) (M : pm_M) : fr S (d) (60, 31, L, st) M = if pm_ty (L.getD 0 pm_U) = 2 then fr S d (60, 32, L, L.getD 0 pm_U :: st) M else none := (fr_eq S (d) (60, 31, L, st) M).trans (x_old _ _ 2 0 60 32 L st M)
theorem f60_32 (S : pm_S) (d : Nat) (L : List Value) (st : List Value) (M : pm_M) : fr S (d) (60, 32, L, st) M = fr S d (60, 33, L, .int (-1) :: st) M := (fr_eq S (d) (60, 32, L, st) M).trans (x_ocs _ _ (.int (-1)) 60 33 L st M)
theorem f60_33 (S : pm_S) (d : Nat) (L : List Value) (v : Value) (q : Nat) (r : List Value) (M : pm_M) : fr S (d) (60, 33, L, v :: .ref q :: r) M = match pm_get M q with
  | some (.inr (c, fs)) => if c = 1 ∧ 5 < fs.length ∧ pm_fit 0 v = true then fr S d (60, 36, L, r) (pm_set M q (.inr (c, fs.set 5 v))) else none
  | _ => none := (fr_eq S (d) (60, 33, L, v :: .ref q :: r) M).trans (x_opf _ _ 1 5 0 60 36 L r q v M)
theorem f60_36 (S : pm_S) (d : Nat) (L : List Value) (st : List Value) (M : pm_M) : fr S (d) (60, 36, L, st) M = if pm_ty (L.getD 0 pm_U) = 2 then fr S d (60, 37, L, L.getD 0 pm_U :: st) M else none := (fr_eq S (d) (60, 36, L, st) M).trans (x_old _ _ 2 0 60 37 L st M)
theorem f60_37 (S : pm_S) (d : Nat) (L : List Value) (st : List Value) (M : pm_M) : fr S (d) (60, 37, L, st) M = fr S d (60, 38, L, .int (-1) :: st) M := (fr_eq S (d) (60, 37, L, st) M).trans (x_ocs _ _ (.int (-1)) 60 38 L st M)
theorem f60_38 (S : pm_S) (d : Nat) (L : List Value) (v : Value) (q : Nat) (r : List Value) (M : pm_M) : fr S (d) (60, 38, L, v :: .ref q :: r) M = match pm_get M q with
  | some (.inr (c, fs)) => if c = 1 ∧ 6 < fs.length ∧ pm_fit 0 v = true then fr S d (60, 41, L, r) (pm_set M q (.inr (c, fs.set 6 v))) else none
  | _ => none := (fr_eq S (d) (60, 38, L, v :: .ref q :: r) M).trans (x_opf _ _ 1 6 0 60 41 L r q v M)
theorem f60_41 (S : pm_S) (d : Nat) (L : List Value) (st : List Value) (M : pm_M) : fr S (d) (60, 41, L, st) M = if pm_ty (L.getD 0 pm_U) = 2 then fr S d (60, 42, L, L.getD 0 pm_U :: st) M else none := (fr_eq S (d) (60, 41, L, st) M).trans (x_old _ _ 2 0 60 42 L st M)
theorem f60_42 (S : pm_S) (d : Nat) (L : List Value) (st : List Value) (M : pm_M) : fr S (d) (60, 42, L, st) M = fr S d (60, 43, L, .int (-1) :: st) M := (fr_eq S (d) (60, 42, L, st) M).trans (x_ocs _ _ (.int (-1)) 60 43 L st M)
theorem f60_43 (S : pm_S) (d : Nat) (L : List Value) (v : Value) (q : Nat) (r : List Value) (M : pm_M) : fr S (d) (60, 43, L, v :: .ref q :: r) M = match pm_get M q with
  | some (.inr (c, fs)) => if c = 1 ∧ 7 < fs.length ∧ pm_fit 0 v = true then fr S d (60, 46, L, r) (pm_set M q (.inr (c, fs.set 7 v))) else none
  | _ => none := (fr_eq S (d) (60, 43, L, v :: .ref q :: r) M).trans (x_opf _ _ 1 7 0 60 46 L r q v M)
theorem f60_46 (S : pm_S) (d : Nat) (L : List Value)  (M : pm_M) : fr S (d) (60, 46, L, []) M = some (.inl none, M) := (fr_eq S (d) (60, 46, L, []) M).trans (x_orv _ _ M)
theorem f61_0 (S : pm_S) (d : Nat) (L : List Value) (st : List Value) (M : pm_M) : fr S (d) (61, 0, L, st) M = if pm_ty (L.getD 0 pm_U) = 2 then fr S d (61, 1, L, L.getD 0 pm_U :: st) M else none := (fr_eq S (d) (61, 0, L, st) M).trans (x_old _ _ 2 0 61 1 L st M)
theorem f61_1 (S : pm_S) (d : Nat) (L : List Value) (q : Nat) (r : List Value) (M : pm_M) : fr S (d) (61, 1, L, .ref q :: r) M = match pm_get M q with
  | some (.inr (c, fs)) => if c = 1 ∧ 1 < fs.length then fr S d (61, 4, L, fs.getD 1 pm_U :: r) M else none
  | _ => none := (fr_eq S (d) (61, 1, L, .ref q :: r) M).trans (x_ogf _ _ 1 1 61 4 L r q M)
theorem f61_4 (S : pm_S) (d : Nat) (L : List Value) (st : List Value) (M : pm_M) : fr S (d) (61, 4, L, st) M = fr S d (61, 6, L, .int 40 :: st) M := (fr_eq S (d) (61, 4, L, st) M).trans (x_ocs _ _ (.int 40) 61 6 L st M)
theorem f61_6 (S : pm_S) (d : Nat) (L : List Value) (x y : Int32) (r : List Value) (M : pm_M) : fr S (d) (61, 6, L, .int y :: .int x :: r) M = if ¬ x = y then fr S d (61, 13, L, r) M else fr S d (61, 9, L, r) M := (fr_eq S (d) (61, 6, L, .int y :: .int x :: r) M).trans (x_oc2ne _ _ 61 9 13 L r x y M)
theorem f61_9 (S : pm_S) (d : Nat) (L : List Value) (st : List Value) (M : pm_M) : fr S (d) (61, 9, L, st) M = fr S d (61, 10, L, .int 1 :: st) M := (fr_eq S (d) (61, 9, L, st) M).trans (x_ocs _ _ (.int 1) 61 10 L st M)
theorem f61_10 (S : pm_S) (d : Nat) (L : List Value) (st : List Value) (M : pm_M) : fr S (d) (61, 10, L, st) M = fr S d (61, 14, L, st) M := (fr_eq S (d) (61, 10, L, st) M).trans (x_ogo _ _ 61 14 L st M)
theorem f61_13 (S : pm_S) (d : Nat) (L : List Value) (st : List Value) (M : pm_M) : fr S (d) (61, 13, L, st) M = fr S d (61, 14, L, .int 0 :: st) M := (fr_eq S (d) (61, 13, L, st) M).trans (x_ocs _ _ (.int 0) 61 14 L st M)
theorem f61_14 (S : pm_S) (d : Nat) (L : List Value) (v : Value) (M : pm_M) : fr S (d) (61, 14, L, [v]) M = if pm_fit 3 v = true then some (.inl (some v), M) else none := (fr_eq S (d) (61, 14, L, [v]) M).trans (x_ort _ _ 3 v M)
theorem f62_0 (S : pm_S) (d : Nat) (L : List Value) (st : List Value) (M : pm_M) : fr S (d) (62, 0, L, st) M = if pm_ty (L.getD 0 pm_U) = 2 then fr S d (62, 1, L, L.getD 0 pm_U :: st) M else none := (fr_eq S (d) (62, 0, L, st) M).trans (x_old _ _ 2 0 62 1 L st M)
theorem f62_1 (S : pm_S) (d : Nat) (L : List Value) (st : List Value) (M : pm_M) : fr S (d) (62, 1, L, st) M = if pm_ty (L.getD 0 pm_U) = 2 then fr S d (62, 2, L, L.getD 0 pm_U :: st) M else none := (fr_eq S (d) (62, 1, L, st) M).trans (x_old _ _ 2 0 62 2 L st M)
theorem f62_2 (S : pm_S) (d : Nat) (L : List Value) (q : Nat) (r : List Value) (M : pm_M) : fr S (d) (62, 2, L, .ref q :: r) M = match pm_get M q with
  | some (.inr (c, fs)) => if c = 1 ∧ 5 < fs.length then fr S d (62, 5, L, fs.getD 5 pm_U :: r) M else none
  | _ => none := (fr_eq S (d) (62, 2, L, .ref q :: r) M).trans (x_ogf _ _ 1 5 62 5 L r q M)
theorem f62_5 (S : pm_S) (d : Nat) (L : List Value) (st : List Value) (M : pm_M) : fr S (d + 1) (62, 5, L, st) M = match pm_ag 2 [] st with
  | some (a, r) => if r.length ≤ 4 ∧ (1 = 0 ∨ pm_obj M 1 (a.headD pm_U) = true) then (match fr S d (63, 0, a ++ [], []) M with
    | none => none
    | some (.inl v, M') => fr S (d + 1) (62, 8, L, v.toList ++ r) M'
    | some (.inr E, M') => some (.inr E, M')) else none
  | none => none := (fr_eq S (d + 1) (62, 5, L, st) M).trans (x_ocl _ _ 1 63 2 1 [] 62 8 L st M)
theorem f62_8 (S : pm_S) (d : Nat) (L : List Value) (v : Value) (M : pm_M) : fr S (d) (62, 8, L, [v]) M = if pm_fit 0 v = true then some (.inl (some v), M) else none := (fr_eq S (d) (62, 8, L, [v]) M).trans (x_ort _ _ 0 v M)
theorem f63_0 (S : pm_S) (d : Nat) (L : List Value) (st : List Value) (M : pm_M) : fr S (d) (63, 0, L, st) M = if pm_ty (L.getD 0 pm_U) = 2 then fr S d (63, 1, L, L.getD 0 pm_U :: st) M else none := (fr_eq S (d) (63, 0, L, st) M).trans (x_old _ _ 2 0 63 1 L st M)
theorem f63_1 (S : pm_S) (d : Nat) (L : List Value) (q : Nat) (r : List Value) (M : pm_M) : fr S (d) (63, 1, L, .ref q :: r) M = match pm_get M q with
  | some (.inr (c, fs)) => if c = 1 ∧ 1 < fs.length then fr S d (63, 4, L, fs.getD 1 pm_U :: r) M else none
  | _ => none := (fr_eq S (d) (63, 1, L, .ref q :: r) M).trans (x_ogf _ _ 1 1 63 4 L r q M)
theorem f63_4 (S : pm_S) (d : Nat) (L : List Value) (st : List Value) (M : pm_M) : fr S (d) (63, 4, L, st) M = fr S d (63, 6, L, .int 40 :: st) M := (fr_eq S (d) (63, 4, L, st) M).trans (x_ocs _ _ (.int 40) 63 6 L st M)
theorem f63_6 (S : pm_S) (d : Nat) (L : List Value) (x y : Int32) (r : List Value) (M : pm_M) : fr S (d) (63, 6, L, .int y :: .int x :: r) M = if ¬ x = y then fr S d (63, 15, L, r) M else fr S d (63, 9, L, r) M := (fr_eq S (d) (63, 6, L, .int y :: .int x :: r) M).trans (x_oc2ne _ _ 63 9 15 L r x y M)
theorem f63_9 (S : pm_S) (d : Nat) (L : List Value) (st : List Value) (M : pm_M) : fr S (d) (63, 9, L, st) M = if pm_ty (L.getD 1 pm_U) = 0 then fr S d (63, 10, L, L.getD 1 pm_U :: st) M else none := (fr_eq S (d) (63, 9, L, st) M).trans (x_old _ _ 0 1 63 10 L st M)
theorem f63_10 (S : pm_S) (d : Nat) (L : List Value) (st : List Value) (M : pm_M) : fr S (d) (63, 10, L, st) M = fr S d (63, 11, L, .int 1 :: st) M := (fr_eq S (d) (63, 10, L, st) M).trans (x_ocs _ _ (.int 1) 63 11 L st M)
theorem f63_11 (S : pm_S) (d : Nat) (L : List Value) (x y : Int32) (r : List Value) (M : pm_M) : fr S (d) (63, 11, L, .int y :: .int x :: r) M = fr S d (63, 12, L, .int (x + y) :: r) M := (fr_eq S (d) (63, 11, L, .int y :: .int x :: r) M).trans (x_oii _ _ (fun x y => x + y) 63 12 L r x y M)
theorem f63_12 (S : pm_S) (d : Nat) (L : List Value) (st : List Value) (M : pm_M) : fr S (d) (63, 12, L, st) M = fr S d (63, 16, L, st) M := (fr_eq S (d) (63, 12, L, st) M).trans (x_ogo _ _ 63 16 L st M)
theorem f63_15 (S : pm_S) (d : Nat) (L : List Value) (st : List Value) (M : pm_M) : fr S (d) (63, 15, L, st) M = if pm_ty (L.getD 1 pm_U) = 0 then fr S d (63, 16, L, L.getD 1 pm_U :: st) M else none := (fr_eq S (d) (63, 15, L, st) M).trans (x_old _ _ 0 1 63 16 L st M)
theorem f63_16 (S : pm_S) (d : Nat) (L : List Value) (v : Value) (M : pm_M) : fr S (d) (63, 16, L, [v]) M = if pm_fit 0 v = true then some (.inl (some v), M) else none := (fr_eq S (d) (63, 16, L, [v]) M).trans (x_ort _ _ 0 v M)
theorem f64_0 (S : pm_S) (d : Nat) (L : List Value) (st : List Value) (M : pm_M) : fr S (d) (64, 0, L, st) M = if pm_ty (L.getD 0 pm_U) = 2 then fr S d (64, 1, L, L.getD 0 pm_U :: st) M else none := (fr_eq S (d) (64, 0, L, st) M).trans (x_old _ _ 2 0 64 1 L st M)
theorem f64_1 (S : pm_S) (d : Nat) (L : List Value) (q : Nat) (r : List Value) (M : pm_M) : fr S (d) (64, 1, L, .ref q :: r) M = match pm_get M q with
  | some (.inr (c, fs)) => if c = 1 ∧ 5 < fs.length then fr S d (64, 4, L, fs.getD 5 pm_U :: r) M else none
  | _ => none := (fr_eq S (d) (64, 1, L, .ref q :: r) M).trans (x_ogf _ _ 1 5 64 4 L r q M)
theorem f64_4 (S : pm_S) (d : Nat) (L : List Value) (st : List Value) (M : pm_M) : fr S (d) (64, 4, L, st) M = fr S d (64, 5, L, .int (-1) :: st) M := (fr_eq S (d) (64, 4, L, st) M).trans (x_ocs _ _ (.int (-1)) 64 5 L st M)
theorem f64_5 (S : pm_S) (d : Nat) (L : List Value) (x y : Int32) (r : List Value) (M : pm_M) : fr S (d) (64, 5, L, .int y :: .int x :: r) M = if x = y then fr S d (64, 12, L, r) M else fr S d (64, 8, L, r) M := (fr_eq S (d) (64, 5, L, .int y :: .int x :: r) M).trans (x_oc2eq _ _ 64 8 12 L r x y M)
theorem f64_8 (S : pm_S) (d : Nat) (L : List Value) (st : List Value) (M : pm_M) : fr S (d) (64, 8, L, st) M = fr S d (64, 9, L, .int 1 :: st) M := (fr_eq S (d) (64, 8, L, st) M).trans (x_ocs _ _ (.int 1) 64 9 L st M)
theorem f64_9 (S : pm_S) (d : Nat) (L : List Value) (st : List Value) (M : pm_M) : fr S (d) (64, 9, L, st) M = fr S d (64, 13, L, st) M := (fr_eq S (d) (64, 9, L, st) M).trans (x_ogo _ _ 64 13 L st M)
theorem f64_12 (S : pm_S) (d : Nat) (L : List Value) (st : List Value) (M : pm_M) : fr S (d) (64, 12, L, st) M = fr S d (64, 13, L, .int 0 :: st) M := (fr_eq S (d) (64, 12, L, st) M).trans (x_ocs _ _ (.int 0) 64 13 L st M)
theorem f64_13 (S : pm_S) (d : Nat) (L : List Value) (v : Value) (M : pm_M) : fr S (d) (64, 13, L, [v]) M = if pm_fit 3 v = true then some (.inl (some v), M) else none := (fr_eq S (d) (64, 13, L, [v]) M).trans (x_ort _ _ 3 v M)
theorem f65_0 (S : pm_S) (d : Nat) (L : List Value) (st : List Value) (M : pm_M) : fr S (d) (65, 0, L, st) M = if pm_ty (L.getD 0 pm_U) = 2 then fr S d (65, 1, L, L.getD 0 pm_U :: st) M else none := (fr_eq S (d) (65, 0, L, st) M).trans (x_old _ _ 2 0 65 1 L st M)
theorem f65_1 (S : pm_S) (d : Nat) (L : List Value) (st : List Value) (M : pm_M) : fr S (d) (65, 1, L, st) M = if pm_ty (L.getD 1 pm_U) = 0 then fr S d (65, 2, L, L.getD 1 pm_U :: st) M else none := (fr_eq S (d) (65, 1, L, st) M).trans (x_old _ _ 0 1 65 2 L st M)
theorem f65_2 (S : pm_S) (d : Nat) (L : List Value) (v : Value) (q : Nat) (r : List Value) (M : pm_M) : fr S (d) (65, 2, L, v :: .ref q :: r) M = match pm_get M q with
  | some (.inr (c, fs)) => if c = 1 ∧ 5 < fs.length ∧ pm_fit 0 v = true then fr S d (65, 5, L, r) (pm_set M q (.inr (c, fs.set 5 v))) else none
  | _ => none := (fr_eq S (d) (65, 2, L, v :: .ref q :: r) M).trans (x_opf _ _ 1 5 0 65 5 L r q v M)
theorem f65_5 (S : pm_S) (d : Nat) (L : List Value) (st : List Value) (M : pm_M) : fr S (d) (65, 5, L, st) M = if pm_ty (L.getD 0 pm_U) = 2 then fr S d (65, 6, L, L.getD 0 pm_U :: st) M else none := (fr_eq S (d) (65, 5, L, st) M).trans (x_old _ _ 2 0 65 6 L st M)
theorem f65_6 (S : pm_S) (d : Nat) (L : List Value) (st : List Value) (M : pm_M) : fr S (d) (65, 6, L, st) M = if pm_ty (L.getD 2 pm_U) = 0 then fr S d (65, 7, L, L.getD 2 pm_U :: st) M else none := (fr_eq S (d) (65, 6, L, st) M).trans (x_old _ _ 0 2 65 7 L st M)
theorem f65_7 (S : pm_S) (d : Nat) (L : List Value) (v : Value) (q : Nat) (r : List Value) (M : pm_M) : fr S (d) (65, 7, L, v :: .ref q :: r) M = match pm_get M q with
  | some (.inr (c, fs)) => if c = 1 ∧ 6 < fs.length ∧ pm_fit 0 v = true then fr S d (65, 10, L, r) (pm_set M q (.inr (c, fs.set 6 v))) else none
  | _ => none := (fr_eq S (d) (65, 7, L, v :: .ref q :: r) M).trans (x_opf _ _ 1 6 0 65 10 L r q v M)
theorem f65_10 (S : pm_S) (d : Nat) (L : List Value) (st : List Value) (M : pm_M) : fr S (d) (65, 10, L, st) M = if pm_ty (L.getD 0 pm_U) = 2 then fr S d (65, 11, L, L.getD 0 pm_U :: st) M else none := (fr_eq S (d) (65, 10, L, st) M).trans (x_old _ _ 2 0 65 11 L st M)
theorem f65_11 (S : pm_S) (d : Nat) (L : List Value) (st : List Value) (M : pm_M) : fr S (d) (65, 11, L, st) M = if pm_ty (L.getD 3 pm_U) = 0 then fr S d (65, 12, L, L.getD 3 pm_U :: st) M else none := (fr_eq S (d) (65, 11, L, st) M).trans (x_old _ _ 0 3 65 12 L st M)
theorem f65_12 (S : pm_S) (d : Nat) (L : List Value) (v : Value) (q : Nat) (r : List Value) (M : pm_M) : fr S (d) (65, 12, L, v :: .ref q :: r) M = match pm_get M q with
  | some (.inr (c, fs)) => if c = 1 ∧ 7 < fs.length ∧ pm_fit 0 v = true then fr S d (65, 15, L, r) (pm_set M q (.inr (c, fs.set 7 v))) else none
  | _ => none := (fr_eq S (d) (65, 12, L, v :: .ref q :: r) M).trans (x_opf _ _ 1 7 0 65 15 L r q v M)
theorem f65_15 (S : pm_S) (d : Nat) (L : List Value)  (M : pm_M) : fr S (d) (65, 15, L, []) M = some (.inl none, M) := (fr_eq S (d) (65, 15, L, []) M).trans (x_orv _ _ M)
theorem f66_0 (S : pm_S) (d : Nat) (L : List Value) (st : List Value) (M : pm_M) : fr S (d) (66, 0, L, st) M = if pm_ty (L.getD 0 pm_U) = 2 then fr S d (66, 1, L, L.getD 0 pm_U :: st) M else none := (fr_eq S (d) (66, 0, L, st) M).trans (x_old _ _ 2 0 66 1 L st M)
theorem f66_1 (S : pm_S) (d : Nat) (L : List Value) (q : Nat) (r : List Value) (M : pm_M) : fr S (d) (66, 1, L, .ref q :: r) M = match pm_get M q with
  | some (.inr (c, fs)) => if c = 1 ∧ 8 < fs.length then fr S d (66, 4, L, fs.getD 8 pm_U :: r) M else none
  | _ => none := (fr_eq S (d) (66, 1, L, .ref q :: r) M).trans (x_ogf _ _ 1 8 66 4 L r q M)
theorem f66_4 (S : pm_S) (d : Nat) (L : List Value) (st : List Value) (M : pm_M) : fr S (d) (66, 4, L, st) M = if pm_ty (L.getD 1 pm_U) = 2 then fr S d (66, 5, L, L.getD 1 pm_U :: st) M else none := (fr_eq S (d) (66, 4, L, st) M).trans (x_old _ _ 2 1 66 5 L st M)
theorem f66_5 (S : pm_S) (d : Nat) (L : List Value) (q : Nat) (r : List Value) (M : pm_M) : fr S (d) (66, 5, L, .ref q :: r) M = match pm_get M q with
  | some (.inr (c, fs)) => if c = 1 ∧ 0 < fs.length then fr S d (66, 8, L, fs.getD 0 pm_U :: r) M else none
  | _ => none := (fr_eq S (d) (66, 5, L, .ref q :: r) M).trans (x_ogf _ _ 1 0 66 8 L r q M)
theorem f66_8 (S : pm_S) (d : Nat) (L : List Value) (x : Int64) (y : Int32) (r : List Value) (M : pm_M) : fr S (d) (66, 8, L, .int y :: .long x :: r) M = fr S d (66, 9, L, .long (x >>> (y.toInt64 &&& 63)) :: r) M := (fr_eq S (d) (66, 8, L, .int y :: .long x :: r) M).trans (x_oli _ _ (fun x y => x >>> (y.toInt64 &&& 63)) 66 9 L r x y M)
theorem f66_9 (S : pm_S) (d : Nat) (L : List Value) (st : List Value) (M : pm_M) : fr S (d) (66, 9, L, st) M = fr S d (66, 10, L, .long 1 :: st) M := (fr_eq S (d) (66, 9, L, st) M).trans (x_ocs _ _ (.long 1) 66 10 L st M)
theorem f66_10 (S : pm_S) (d : Nat) (L : List Value) (x y : Int64) (r : List Value) (M : pm_M) : fr S (d) (66, 10, L, .long y :: .long x :: r) M = fr S d (66, 11, L, .long (x &&& y) :: r) M := (fr_eq S (d) (66, 10, L, .long y :: .long x :: r) M).trans (x_oll _ _ (fun x y => .long (x &&& y)) 66 11 L r x y M)
theorem f66_11 (S : pm_S) (d : Nat) (L : List Value) (st : List Value) (M : pm_M) : fr S (d) (66, 11, L, st) M = fr S d (66, 12, L, .long 0 :: st) M := (fr_eq S (d) (66, 11, L, st) M).trans (x_ocs _ _ (.long 0) 66 12 L st M)
theorem f66_12 (S : pm_S) (d : Nat) (L : List Value) (x y : Int64) (r : List Value) (M : pm_M) : fr S (d) (66, 12, L, .long y :: .long x :: r) M = fr S d (66, 13, L, .int (if y < x then 1 else if x = y then 0 else -1) :: r) M := (fr_eq S (d) (66, 12, L, .long y :: .long x :: r) M).trans (x_oll _ _ (fun x y => .int (if y < x then 1 else if x = y then 0 else -1)) 66 13 L r x y M)
theorem f66_13 (S : pm_S) (d : Nat) (L : List Value) (x : Int32) (r : List Value) (M : pm_M) : fr S (d) (66, 13, L, .int x :: r) M = if x = 0 then fr S d (66, 20, L, r) M else fr S d (66, 16, L, r) M := (fr_eq S (d) (66, 13, L, .int x :: r) M).trans (x_oc1eq _ _ 66 16 20 L r x M)
theorem f66_16 (S : pm_S) (d : Nat) (L : List Value) (st : List Value) (M : pm_M) : fr S (d) (66, 16, L, st) M = fr S d (66, 17, L, .int 1 :: st) M := (fr_eq S (d) (66, 16, L, st) M).trans (x_ocs _ _ (.int 1) 66 17 L st M)
theorem f66_17 (S : pm_S) (d : Nat) (L : List Value) (st : List Value) (M : pm_M) : fr S (d) (66, 17, L, st) M = fr S d (66, 21, L, st) M := (fr_eq S (d) (66, 17, L, st) M).trans (x_ogo _ _ 66 21 L st M)
theorem f66_20 (S : pm_S) (d : Nat) (L : List Value) (st : List Value) (M : pm_M) : fr S (d) (66, 20, L, st) M = fr S d (66, 21, L, .int 0 :: st) M := (fr_eq S (d) (66, 20, L, st) M).trans (x_ocs _ _ (.int 0) 66 21 L st M)
theorem f66_21 (S : pm_S) (d : Nat) (L : List Value) (v : Value) (M : pm_M) : fr S (d) (66, 21, L, [v]) M = if pm_fit 3 v = true then some (.inl (some v), M) else none := (fr_eq S (d) (66, 21, L, [v]) M).trans (x_ort _ _ 3 v M)
theorem f67_0 (S : pm_S) (d : Nat) (L : List Value) (st : List Value) (M : pm_M) : fr S (d) (67, 0, L, st) M = fr S d (67, 1, L, .long 1 :: st) M := (fr_eq S (d) (67, 0, L, st) M).trans (x_ocs _ _ (.long 1) 67 1 L st M)
theorem f67_1 (S : pm_S) (d : Nat) (L : List Value) (st : List Value) (M : pm_M) : fr S (d) (67, 1, L, st) M = if pm_ty (L.getD 1 pm_U) = 2 then fr S d (67, 2, L, L.getD 1 pm_U :: st) M else none := (fr_eq S (d) (67, 1, L, st) M).trans (x_old _ _ 2 1 67 2 L st M)
theorem f67_2 (S : pm_S) (d : Nat) (L : List Value) (q : Nat) (r : List Value) (M : pm_M) : fr S (d) (67, 2, L, .ref q :: r) M = match pm_get M q with
  | some (.inr (c, fs)) => if c = 1 ∧ 0 < fs.length then fr S d (67, 5, L, fs.getD 0 pm_U :: r) M else none
  | _ => none := (fr_eq S (d) (67, 2, L, .ref q :: r) M).trans (x_ogf _ _ 1 0 67 5 L r q M)
theorem f67_5 (S : pm_S) (d : Nat) (L : List Value) (x : Int64) (y : Int32) (r : List Value) (M : pm_M) : fr S (d) (67, 5, L, .int y :: .long x :: r) M = fr S d (67, 6, L, .long (x <<< (y.toInt64 &&& 63)) :: r) M := (fr_eq S (d) (67, 5, L, .int y :: .long x :: r) M).trans (x_oli _ _ (fun x y => x <<< (y.toInt64 &&& 63)) 67 6 L r x y M)
theorem f67_6 (S : pm_S) (d : Nat) (L : List Value) (v : Value) (r : List Value) (M : pm_M) : fr S (d) (67, 6, L, v :: r) M = if pm_ty v = 1 ∧ 3 + 1 < L.length ∧ ¬ pm_ty (L.getD (3 - 1) pm_U) = 1 then fr S d (67, 7, (L.set 3 v).set (3 + 1) pm_U, r) M else none := (fr_eq S (d) (67, 6, L, v :: r) M).trans (x_osl _ _ 3 67 7 L r v M)
theorem f67_7 (S : pm_S) (d : Nat) (L : List Value) (st : List Value) (M : pm_M) : fr S (d) (67, 7, L, st) M = if pm_ty (L.getD 0 pm_U) = 2 then fr S d (67, 8, L, L.getD 0 pm_U :: st) M else none := (fr_eq S (d) (67, 7, L, st) M).trans (x_old _ _ 2 0 67 8 L st M)
theorem f67_8 (S : pm_S) (d : Nat) (L : List Value) (st : List Value) (M : pm_M) : fr S (d) (67, 8, L, st) M = if pm_ty (L.getD 2 pm_U) = 0 then fr S d (67, 9, L, L.getD 2 pm_U :: st) M else none := (fr_eq S (d) (67, 8, L, st) M).trans (x_old _ _ 0 2 67 9 L st M)
theorem f67_9 (S : pm_S) (d : Nat) (L : List Value) (x : Int32) (r : List Value) (M : pm_M) : fr S (d) (67, 9, L, .int x :: r) M = if x = 0 then fr S d (67, 21, L, r) M else fr S d (67, 12, L, r) M := (fr_eq S (d) (67, 9, L, .int x :: r) M).trans (x_oc1eq _ _ 67 12 21 L r x M)
theorem f67_12 (S : pm_S) (d : Nat) (L : List Value) (st : List Value) (M : pm_M) : fr S (d) (67, 12, L, st) M = if pm_ty (L.getD 0 pm_U) = 2 then fr S d (67, 13, L, L.getD 0 pm_U :: st) M else none := (fr_eq S (d) (67, 12, L, st) M).trans (x_old _ _ 2 0 67 13 L st M)
theorem f67_13 (S : pm_S) (d : Nat) (L : List Value) (q : Nat) (r : List Value) (M : pm_M) : fr S (d) (67, 13, L, .ref q :: r) M = match pm_get M q with
  | some (.inr (c, fs)) => if c = 1 ∧ 8 < fs.length then fr S d (67, 16, L, fs.getD 8 pm_U :: r) M else none
  | _ => none := (fr_eq S (d) (67, 13, L, .ref q :: r) M).trans (x_ogf _ _ 1 8 67 16 L r q M)
theorem f67_16 (S : pm_S) (d : Nat) (L : List Value) (st : List Value) (M : pm_M) : fr S (d) (67, 16, L, st) M = if pm_ty (L.getD 3 pm_U) = 1 then fr S d (67, 17, L, L.getD 3 pm_U :: st) M else none := (fr_eq S (d) (67, 16, L, st) M).trans (x_old _ _ 1 3 67 17 L st M)
theorem f67_17 (S : pm_S) (d : Nat) (L : List Value) (x y : Int64) (r : List Value) (M : pm_M) : fr S (d) (67, 17, L, .long y :: .long x :: r) M = fr S d (67, 18, L, .long (x ||| y) :: r) M := (fr_eq S (d) (67, 17, L, .long y :: .long x :: r) M).trans (x_oll _ _ (fun x y => .long (x ||| y)) 67 18 L r x y M)
theorem f67_18 (S : pm_S) (d : Nat) (L : List Value) (st : List Value) (M : pm_M) : fr S (d) (67, 18, L, st) M = fr S d (67, 31, L, st) M := (fr_eq S (d) (67, 18, L, st) M).trans (x_ogo _ _ 67 31 L st M)
theorem f67_21 (S : pm_S) (d : Nat) (L : List Value) (st : List Value) (M : pm_M) : fr S (d) (67, 21, L, st) M = if pm_ty (L.getD 0 pm_U) = 2 then fr S d (67, 22, L, L.getD 0 pm_U :: st) M else none := (fr_eq S (d) (67, 21, L, st) M).trans (x_old _ _ 2 0 67 22 L st M)
theorem f67_22 (S : pm_S) (d : Nat) (L : List Value) (q : Nat) (r : List Value) (M : pm_M) : fr S (d) (67, 22, L, .ref q :: r) M = match pm_get M q with
  | some (.inr (c, fs)) => if c = 1 ∧ 8 < fs.length then fr S d (67, 25, L, fs.getD 8 pm_U :: r) M else none
  | _ => none := (fr_eq S (d) (67, 22, L, .ref q :: r) M).trans (x_ogf _ _ 1 8 67 25 L r q M)
theorem f67_25 (S : pm_S) (d : Nat) (L : List Value) (st : List Value) (M : pm_M) : fr S (d) (67, 25, L, st) M = if pm_ty (L.getD 3 pm_U) = 1 then fr S d (67, 26, L, L.getD 3 pm_U :: st) M else none := (fr_eq S (d) (67, 25, L, st) M).trans (x_old _ _ 1 3 67 26 L st M)
theorem f67_26 (S : pm_S) (d : Nat) (L : List Value) (st : List Value) (M : pm_M) : fr S (d) (67, 26, L, st) M = fr S d (67, 29, L, .long (-1 : Int64) :: st) M := (fr_eq S (d) (67, 26, L, st) M).trans (x_ocs _ _ (.long (-1 : Int64)) 67 29 L st M)
theorem f67_29 (S : pm_S) (d : Nat) (L : List Value) (x y : Int64) (r : List Value) (M : pm_M) : fr S (d) (67, 29, L, .long y :: .long x :: r) M = fr S d (67, 30, L, .long (x ^^^ y) :: r) M := (fr_eq S (d) (67, 29, L, .long y :: .long x :: r) M).trans (x_oll _ _ (fun x y => .long (x ^^^ y)) 67 30 L r x y M)
theorem f67_30 (S : pm_S) (d : Nat) (L : List Value) (x y : Int64) (r : List Value) (M : pm_M) : fr S (d) (67, 30, L, .long y :: .long x :: r) M = fr S d (67, 31, L, .long (x &&& y) :: r) M := (fr_eq S (d) (67, 30, L, .long y :: .long x :: r) M).trans (x_oll _ _ (fun x y => .long (x &&& y)) 67 31 L r x y M)
theorem f67_31 (S : pm_S) (d : Nat) (L : List Value) (v : Value) (q : Nat) (r : List Value) (M : pm_M) : fr S (d) (67, 31, L, v :: .ref q :: r) M = match pm_get M q with
  | some (.inr (c, fs)) => if c = 1 ∧ 8 < fs.length ∧ pm_fit 1 v = true then fr S d (67, 34, L, r) (pm_set M q (.inr (c, fs.set 8 v))) else none
  | _ => none := (fr_eq S (d) (67, 31, L, v :: .ref q :: r) M).trans (x_opf _ _ 1 8 1 67 34 L r q v M)
theorem f67_34 (S : pm_S) (d : Nat) (L : List Value)  (M : pm_M) : fr S (d) (67, 34, L, []) M = some (.inl none, M) := (fr_eq S (d) (67, 34, L, []) M).trans (x_orv _ _ M)
theorem f68_0 (S : pm_S) (d : Nat) (L : List Value) (st : List Value) (M : pm_M) : fr S (d) (68, 0, L, st) M = if pm_ty (L.getD 0 pm_U) = 2 then fr S d (68, 1, L, L.getD 0 pm_U :: st) M else none := (fr_eq S (d) (68, 0, L, st) M).trans (x_old _ _ 2 0 68 1 L st M)
theorem f68_1 (S : pm_S) (d : Nat) (L : List Value) (q : Nat) (r : List Value) (M : pm_M) : fr S (d) (68, 1, L, .ref q :: r) M = match pm_get M q with
  | some (.inr (c, fs)) => if c = 1 ∧ 5 < fs.length then fr S d (68, 4, L, fs.getD 5 pm_U :: r) M else none
  | _ => none := (fr_eq S (d) (68, 1, L, .ref q :: r) M).trans (x_ogf _ _ 1 5 68 4 L r q M)
theorem f68_4 (S : pm_S) (d : Nat) (L : List Value) (st : List Value) (M : pm_M) : fr S (d) (68, 4, L, st) M = if pm_ty (L.getD 2 pm_U) = 0 then fr S d (68, 5, L, L.getD 2 pm_U :: st) M else none := (fr_eq S (d) (68, 4, L, st) M).trans (x_old _ _ 0 2 68 5 L st M)
theorem f68_5 (S : pm_S) (d : Nat) (L : List Value) (x y : Int32) (r : List Value) (M : pm_M) : fr S (d) (68, 5, L, .int y :: .int x :: r) M = if y < x then fr S d (68, 20, L, r) M else fr S d (68, 8, L, r) M := (fr_eq S (d) (68, 5, L, .int y :: .int x :: r) M).trans (x_oc2gt _ _ 68 8 20 L r x y M)
theorem f68_8 (S : pm_S) (d : Nat) (L : List Value) (st : List Value) (M : pm_M) : fr S (d) (68, 8, L, st) M = if pm_ty (L.getD 0 pm_U) = 2 then fr S d (68, 9, L, L.getD 0 pm_U :: st) M else none := (fr_eq S (d) (68, 8, L, st) M).trans (x_old _ _ 2 0 68 9 L st M)
theorem f68_9 (S : pm_S) (d : Nat) (L : List Value) (st : List Value) (M : pm_M) : fr S (d + 1) (68, 9, L, st) M = match pm_ag 1 [] st with
  | some (a, r) => if r.length ≤ 4 ∧ (1 = 0 ∨ pm_obj M 1 (a.headD pm_U) = true) then (match fr S d (62, 0, a ++ [], []) M with
    | none => none
    | some (.inl v, M') => fr S (d + 1) (68, 12, L, v.toList ++ r) M'
    | some (.inr E, M') => some (.inr E, M')) else none
  | none => none := (fr_eq S (d + 1) (68, 9, L, st) M).trans (x_ocl _ _ 1 62 1 1 [] 68 12 L st M)
theorem f68_12 (S : pm_S) (d : Nat) (L : List Value) (st : List Value) (M : pm_M) : fr S (d) (68, 12, L, st) M = if pm_ty (L.getD 1 pm_U) = 0 then fr S d (68, 13, L, L.getD 1 pm_U :: st) M else none := (fr_eq S (d) (68, 12, L, st) M).trans (x_old _ _ 0 1 68 13 L st M)
theorem f68_13 (S : pm_S) (d : Nat) (L : List Value) (x y : Int32) (r : List Value) (M : pm_M) : fr S (d) (68, 13, L, .int y :: .int x :: r) M = if x < y then fr S d (68, 20, L, r) M else fr S d (68, 16, L, r) M := (fr_eq S (d) (68, 13, L, .int y :: .int x :: r) M).trans (x_oc2lt _ _ 68 16 20 L r x y M)
theorem f68_16 (S : pm_S) (d : Nat) (L : List Value) (st : List Value) (M : pm_M) : fr S (d) (68, 16, L, st) M = fr S d (68, 17, L, .int 1 :: st) M := (fr_eq S (d) (68, 16, L, st) M).trans (x_ocs _ _ (.int 1) 68 17 L st M)
theorem f68_17 (S : pm_S) (d : Nat) (L : List Value) (st : List Value) (M : pm_M) : fr S (d) (68, 17, L, st) M = fr S d (68, 21, L, st) M := (fr_eq S (d) (68, 17, L, st) M).trans (x_ogo _ _ 68 21 L st M)
theorem f68_20 (S : pm_S) (d : Nat) (L : List Value) (st : List Value) (M : pm_M) : fr S (d) (68, 20, L, st) M = fr S d (68, 21, L, .int 0 :: st) M := (fr_eq S (d) (68, 20, L, st) M).trans (x_ocs _ _ (.int 0) 68 21 L st M)
theorem f68_21 (S : pm_S) (d : Nat) (L : List Value) (v : Value) (M : pm_M) : fr S (d) (68, 21, L, [v]) M = if pm_fit 3 v = true then some (.inl (some v), M) else none := (fr_eq S (d) (68, 21, L, [v]) M).trans (x_ort _ _ 3 v M)
theorem f69_0 (S : pm_S) (d : Nat) (L : List Value) (st : List Value) (M : pm_M) : fr S (d) (69, 0, L, st) M = if pm_ty (L.getD 0 pm_U) = 2 then fr S d (69, 1, L, L.getD 0 pm_U :: st) M else none := (fr_eq S (d) (69, 0, L, st) M).trans (x_old _ _ 2 0 69 1 L st M)
theorem f69_1 (S : pm_S) (d : Nat) (L : List Value) (st : List Value) (M : pm_M) : fr S (d + 1) (69, 1, L, st) M = match pm_ag 1 [] st with
  | some (a, r) => if r.length ≤ 4 ∧ (1 = 0 ∨ pm_obj M 1 (a.headD pm_U) = true) then (match fr S d (64, 0, a ++ [], []) M with
    | none => none
    | some (.inl v, M') => fr S (d + 1) (69, 4, L, v.toList ++ r) M'
    | some (.inr E, M') => some (.inr E, M')) else none
  | none => none := (fr_eq S (d + 1) (69, 1, L, st) M).trans (x_ocl _ _ 1 64 1 1 [] 69 4 L st M)
theorem f69_4 (S : pm_S) (d : Nat) (L : List Value) (x : Int32) (r : List Value) (M : pm_M) : fr S (d) (69, 4, L, .int x :: r) M = if x = 0 then fr S d (69, 66, L, r) M else fr S d (69, 7, L, r) M := (fr_eq S (d) (69, 4, L, .int x :: r) M).trans (x_oc1eq _ _ 69 7 66 L r x M)
theorem f69_7 (S : pm_S) (d : Nat) (L : List Value) (st : List Value) (M : pm_M) : fr S (d) (69, 7, L, st) M = if pm_ty (L.getD 1 pm_U) = 2 then fr S d (69, 8, L, L.getD 1 pm_U :: st) M else none := (fr_eq S (d) (69, 7, L, st) M).trans (x_old _ _ 2 1 69 8 L st M)
theorem f69_8 (S : pm_S) (d : Nat) (L : List Value) (st : List Value) (M : pm_M) : fr S (d + 1) (69, 8, L, st) M = match pm_ag 1 [] st with
  | some (a, r) => if r.length ≤ 4 ∧ (1 = 0 ∨ pm_obj M 1 (a.headD pm_U) = true) then (match fr S d (64, 0, a ++ [], []) M with
    | none => none
    | some (.inl v, M') => fr S (d + 1) (69, 11, L, v.toList ++ r) M'
    | some (.inr E, M') => some (.inr E, M')) else none
  | none => none := (fr_eq S (d + 1) (69, 8, L, st) M).trans (x_ocl _ _ 1 64 1 1 [] 69 11 L st M)
theorem f69_11 (S : pm_S) (d : Nat) (L : List Value) (x : Int32) (r : List Value) (M : pm_M) : fr S (d) (69, 11, L, .int x :: r) M = if x = 0 then fr S d (69, 66, L, r) M else fr S d (69, 14, L, r) M := (fr_eq S (d) (69, 11, L, .int x :: r) M).trans (x_oc1eq _ _ 69 14 66 L r x M)
theorem f69_14 (S : pm_S) (d : Nat) (L : List Value) (st : List Value) (M : pm_M) : fr S (d) (69, 14, L, st) M = if pm_ty (L.getD 0 pm_U) = 2 then fr S d (69, 15, L, L.getD 0 pm_U :: st) M else none := (fr_eq S (d) (69, 14, L, st) M).trans (x_old _ _ 2 0 69 15 L st M)
theorem f69_15 (S : pm_S) (d : Nat) (L : List Value) (q : Nat) (r : List Value) (M : pm_M) : fr S (d) (69, 15, L, .ref q :: r) M = match pm_get M q with
  | some (.inr (c, fs)) => if c = 1 ∧ 6 < fs.length then fr S d (69, 18, L, fs.getD 6 pm_U :: r) M else none
  | _ => none := (fr_eq S (d) (69, 15, L, .ref q :: r) M).trans (x_ogf _ _ 1 6 69 18 L r q M)
theorem f69_18 (S : pm_S) (d : Nat) (L : List Value) (st : List Value) (M : pm_M) : fr S (d) (69, 18, L, st) M = if pm_ty (L.getD 1 pm_U) = 2 then fr S d (69, 19, L, L.getD 1 pm_U :: st) M else none := (fr_eq S (d) (69, 18, L, st) M).trans (x_old _ _ 2 1 69 19 L st M)
theorem f69_19 (S : pm_S) (d : Nat) (L : List Value) (q : Nat) (r : List Value) (M : pm_M) : fr S (d) (69, 19, L, .ref q :: r) M = match pm_get M q with
  | some (.inr (c, fs)) => if c = 1 ∧ 6 < fs.length then fr S d (69, 22, L, fs.getD 6 pm_U :: r) M else none
  | _ => none := (fr_eq S (d) (69, 19, L, .ref q :: r) M).trans (x_ogf _ _ 1 6 69 22 L r q M)
theorem f69_22 (S : pm_S) (d : Nat) (L : List Value) (x y : Int32) (r : List Value) (M : pm_M) : fr S (d) (69, 22, L, .int y :: .int x :: r) M = if ¬ x = y then fr S d (69, 66, L, r) M else fr S d (69, 25, L, r) M := (fr_eq S (d) (69, 22, L, .int y :: .int x :: r) M).trans (x_oc2ne _ _ 69 25 66 L r x y M)
theorem f69_25 (S : pm_S) (d : Nat) (L : List Value) (st : List Value) (M : pm_M) : fr S (d) (69, 25, L, st) M = if pm_ty (L.getD 0 pm_U) = 2 then fr S d (69, 26, L, L.getD 0 pm_U :: st) M else none := (fr_eq S (d) (69, 25, L, st) M).trans (x_old _ _ 2 0 69 26 L st M)
theorem f69_26 (S : pm_S) (d : Nat) (L : List Value) (q : Nat) (r : List Value) (M : pm_M) : fr S (d) (69, 26, L, .ref q :: r) M = match pm_get M q with
  | some (.inr (c, fs)) => if c = 1 ∧ 7 < fs.length then fr S d (69, 29, L, fs.getD 7 pm_U :: r) M else none
  | _ => none := (fr_eq S (d) (69, 26, L, .ref q :: r) M).trans (x_ogf _ _ 1 7 69 29 L r q M)
theorem f69_29 (S : pm_S) (d : Nat) (L : List Value) (st : List Value) (M : pm_M) : fr S (d) (69, 29, L, st) M = if pm_ty (L.getD 1 pm_U) = 2 then fr S d (69, 30, L, L.getD 1 pm_U :: st) M else none := (fr_eq S (d) (69, 29, L, st) M).trans (x_old _ _ 2 1 69 30 L st M)
theorem f69_30 (S : pm_S) (d : Nat) (L : List Value) (q : Nat) (r : List Value) (M : pm_M) : fr S (d) (69, 30, L, .ref q :: r) M = match pm_get M q with
  | some (.inr (c, fs)) => if c = 1 ∧ 7 < fs.length then fr S d (69, 33, L, fs.getD 7 pm_U :: r) M else none
  | _ => none := (fr_eq S (d) (69, 30, L, .ref q :: r) M).trans (x_ogf _ _ 1 7 69 33 L r q M)
theorem f69_33 (S : pm_S) (d : Nat) (L : List Value) (x y : Int32) (r : List Value) (M : pm_M) : fr S (d) (69, 33, L, .int y :: .int x :: r) M = if x ≤ y then fr S d (69, 66, L, r) M else fr S d (69, 36, L, r) M := (fr_eq S (d) (69, 33, L, .int y :: .int x :: r) M).trans (x_oc2le _ _ 69 36 66 L r x y M)
theorem f69_36 (S : pm_S) (d : Nat) (L : List Value) (st : List Value) (M : pm_M) : fr S (d) (69, 36, L, st) M = if pm_ty (L.getD 0 pm_U) = 2 then fr S d (69, 37, L, L.getD 0 pm_U :: st) M else none := (fr_eq S (d) (69, 36, L, st) M).trans (x_old _ _ 2 0 69 37 L st M)
theorem f69_37 (S : pm_S) (d : Nat) (L : List Value) (st : List Value) (M : pm_M) : fr S (d) (69, 37, L, st) M = if pm_ty (L.getD 1 pm_U) = 2 then fr S d (69, 38, L, L.getD 1 pm_U :: st) M else none := (fr_eq S (d) (69, 37, L, st) M).trans (x_old _ _ 2 1 69 38 L st M)
theorem f69_38 (S : pm_S) (d : Nat) (L : List Value) (q : Nat) (r : List Value) (M : pm_M) : fr S (d) (69, 38, L, .ref q :: r) M = match pm_get M q with
  | some (.inr (c, fs)) => if c = 1 ∧ 5 < fs.length then fr S d (69, 41, L, fs.getD 5 pm_U :: r) M else none
  | _ => none := (fr_eq S (d) (69, 38, L, .ref q :: r) M).trans (x_ogf _ _ 1 5 69 41 L r q M)
theorem f69_41 (S : pm_S) (d : Nat) (L : List Value) (st : List Value) (M : pm_M) : fr S (d) (69, 41, L, st) M = if pm_ty (L.getD 1 pm_U) = 2 then fr S d (69, 42, L, L.getD 1 pm_U :: st) M else none := (fr_eq S (d) (69, 41, L, st) M).trans (x_old _ _ 2 1 69 42 L st M)
theorem f69_42 (S : pm_S) (d : Nat) (L : List Value) (st : List Value) (M : pm_M) : fr S (d + 1) (69, 42, L, st) M = match pm_ag 1 [] st with
  | some (a, r) => if r.length ≤ 4 ∧ (1 = 0 ∨ pm_obj M 1 (a.headD pm_U) = true) then (match fr S d (62, 0, a ++ [], []) M with
    | none => none
    | some (.inl v, M') => fr S (d + 1) (69, 45, L, v.toList ++ r) M'
    | some (.inr E, M') => some (.inr E, M')) else none
  | none => none := (fr_eq S (d + 1) (69, 42, L, st) M).trans (x_ocl _ _ 1 62 1 1 [] 69 45 L st M)
theorem f69_45 (S : pm_S) (d : Nat) (L : List Value) (st : List Value) (M : pm_M) : fr S (d + 1) (69, 45, L, st) M = match pm_ag 3 [] st with
  | some (a, r) => if r.length ≤ 4 ∧ (1 = 0 ∨ pm_obj M 1 (a.headD pm_U) = true) then (match fr S d (68, 0, a ++ [], []) M with
    | none => none
    | some (.inl v, M') => fr S (d + 1) (69, 48, L, v.toList ++ r) M'
    | some (.inr E, M') => some (.inr E, M')) else none
  | none => none := (fr_eq S (d + 1) (69, 45, L, st) M).trans (x_ocl _ _ 1 68 3 1 [] 69 48 L st M)
theorem f69_48 (S : pm_S) (d : Nat) (L : List Value) (x : Int32) (r : List Value) (M : pm_M) : fr S (d) (69, 48, L, .int x :: r) M = if x = 0 then fr S d (69, 66, L, r) M else fr S d (69, 51, L, r) M := (fr_eq S (d) (69, 48, L, .int x :: r) M).trans (x_oc1eq _ _ 69 51 66 L r x M)
theorem f69_51 (S : pm_S) (d : Nat) (L : List Value) (st : List Value) (M : pm_M) : fr S (d) (69, 51, L, st) M = if pm_ty (L.getD 0 pm_U) = 2 then fr S d (69, 52, L, L.getD 0 pm_U :: st) M else none := (fr_eq S (d) (69, 51, L, st) M).trans (x_old _ _ 2 0 69 52 L st M)
theorem f69_52 (S : pm_S) (d : Nat) (L : List Value) (q : Nat) (r : List Value) (M : pm_M) : fr S (d) (69, 52, L, .ref q :: r) M = match pm_get M q with
  | some (.inr (c, fs)) => if c = 1 ∧ 3 < fs.length then fr S d (69, 55, L, fs.getD 3 pm_U :: r) M else none
  | _ => none := (fr_eq S (d) (69, 52, L, .ref q :: r) M).trans (x_ogf _ _ 1 3 69 55 L r q M)
theorem f69_55 (S : pm_S) (d : Nat) (L : List Value) (st : List Value) (M : pm_M) : fr S (d) (69, 55, L, st) M = if pm_ty (L.getD 1 pm_U) = 2 then fr S d (69, 56, L, L.getD 1 pm_U :: st) M else none := (fr_eq S (d) (69, 55, L, st) M).trans (x_old _ _ 2 1 69 56 L st M)
theorem f69_56 (S : pm_S) (d : Nat) (L : List Value) (q : Nat) (r : List Value) (M : pm_M) : fr S (d) (69, 56, L, .ref q :: r) M = match pm_get M q with
  | some (.inr (c, fs)) => if c = 1 ∧ 3 < fs.length then fr S d (69, 59, L, fs.getD 3 pm_U :: r) M else none
  | _ => none := (fr_eq S (d) (69, 56, L, .ref q :: r) M).trans (x_ogf _ _ 1 3 69 59 L r q M)
theorem f69_59 (S : pm_S) (d : Nat) (L : List Value) (x y : Int32) (r : List Value) (M : pm_M) : fr S (d) (69, 59, L, .int y :: .int x :: r) M = if x ≤ y then fr S d (69, 66, L, r) M else fr S d (69, 62, L, r) M := (fr_eq S (d) (69, 59, L, .int y :: .int x :: r) M).trans (x_oc2le _ _ 69 62 66 L r x y M)
theorem f69_62 (S : pm_S) (d : Nat) (L : List Value) (st : List Value) (M : pm_M) : fr S (d) (69, 62, L, st) M = fr S d (69, 63, L, .int 1 :: st) M := (fr_eq S (d) (69, 62, L, st) M).trans (x_ocs _ _ (.int 1) 69 63 L st M)
theorem f69_63 (S : pm_S) (d : Nat) (L : List Value) (st : List Value) (M : pm_M) : fr S (d) (69, 63, L, st) M = fr S d (69, 67, L, st) M := (fr_eq S (d) (69, 63, L, st) M).trans (x_ogo _ _ 69 67 L st M)
theorem f69_66 (S : pm_S) (d : Nat) (L : List Value) (st : List Value) (M : pm_M) : fr S (d) (69, 66, L, st) M = fr S d (69, 67, L, .int 0 :: st) M := (fr_eq S (d) (69, 66, L, st) M).trans (x_ocs _ _ (.int 0) 69 67 L st M)
theorem f69_67 (S : pm_S) (d : Nat) (L : List Value) (v : Value) (M : pm_M) : fr S (d) (69, 67, L, [v]) M = if pm_fit 3 v = true then some (.inl (some v), M) else none := (fr_eq S (d) (69, 67, L, [v]) M).trans (x_ort _ _ 3 v M)
theorem f70_0 (S : pm_S) (d : Nat) (L : List Value) (st : List Value) (M : pm_M) : fr S (d) (70, 0, L, st) M = if pm_ty (L.getD 0 pm_U) = 2 then fr S d (70, 1, L, L.getD 0 pm_U :: st) M else none := (fr_eq S (d) (70, 0, L, st) M).trans (x_old _ _ 2 0 70 1 L st M)
theorem f70_1 (S : pm_S) (d : Nat) (L : List Value) (q : Nat) (r : List Value) (M : pm_M) : fr S (d) (70, 1, L, .ref q :: r) M = match pm_get M q with
  | some (.inr (c, fs)) => if c = 1 ∧ 6 < fs.length then fr S d (70, 4, L, fs.getD 6 pm_U :: r) M else none
  | _ => none := (fr_eq S (d) (70, 1, L, .ref q :: r) M).trans (x_ogf _ _ 1 6 70 4 L r q M)
theorem f70_4 (S : pm_S) (d : Nat) (L : List Value) (st : List Value) (M : pm_M) : fr S (d) (70, 4, L, st) M = if pm_ty (L.getD 1 pm_U) = 2 then fr S d (70, 5, L, L.getD 1 pm_U :: st) M else none := (fr_eq S (d) (70, 4, L, st) M).trans (x_old _ _ 2 1 70 5 L st M)
theorem f70_5 (S : pm_S) (d : Nat) (L : List Value) (q : Nat) (r : List Value) (M : pm_M) : fr S (d) (70, 5, L, .ref q :: r) M = match pm_get M q with
  | some (.inr (c, fs)) => if c = 1 ∧ 6 < fs.length then fr S d (70, 8, L, fs.getD 6 pm_U :: r) M else none
  | _ => none := (fr_eq S (d) (70, 5, L, .ref q :: r) M).trans (x_ogf _ _ 1 6 70 8 L r q M)
theorem f70_8 (S : pm_S) (d : Nat) (L : List Value) (x y : Int32) (r : List Value) (M : pm_M) : fr S (d) (70, 8, L, .int y :: .int x :: r) M = fr S d (70, 9, L, .int (x - y) :: r) M := (fr_eq S (d) (70, 8, L, .int y :: .int x :: r) M).trans (x_oii _ _ (fun x y => x - y) 70 9 L r x y M)
theorem f70_9 (S : pm_S) (d : Nat) (L : List Value) (x : Int32) (r : List Value) (M : pm_M) : fr S (d) (70, 9, L, .int x :: r) M = if (Value.int x :: r).length ≤ 8 then fr S d (70, 12, L, .int (if 0 ≤ x then x else 0 - x) :: r) M else none := (fr_eq S (d) (70, 9, L, .int x :: r) M).trans (x_oab _ _ (fun x => .int (if 0 ≤ x then x else 0 - x)) 70 12 L r x M)
theorem f70_12 (S : pm_S) (d : Nat) (L : List Value) (st : List Value) (M : pm_M) : fr S (d) (70, 12, L, st) M = if pm_ty (L.getD 0 pm_U) = 2 then fr S d (70, 13, L, L.getD 0 pm_U :: st) M else none := (fr_eq S (d) (70, 12, L, st) M).trans (x_old _ _ 2 0 70 13 L st M)
theorem f70_13 (S : pm_S) (d : Nat) (L : List Value) (q : Nat) (r : List Value) (M : pm_M) : fr S (d) (70, 13, L, .ref q :: r) M = match pm_get M q with
  | some (.inr (c, fs)) => if c = 1 ∧ 7 < fs.length then fr S d (70, 16, L, fs.getD 7 pm_U :: r) M else none
  | _ => none := (fr_eq S (d) (70, 13, L, .ref q :: r) M).trans (x_ogf _ _ 1 7 70 16 L r q M)
theorem f70_16 (S : pm_S) (d : Nat) (L : List Value) (st : List Value) (M : pm_M) : fr S (d) (70, 16, L, st) M = if pm_ty (L.getD 1 pm_U) = 2 then fr S d (70, 17, L, L.getD 1 pm_U :: st) M else none := (fr_eq S (d) (70, 16, L, st) M).trans (x_old _ _ 2 1 70 17 L st M)
theorem f70_17 (S : pm_S) (d : Nat) (L : List Value) (q : Nat) (r : List Value) (M : pm_M) : fr S (d) (70, 17, L, .ref q :: r) M = match pm_get M q with
  | some (.inr (c, fs)) => if c = 1 ∧ 7 < fs.length then fr S d (70, 20, L, fs.getD 7 pm_U :: r) M else none
  | _ => none := (fr_eq S (d) (70, 17, L, .ref q :: r) M).trans (x_ogf _ _ 1 7 70 20 L r q M)
theorem f70_20 (S : pm_S) (d : Nat) (L : List Value) (x y : Int32) (r : List Value) (M : pm_M) : fr S (d) (70, 20, L, .int y :: .int x :: r) M = fr S d (70, 21, L, .int (x - y) :: r) M := (fr_eq S (d) (70, 20, L, .int y :: .int x :: r) M).trans (x_oii _ _ (fun x y => x - y) 70 21 L r x y M)
theorem f70_21 (S : pm_S) (d : Nat) (L : List Value) (x : Int32) (r : List Value) (M : pm_M) : fr S (d) (70, 21, L, .int x :: r) M = if (Value.int x :: r).length ≤ 8 then fr S d (70, 24, L, .int (if 0 ≤ x then x else 0 - x) :: r) M else none := (fr_eq S (d) (70, 21, L, .int x :: r) M).trans (x_oab _ _ (fun x => .int (if 0 ≤ x then x else 0 - x)) 70 24 L r x M)
theorem f70_24 (S : pm_S) (d : Nat) (L : List Value) (x y : Int32) (r : List Value) (M : pm_M) : fr S (d) (70, 24, L, .int y :: .int x :: r) M = fr S d (70, 25, L, .int (x + y) :: r) M := (fr_eq S (d) (70, 24, L, .int y :: .int x :: r) M).trans (x_oii _ _ (fun x y => x + y) 70 25 L r x y M)
theorem f70_25 (S : pm_S) (d : Nat) (L : List Value) (v : Value) (r : List Value) (M : pm_M) : fr S (d) (70, 25, L, v :: r) M = if pm_ty v = 0 ∧ 2 < L.length ∧ ¬ pm_ty (L.getD (2 - 1) pm_U) = 1 then fr S d (70, 26, L.set 2 v, r) M else none := (fr_eq S (d) (70, 25, L, v :: r) M).trans (x_ost _ _ 0 2 70 26 L r v M)
theorem f70_26 (S : pm_S) (d : Nat) (L : List Value) (st : List Value) (M : pm_M) : fr S (d) (70, 26, L, st) M = if pm_ty (L.getD 0 pm_U) = 2 then fr S d (70, 27, L, L.getD 0 pm_U :: st) M else none := (fr_eq S (d) (70, 26, L, st) M).trans (x_old _ _ 2 0 70 27 L st M)
theorem f70_27 (S : pm_S) (d : Nat) (L : List Value) (q : Nat) (r : List Value) (M : pm_M) : fr S (d) (70, 27, L, .ref q :: r) M = match pm_get M q with
  | some (.inr (c, fs)) => if c = 1 ∧ 5 < fs.length then fr S d (70, 30, L, fs.getD 5 pm_U :: r) M else none
  | _ => none := (fr_eq S (d) (70, 27, L, .ref q :: r) M).trans (x_ogf _ _ 1 5 70 30 L r q M)
theorem f70_30 (S : pm_S) (d : Nat) (L : List Value) (v : Value) (r : List Value) (M : pm_M) : fr S (d) (70, 30, L, v :: r) M = if pm_ty v = 0 ∧ 3 < L.length ∧ ¬ pm_ty (L.getD (3 - 1) pm_U) = 1 then fr S d (70, 31, L.set 3 v, r) M else none := (fr_eq S (d) (70, 30, L, v :: r) M).trans (x_ost _ _ 0 3 70 31 L r v M)
theorem f70_31 (S : pm_S) (d : Nat) (L : List Value) (st : List Value) (M : pm_M) : fr S (d) (70, 31, L, st) M = if pm_ty (L.getD 3 pm_U) = 0 then fr S d (70, 32, L, L.getD 3 pm_U :: st) M else none := (fr_eq S (d) (70, 31, L, st) M).trans (x_old _ _ 0 3 70 32 L st M)
theorem f70_32 (S : pm_S) (d : Nat) (L : List Value) (st : List Value) (M : pm_M) : fr S (d) (70, 32, L, st) M = if pm_ty (L.getD 0 pm_U) = 2 then fr S d (70, 33, L, L.getD 0 pm_U :: st) M else none := (fr_eq S (d) (70, 32, L, st) M).trans (x_old _ _ 2 0 70 33 L st M)
theorem f70_33 (S : pm_S) (d : Nat) (L : List Value) (st : List Value) (M : pm_M) : fr S (d + 1) (70, 33, L, st) M = match pm_ag 1 [] st with
  | some (a, r) => if r.length ≤ 4 ∧ (1 = 0 ∨ pm_obj M 1 (a.headD pm_U) = true) then (match fr S d (62, 0, a ++ [], []) M with
    | none => none
    | some (.inl v, M') => fr S (d + 1) (70, 36, L, v.toList ++ r) M'
    | some (.inr E, M') => some (.inr E, M')) else none
  | none => none := (fr_eq S (d + 1) (70, 33, L, st) M).trans (x_ocl _ _ 1 62 1 1 [] 70 36 L st M)
theorem f70_36 (S : pm_S) (d : Nat) (L : List Value) (x y : Int32) (r : List Value) (M : pm_M) : fr S (d) (70, 36, L, .int y :: .int x :: r) M = if y < x then fr S d (70, 81, L, r) M else fr S d (70, 39, L, r) M := (fr_eq S (d) (70, 36, L, .int y :: .int x :: r) M).trans (x_oc2gt _ _ 70 39 81 L r x y M)
theorem f70_39 (S : pm_S) (d : Nat) (L : List Value) (st : List Value) (M : pm_M) : fr S (d) (70, 39, L, st) M = if pm_ty (L.getD 1 pm_U) = 2 then fr S d (70, 40, L, L.getD 1 pm_U :: st) M else none := (fr_eq S (d) (70, 39, L, st) M).trans (x_old _ _ 2 1 70 40 L st M)
theorem f70_40 (S : pm_S) (d : Nat) (L : List Value) (q : Nat) (r : List Value) (M : pm_M) : fr S (d) (70, 40, L, .ref q :: r) M = match pm_get M q with
  | some (.inr (c, fs)) => if c = 1 ∧ 5 < fs.length then fr S d (70, 43, L, fs.getD 5 pm_U :: r) M else none
  | _ => none := (fr_eq S (d) (70, 40, L, .ref q :: r) M).trans (x_ogf _ _ 1 5 70 43 L r q M)
theorem f70_43 (S : pm_S) (d : Nat) (L : List Value) (v : Value) (r : List Value) (M : pm_M) : fr S (d) (70, 43, L, v :: r) M = if pm_ty v = 0 ∧ 4 < L.length ∧ ¬ pm_ty (L.getD (4 - 1) pm_U) = 1 then fr S d (70, 45, L.set 4 v, r) M else none := (fr_eq S (d) (70, 43, L, v :: r) M).trans (x_ost _ _ 0 4 70 45 L r v M)
theorem f70_45 (S : pm_S) (d : Nat) (L : List Value) (st : List Value) (M : pm_M) : fr S (d) (70, 45, L, st) M = if pm_ty (L.getD 4 pm_U) = 0 then fr S d (70, 47, L, L.getD 4 pm_U :: st) M else none := (fr_eq S (d) (70, 45, L, st) M).trans (x_old _ _ 0 4 70 47 L st M)
theorem f70_47 (S : pm_S) (d : Nat) (L : List Value) (st : List Value) (M : pm_M) : fr S (d) (70, 47, L, st) M = if pm_ty (L.getD 1 pm_U) = 2 then fr S d (70, 48, L, L.getD 1 pm_U :: st) M else none := (fr_eq S (d) (70, 47, L, st) M).trans (x_old _ _ 2 1 70 48 L st M)
theorem f70_48 (S : pm_S) (d : Nat) (L : List Value) (st : List Value) (M : pm_M) : fr S (d + 1) (70, 48, L, st) M = match pm_ag 1 [] st with
  | some (a, r) => if r.length ≤ 4 ∧ (1 = 0 ∨ pm_obj M 1 (a.headD pm_U) = true) then (match fr S d (62, 0, a ++ [], []) M with
    | none => none
    | some (.inl v, M') => fr S (d + 1) (70, 51, L, v.toList ++ r) M'
    | some (.inr E, M') => some (.inr E, M')) else none
  | none => none := (fr_eq S (d + 1) (70, 48, L, st) M).trans (x_ocl _ _ 1 62 1 1 [] 70 51 L st M)
theorem f70_51 (S : pm_S) (d : Nat) (L : List Value) (x y : Int32) (r : List Value) (M : pm_M) : fr S (d) (70, 51, L, .int y :: .int x :: r) M = if y < x then fr S d (70, 75, L, r) M else fr S d (70, 54, L, r) M := (fr_eq S (d) (70, 51, L, .int y :: .int x :: r) M).trans (x_oc2gt _ _ 70 54 75 L r x y M)
theorem f70_54 (S : pm_S) (d : Nat) (L : List Value) (st : List Value) (M : pm_M) : fr S (d) (70, 54, L, st) M = if pm_ty (L.getD 2 pm_U) = 0 then fr S d (70, 55, L, L.getD 2 pm_U :: st) M else none := (fr_eq S (d) (70, 54, L, st) M).trans (x_old _ _ 0 2 70 55 L st M)
theorem f70_55 (S : pm_S) (d : Nat) (L : List Value) (st : List Value) (M : pm_M) : fr S (d) (70, 55, L, st) M = if pm_ty (L.getD 3 pm_U) = 0 then fr S d (70, 56, L, L.getD 3 pm_U :: st) M else none := (fr_eq S (d) (70, 55, L, st) M).trans (x_old _ _ 0 3 70 56 L st M)
theorem f70_56 (S : pm_S) (d : Nat) (L : List Value) (st : List Value) (M : pm_M) : fr S (d) (70, 56, L, st) M = if pm_ty (L.getD 4 pm_U) = 0 then fr S d (70, 58, L, L.getD 4 pm_U :: st) M else none := (fr_eq S (d) (70, 56, L, st) M).trans (x_old _ _ 0 4 70 58 L st M)
theorem f70_58 (S : pm_S) (d : Nat) (L : List Value) (x y : Int32) (r : List Value) (M : pm_M) : fr S (d) (70, 58, L, .int y :: .int x :: r) M = fr S d (70, 59, L, .int (x - y) :: r) M := (fr_eq S (d) (70, 58, L, .int y :: .int x :: r) M).trans (x_oii _ _ (fun x y => x - y) 70 59 L r x y M)
theorem f70_59 (S : pm_S) (d : Nat) (L : List Value) (x : Int32) (r : List Value) (M : pm_M) : fr S (d) (70, 59, L, .int x :: r) M = if (Value.int x :: r).length ≤ 8 then fr S d (70, 62, L, .int (if 0 ≤ x then x else 0 - x) :: r) M else none := (fr_eq S (d) (70, 59, L, .int x :: r) M).trans (x_oab _ _ (fun x => .int (if 0 ≤ x then x else 0 - x)) 70 62 L r x M)
theorem f70_62 (S : pm_S) (d : Nat) (L : List Value) (x y : Int32) (r : List Value) (M : pm_M) : fr S (d) (70, 62, L, .int y :: .int x :: r) M = fr S d (70, 63, L, .int (x + y) :: r) M := (fr_eq S (d) (70, 62, L, .int y :: .int x :: r) M).trans (x_oii _ _ (fun x y => x + y) 70 63 L r x y M)
theorem f70_63 (S : pm_S) (d : Nat) (L : List Value) (st : List Value) (M : pm_M) : fr S (d) (70, 63, L, st) M = fr S d (70, 64, L, .int 1 :: st) M := (fr_eq S (d) (70, 63, L, st) M).trans (x_ocs _ _ (.int 1) 70 64 L st M)
theorem f70_64 (S : pm_S) (d : Nat) (L : List Value) (x y : Int32) (r : List Value) (M : pm_M) : fr S (d) (70, 64, L, .int y :: .int x :: r) M = if ¬ x = y then fr S d (70, 69, L, r) M else fr S d (70, 67, L, r) M := (fr_eq S (d) (70, 64, L, .int y :: .int x :: r) M).trans (x_oc2ne _ _ 70 67 69 L r x y M)
theorem f70_67 (S : pm_S) (d : Nat) (L : List Value) (st : List Value) (M : pm_M) : fr S (d) (70, 67, L, st) M = fr S d (70, 68, L, .int 1 :: st) M := (fr_eq S (d) (70, 67, L, st) M).trans (x_ocs _ _ (.int 1) 70 68 L st M)
theorem f70_68 (S : pm_S) (d : Nat) (L : List Value) (v : Value) (M : pm_M) : fr S (d) (70, 68, L, [v]) M = if pm_fit 3 v = true then some (.inl (some v), M) else none := (fr_eq S (d) (70, 68, L, [v]) M).trans (x_ort _ _ 3 v M)
theorem f70_69 (S : pm_S) (d : Nat) (L : List Value) (st : List Value) (M : pm_M) : fr S (d) (70, 69, L, st) M = match L.getD 4 pm_U with
  | .int x => if 4 < L.length ∧ ¬ pm_ty (L.getD (4 - 1) pm_U) = 1 then fr S d (70, 72, L.set 4 (.int (x + 1)), st) M else none
  | _ => none := (fr_eq S (d) (70, 69, L, st) M).trans (x_oinc _ _ 4 1 70 72 L st M)
theorem f70_72 (S : pm_S) (d : Nat) (L : List Value) (st : List Value) (M : pm_M) : fr S (d) (70, 72, L, st) M = fr S d (70, 45, L, st) M := (fr_eq S (d) (70, 72, L, st) M).trans (x_ogo _ _ 70 45 L st M)
theorem f70_75 (S : pm_S) (d : Nat) (L : List Value) (st : List Value) (M : pm_M) : fr S (d) (70, 75, L, st) M = match L.getD 3 pm_U with
  | .int x => if 3 < L.length ∧ ¬ pm_ty (L.getD (3 - 1) pm_U) = 1 then fr S d (70, 78, L.set 3 (.int (x + 1)), st) M else none
  | _ => none := (fr_eq S (d) (70, 75, L, st) M).trans (x_oinc _ _ 3 1 70 78 L st M)
theorem f70_78 (S : pm_S) (d : Nat) (L : List Value) (st : List Value) (M : pm_M) : fr S (d) (70, 78, L, st) M = fr S d (70, 31, L, st) M := (fr_eq S (d) (70, 78, L, st) M).trans (x_ogo _ _ 70 31 L st M)
theorem f70_81 (S : pm_S) (d : Nat) (L : List Value) (st : List Value) (M : pm_M) : fr S (d) (70, 81, L, st) M = fr S d (70, 82, L, .int 0 :: st) M := (fr_eq S (d) (70, 81, L, st) M).trans (x_ocs _ _ (.int 0) 70 82 L st M)
theorem f70_82 (S : pm_S) (d : Nat) (L : List Value) (v : Value) (M : pm_M) : fr S (d) (70, 82, L, [v]) M = if pm_fit 3 v = true then some (.inl (some v), M) else none := (fr_eq S (d) (70, 82, L, [v]) M).trans (x_ort _ _ 3 v M)
