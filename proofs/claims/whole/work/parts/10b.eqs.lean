theorem f29_36 (S : pm_S) (d : Nat) (L : List Value) (st : List Value) (M : pm_M) : fr S (d) (29, 36, L, st) M = fr S d (29, 37, L, .int (-1) :: st) M := (fr_eq S (d) (29, 36, L, st) M).trans (x_ocs _ _ (.int (-1)) 29 37 L st M)
theorem f29_37 (S : pm_S) (d : Nat) (L : List Value) (v : Value) (M : pm_M) : fr S (d) (29, 37, L, [v]) M = if pm_fit 0 v = true then some (.inl (some v), M) else none := (fr_eq S (d) (29, 37, L, [v]) M).trans (x_ort _ _ 0 v M)
theorem f29_38 (S : pm_S) (d : Nat) (L : List Value) (st : List Value) (M : pm_M) : fr S (d) (29, 38, L, st) M = if pm_ty (L.getD 1 pm_U) = 0 then fr S d (29, 39, L, L.getD 1 pm_U :: st) M else none := (fr_eq S (d) (29, 38, L, st) M).trans (x_old _ _ 0 1 29 39 L st M)
theorem f29_39 (S : pm_S) (d : Nat) (L : List Value) (st : List Value) (M : pm_M) : fr S (d) (29, 39, L, st) M = if pm_ty (L.getD 0 pm_U) = 2 then fr S d (29, 40, L, L.getD 0 pm_U :: st) M else none := (fr_eq S (d) (29, 39, L, st) M).trans (x_old _ _ 2 0 29 40 L st M)
theorem f29_40 (S : pm_S) (d : Nat) (L : List Value) (q : Nat) (r : List Value) (M : pm_M) : fr S (d) (29, 40, L, .ref q :: r) M = match pm_get M q with
  | some (.inr (c, fs)) => if c = 0 ∧ 1 < fs.length then fr S d (29, 43, L, fs.getD 1 pm_U :: r) M else none
  | _ => none := (fr_eq S (d) (29, 40, L, .ref q :: r) M).trans (x_ogf _ _ 0 1 29 43 L r q M)
theorem f29_43 (S : pm_S) (d : Nat) (L : List Value) (x y : Int32) (r : List Value) (M : pm_M) : fr S (d) (29, 43, L, .int y :: .int x :: r) M = fr S d (29, 44, L, .int (x * y) :: r) M := (fr_eq S (d) (29, 43, L, .int y :: .int x :: r) M).trans (x_oii _ _ (fun x y => x * y) 29 44 L r x y M)
theorem f29_44 (S : pm_S) (d : Nat) (L : List Value) (st : List Value) (M : pm_M) : fr S (d) (29, 44, L, st) M = if pm_ty (L.getD 2 pm_U) = 0 then fr S d (29, 45, L, L.getD 2 pm_U :: st) M else none := (fr_eq S (d) (29, 44, L, st) M).trans (x_old _ _ 0 2 29 45 L st M)
theorem f29_45 (S : pm_S) (d : Nat) (L : List Value) (x y : Int32) (r : List Value) (M : pm_M) : fr S (d) (29, 45, L, .int y :: .int x :: r) M = fr S d (29, 46, L, .int (x + y) :: r) M := (fr_eq S (d) (29, 45, L, .int y :: .int x :: r) M).trans (x_oii _ _ (fun x y => x + y) 29 46 L r x y M)
theorem f29_46 (S : pm_S) (d : Nat) (L : List Value) (st : List Value) (M : pm_M) : fr S (d) (29, 46, L, st) M = if pm_ty (L.getD 0 pm_U) = 2 then fr S d (29, 47, L, L.getD 0 pm_U :: st) M else none := (fr_eq S (d) (29, 46, L, st) M).trans (x_old _ _ 2 0 29 47 L st M)
theorem f29_47 (S : pm_S) (d : Nat) (L : List Value) (q : Nat) (r : List Value) (M : pm_M) : fr S (d) (29, 47, L, .ref q :: r) M = match pm_get M q with
  | some (.inr (c, fs)) => if c = 0 ∧ 2 < fs.length then fr S d (29, 50, L, fs.getD 2 pm_U :: r) M else none
  | _ => none := (fr_eq S (d) (29, 47, L, .ref q :: r) M).trans (x_ogf _ _ 0 2 29 50 L r q M)
theorem f29_50 (S : pm_S) (d : Nat) (L : List Value) (x y : Int32) (r : List Value) (M : pm_M) : fr S (d) (29, 50, L, .int y :: .int x :: r) M = fr S d (29, 51, L, .int (x * y) :: r) M := (fr_eq S (d) (29, 50, L, .int y :: .int x :: r) M).trans (x_oii _ _ (fun x y => x * y) 29 51 L r x y M)
theorem f29_51 (S : pm_S) (d : Nat) (L : List Value) (st : List Value) (M : pm_M) : fr S (d) (29, 51, L, st) M = if pm_ty (L.getD 3 pm_U) = 0 then fr S d (29, 52, L, L.getD 3 pm_U :: st) M else none := (fr_eq S (d) (29, 51, L, st) M).trans (x_old _ _ 0 3 29 52 L st M)
theorem f29_52 (S : pm_S) (d : Nat) (L : List Value) (x y : Int32) (r : List Value) (M : pm_M) : fr S (d) (29, 52, L, .int y :: .int x :: r) M = fr S d (29, 53, L, .int (x + y) :: r) M := (fr_eq S (d) (29, 52, L, .int y :: .int x :: r) M).trans (x_oii _ _ (fun x y => x + y) 29 53 L r x y M)
theorem f29_53 (S : pm_S) (d : Nat) (L : List Value) (v : Value) (M : pm_M) : fr S (d) (29, 53, L, [v]) M = if pm_fit 0 v = true then some (.inl (some v), M) else none := (fr_eq S (d) (29, 53, L, [v]) M).trans (x_ort _ _ 0 v M)
theorem f30_0 (S : pm_S) (d : Nat) (L : List Value) (st : List Value) (M : pm_M) : fr S (d) (30, 0, L, st) M = if pm_ty (L.getD 1 pm_U) = 0 then fr S d (30, 1, L, L.getD 1 pm_U :: st) M else none := (fr_eq S (d) (30, 0, L, st) M).trans (x_old _ _ 0 1 30 1 L st M)
theorem f30_1 (S : pm_S) (d : Nat) (L : List Value) (x : Int32) (r : List Value) (M : pm_M) : fr S (d) (30, 1, L, .int x :: r) M = if x < 0 then fr S d (30, 21, L, r) M else fr S d (30, 4, L, r) M := (fr_eq S (d) (30, 1, L, .int x :: r) M).trans (x_oc1lt _ _ 30 4 21 L r x M)
theorem f30_4 (S : pm_S) (d : Nat) (L : List Value) (st : List Value) (M : pm_M) : fr S (d) (30, 4, L, st) M = if pm_ty (L.getD 1 pm_U) = 0 then fr S d (30, 5, L, L.getD 1 pm_U :: st) M else none := (fr_eq S (d) (30, 4, L, st) M).trans (x_old _ _ 0 1 30 5 L st M)
theorem f30_5 (S : pm_S) (d : Nat) (L : List Value) (st : List Value) (M : pm_M) : fr S (d) (30, 5, L, st) M = if pm_ty (L.getD 0 pm_U) = 2 then fr S d (30, 6, L, L.getD 0 pm_U :: st) M else none := (fr_eq S (d) (30, 5, L, st) M).trans (x_old _ _ 2 0 30 6 L st M)
theorem f30_6 (S : pm_S) (d : Nat) (L : List Value) (q : Nat) (r : List Value) (M : pm_M) : fr S (d) (30, 6, L, .ref q :: r) M = match pm_get M q with
  | some (.inr (c, fs)) => if c = 0 ∧ 4 < fs.length then fr S d (30, 9, L, fs.getD 4 pm_U :: r) M else none
  | _ => none := (fr_eq S (d) (30, 6, L, .ref q :: r) M).trans (x_ogf _ _ 0 4 30 9 L r q M)
theorem f30_9 (S : pm_S) (d : Nat) (L : List Value) (x y : Int32) (r : List Value) (M : pm_M) : fr S (d) (30, 9, L, .int y :: .int x :: r) M = if y ≤ x then fr S d (30, 21, L, r) M else fr S d (30, 12, L, r) M := (fr_eq S (d) (30, 9, L, .int y :: .int x :: r) M).trans (x_oc2ge _ _ 30 12 21 L r x y M)
theorem f30_12 (S : pm_S) (d : Nat) (L : List Value) (st : List Value) (M : pm_M) : fr S (d) (30, 12, L, st) M = if pm_ty (L.getD 0 pm_U) = 2 then fr S d (30, 13, L, L.getD 0 pm_U :: st) M else none := (fr_eq S (d) (30, 12, L, st) M).trans (x_old _ _ 2 0 30 13 L st M)
theorem f30_13 (S : pm_S) (d : Nat) (L : List Value) (q : Nat) (r : List Value) (M : pm_M) : fr S (d) (30, 13, L, .ref q :: r) M = match pm_get M q with
  | some (.inr (c, fs)) => if c = 0 ∧ 3 < fs.length then fr S d (30, 16, L, fs.getD 3 pm_U :: r) M else none
  | _ => none := (fr_eq S (d) (30, 13, L, .ref q :: r) M).trans (x_ogf _ _ 0 3 30 16 L r q M)
theorem f30_16 (S : pm_S) (d : Nat) (L : List Value) (st : List Value) (M : pm_M) : fr S (d) (30, 16, L, st) M = if pm_ty (L.getD 1 pm_U) = 0 then fr S d (30, 17, L, L.getD 1 pm_U :: st) M else none := (fr_eq S (d) (30, 16, L, st) M).trans (x_old _ _ 0 1 30 17 L st M)
theorem f30_17 (S : pm_S) (d : Nat) (L : List Value) (i : Int32) (q : Nat) (hq : ¬ q = 1) (r : List Value) (M : pm_M) : fr S (d) (30, 17, L, .int i :: .ref q :: r) M = match (pm_get M q).bind (fun c => pm_el 3 c i) with
  | some v => fr S d (30, 18, L, v :: r) M
  | none => none := (fr_eq S (d) (30, 17, L, .int i :: .ref q :: r) M).trans (x_oal _ _ S 3 30 18 L r i q hq M)
theorem f30_18 (S : pm_S) (d : Nat) (L : List Value) (st : List Value) (M : pm_M) : fr S (d) (30, 18, L, st) M = fr S d (30, 22, L, st) M := (fr_eq S (d) (30, 18, L, st) M).trans (x_ogo _ _ 30 22 L st M)
theorem f30_21 (S : pm_S) (d : Nat) (L : List Value) (st : List Value) (M : pm_M) : fr S (d) (30, 21, L, st) M = fr S d (30, 22, L, .null :: st) M := (fr_eq S (d) (30, 21, L, st) M).trans (x_ocs _ _ .null 30 22 L st M)
theorem f30_22 (S : pm_S) (d : Nat) (L : List Value) (v : Value) (M : pm_M) : fr S (d) (30, 22, L, [v]) M = if pm_fit 2 v = true then some (.inl (some v), M) else none := (fr_eq S (d) (30, 22, L, [v]) M).trans (x_ort _ _ 2 v M)
theorem f31_0 (S : pm_S) (d : Nat) (L : List Value) (st : List Value) (M : pm_M) : fr S (d) (31, 0, L, st) M = if pm_ty (L.getD 0 pm_U) = 2 then fr S d (31, 1, L, L.getD 0 pm_U :: st) M else none := (fr_eq S (d) (31, 0, L, st) M).trans (x_old _ _ 2 0 31 1 L st M)
theorem f31_1 (S : pm_S) (d : Nat) (L : List Value) (st : List Value) (M : pm_M) : fr S (d) (31, 1, L, st) M = if pm_ty (L.getD 1 pm_U) = 0 then fr S d (31, 2, L, L.getD 1 pm_U :: st) M else none := (fr_eq S (d) (31, 1, L, st) M).trans (x_old _ _ 0 1 31 2 L st M)
theorem f31_2 (S : pm_S) (d : Nat) (L : List Value) (st : List Value) (M : pm_M) : fr S (d) (31, 2, L, st) M = if pm_ty (L.getD 2 pm_U) = 0 then fr S d (31, 3, L, L.getD 2 pm_U :: st) M else none := (fr_eq S (d) (31, 2, L, st) M).trans (x_old _ _ 0 2 31 3 L st M)
theorem f31_3 (S : pm_S) (d : Nat) (L : List Value) (st : List Value) (M : pm_M) : fr S (d) (31, 3, L, st) M = if pm_ty (L.getD 3 pm_U) = 0 then fr S d (31, 4, L, L.getD 3 pm_U :: st) M else none := (fr_eq S (d) (31, 3, L, st) M).trans (x_old _ _ 0 3 31 4 L st M)
theorem f31_4 (S : pm_S) (d : Nat) (L : List Value) (st : List Value) (M : pm_M) : fr S (d + 1) (31, 4, L, st) M = match pm_ag 4 [] st with
  | some (a, r) => if r.length ≤ 4 ∧ (1 = 0 ∨ pm_obj M 0 (a.headD pm_U) = true) then (match fr S d (29, 0, a ++ [], []) M with
    | none => none
    | some (.inl v, M') => fr S (d + 1) (31, 7, L, v.toList ++ r) M'
    | some (.inr E, M') => some (.inr E, M')) else none
  | none => none := (fr_eq S (d + 1) (31, 4, L, st) M).trans (x_ocl _ _ 1 29 4 0 [] 31 7 L st M)
theorem f31_7 (S : pm_S) (d : Nat) (L : List Value) (v : Value) (r : List Value) (M : pm_M) : fr S (d) (31, 7, L, v :: r) M = if pm_ty v = 0 ∧ 4 < L.length ∧ ¬ pm_ty (L.getD (4 - 1) pm_U) = 1 then fr S d (31, 9, L.set 4 v, r) M else none := (fr_eq S (d) (31, 7, L, v :: r) M).trans (x_ost _ _ 0 4 31 9 L r v M)
theorem f31_9 (S : pm_S) (d : Nat) (L : List Value) (st : List Value) (M : pm_M) : fr S (d) (31, 9, L, st) M = if pm_ty (L.getD 4 pm_U) = 0 then fr S d (31, 11, L, L.getD 4 pm_U :: st) M else none := (fr_eq S (d) (31, 9, L, st) M).trans (x_old _ _ 0 4 31 11 L st M)
theorem f31_11 (S : pm_S) (d : Nat) (L : List Value) (st : List Value) (M : pm_M) : fr S (d) (31, 11, L, st) M = fr S d (31, 12, L, .int (-1) :: st) M := (fr_eq S (d) (31, 11, L, st) M).trans (x_ocs _ _ (.int (-1)) 31 12 L st M)
theorem f31_12 (S : pm_S) (d : Nat) (L : List Value) (x y : Int32) (r : List Value) (M : pm_M) : fr S (d) (31, 12, L, .int y :: .int x :: r) M = if ¬ x = y then fr S d (31, 19, L, r) M else fr S d (31, 15, L, r) M := (fr_eq S (d) (31, 12, L, .int y :: .int x :: r) M).trans (x_oc2ne _ _ 31 15 19 L r x y M)
theorem f31_15 (S : pm_S) (d : Nat) (L : List Value) (st : List Value) (M : pm_M) : fr S (d) (31, 15, L, st) M = fr S d (31, 16, L, .null :: st) M := (fr_eq S (d) (31, 15, L, st) M).trans (x_ocs _ _ .null 31 16 L st M)
theorem f31_16 (S : pm_S) (d : Nat) (L : List Value) (st : List Value) (M : pm_M) : fr S (d) (31, 16, L, st) M = fr S d (31, 26, L, st) M := (fr_eq S (d) (31, 16, L, st) M).trans (x_ogo _ _ 31 26 L st M)
theorem f31_19 (S : pm_S) (d : Nat) (L : List Value) (st : List Value) (M : pm_M) : fr S (d) (31, 19, L, st) M = if pm_ty (L.getD 0 pm_U) = 2 then fr S d (31, 20, L, L.getD 0 pm_U :: st) M else none := (fr_eq S (d) (31, 19, L, st) M).trans (x_old _ _ 2 0 31 20 L st M)
theorem f31_20 (S : pm_S) (d : Nat) (L : List Value) (q : Nat) (r : List Value) (M : pm_M) : fr S (d) (31, 20, L, .ref q :: r) M = match pm_get M q with
  | some (.inr (c, fs)) => if c = 0 ∧ 5 < fs.length then fr S d (31, 23, L, fs.getD 5 pm_U :: r) M else none
  | _ => none := (fr_eq S (d) (31, 20, L, .ref q :: r) M).trans (x_ogf _ _ 0 5 31 23 L r q M)
theorem f31_23 (S : pm_S) (d : Nat) (L : List Value) (st : List Value) (M : pm_M) : fr S (d) (31, 23, L, st) M = if pm_ty (L.getD 4 pm_U) = 0 then fr S d (31, 25, L, L.getD 4 pm_U :: st) M else none := (fr_eq S (d) (31, 23, L, st) M).trans (x_old _ _ 0 4 31 25 L st M)
theorem f31_25 (S : pm_S) (d : Nat) (L : List Value) (i : Int32) (q : Nat) (hq : ¬ q = 1) (r : List Value) (M : pm_M) : fr S (d) (31, 25, L, .int i :: .ref q :: r) M = match (pm_get M q).bind (fun c => pm_el 3 c i) with
  | some v => fr S d (31, 26, L, v :: r) M
  | none => none := (fr_eq S (d) (31, 25, L, .int i :: .ref q :: r) M).trans (x_oal _ _ S 3 31 26 L r i q hq M)
theorem f31_26 (S : pm_S) (d : Nat) (L : List Value) (v : Value) (M : pm_M) : fr S (d) (31, 26, L, [v]) M = if pm_fit 2 v = true then some (.inl (some v), M) else none := (fr_eq S (d) (31, 26, L, [v]) M).trans (x_ort _ _ 2 v M)
theorem f32_0 (S : pm_S) (d : Nat) (L : List Value) (st : List Value) (M : pm_M) : fr S (d) (32, 0, L, st) M = if pm_ty (L.getD 1 pm_U) = 0 then fr S d (32, 1, L, L.getD 1 pm_U :: st) M else none := (fr_eq S (d) (32, 0, L, st) M).trans (x_old _ _ 0 1 32 1 L st M)
theorem f32_1 (S : pm_S) (d : Nat) (L : List Value) (v : Value) (r : List Value) (M : pm_M) : fr S (d) (32, 1, L, v :: r) M = if pm_ty v = 0 ∧ 5 < L.length ∧ ¬ pm_ty (L.getD (5 - 1) pm_U) = 1 then fr S d (32, 3, L.set 5 v, r) M else none := (fr_eq S (d) (32, 1, L, v :: r) M).trans (x_ost _ _ 0 5 32 3 L r v M)
theorem f32_3 (S : pm_S) (d : Nat) (L : List Value) (st : List Value) (M : pm_M) : fr S (d) (32, 3, L, st) M = if pm_ty (L.getD 5 pm_U) = 0 then fr S d (32, 5, L, L.getD 5 pm_U :: st) M else none := (fr_eq S (d) (32, 3, L, st) M).trans (x_old _ _ 0 5 32 5 L st M)
theorem f32_5 (S : pm_S) (d : Nat) (L : List Value) (st : List Value) (M : pm_M) : fr S (d) (32, 5, L, st) M = if pm_ty (L.getD 2 pm_U) = 0 then fr S d (32, 6, L, L.getD 2 pm_U :: st) M else none := (fr_eq S (d) (32, 5, L, st) M).trans (x_old _ _ 0 2 32 6 L st M)
theorem f32_6 (S : pm_S) (d : Nat) (L : List Value) (x y : Int32) (r : List Value) (M : pm_M) : fr S (d) (32, 6, L, .int y :: .int x :: r) M = if y < x then fr S d (32, 29, L, r) M else fr S d (32, 9, L, r) M := (fr_eq S (d) (32, 6, L, .int y :: .int x :: r) M).trans (x_oc2gt _ _ 32 9 29 L r x y M)
theorem f32_9 (S : pm_S) (d : Nat) (L : List Value) (st : List Value) (M : pm_M) : fr S (d) (32, 9, L, st) M = if pm_ty (L.getD 0 pm_U) = 2 then fr S d (32, 10, L, L.getD 0 pm_U :: st) M else none := (fr_eq S (d) (32, 9, L, st) M).trans (x_old _ _ 2 0 32 10 L st M)
theorem f32_10 (S : pm_S) (d : Nat) (L : List Value) (st : List Value) (M : pm_M) : fr S (d) (32, 10, L, st) M = if pm_ty (L.getD 5 pm_U) = 0 then fr S d (32, 12, L, L.getD 5 pm_U :: st) M else none := (fr_eq S (d) (32, 10, L, st) M).trans (x_old _ _ 0 5 32 12 L st M)
theorem f32_12 (S : pm_S) (d : Nat) (L : List Value) (st : List Value) (M : pm_M) : fr S (d) (32, 12, L, st) M = if pm_ty (L.getD 3 pm_U) = 0 then fr S d (32, 13, L, L.getD 3 pm_U :: st) M else none := (fr_eq S (d) (32, 12, L, st) M).trans (x_old _ _ 0 3 32 13 L st M)
theorem f32_13 (S : pm_S) (d : Nat) (L : List Value) (st : List Value) (M : pm_M) : fr S (d) (32, 13, L, st) M = if pm_ty (L.getD 4 pm_U) = 0 then fr S d (32, 15, L, L.getD 4 pm_U :: st) M else none := (fr_eq S (d) (32, 13, L, st) M).trans (x_old _ _ 0 4 32 15 L st M)
theorem f32_15 (S : pm_S) (d : Nat) (L : List Value) (st : List Value) (M : pm_M) : fr S (d + 1) (32, 15, L, st) M = match pm_ag 4 [] st with
  | some (a, r) => if r.length ≤ 4 ∧ (1 = 0 ∨ pm_obj M 0 (a.headD pm_U) = true) then (match fr S d (31, 0, a ++ [pm_U], []) M with
    | none => none
    | some (.inl v, M') => fr S (d + 1) (32, 18, L, v.toList ++ r) M'
    | some (.inr E, M') => some (.inr E, M')) else none
  | none => none := (fr_eq S (d + 1) (32, 15, L, st) M).trans (x_ocl _ _ 1 31 4 0 [pm_U] 32 18 L st M)
theorem f32_18 (S : pm_S) (d : Nat) (L : List Value) (v : Value) (r : List Value) (M : pm_M) : fr S (d) (32, 18, L, v :: r) M = if pm_ty v = 2 then (if v = .null then fr S d (32, 23, L, r) M else fr S d (32, 21, L, r) M) else none := (fr_eq S (d) (32, 18, L, v :: r) M).trans (x_onu _ _ 23 21 32 L r v M)
theorem f32_21 (S : pm_S) (d : Nat) (L : List Value) (st : List Value) (M : pm_M) : fr S (d) (32, 21, L, st) M = fr S d (32, 22, L, .int 0 :: st) M := (fr_eq S (d) (32, 21, L, st) M).trans (x_ocs _ _ (.int 0) 32 22 L st M)
theorem f32_22 (S : pm_S) (d : Nat) (L : List Value) (v : Value) (M : pm_M) : fr S (d) (32, 22, L, [v]) M = if pm_fit 3 v = true then some (.inl (some v), M) else none := (fr_eq S (d) (32, 22, L, [v]) M).trans (x_ort _ _ 3 v M)
theorem f32_23 (S : pm_S) (d : Nat) (L : List Value) (st : List Value) (M : pm_M) : fr S (d) (32, 23, L, st) M = match L.getD 5 pm_U with
  | .int x => if 5 < L.length ∧ ¬ pm_ty (L.getD (5 - 1) pm_U) = 1 then fr S d (32, 26, L.set 5 (.int (x + 1)), st) M else none
  | _ => none := (fr_eq S (d) (32, 23, L, st) M).trans (x_oinc _ _ 5 1 32 26 L st M)
theorem f32_26 (S : pm_S) (d : Nat) (L : List Value) (st : List Value) (M : pm_M) : fr S (d) (32, 26, L, st) M = fr S d (32, 3, L, st) M := (fr_eq S (d) (32, 26, L, st) M).trans (x_ogo _ _ 32 3 L st M)
theorem f32_29 (S : pm_S) (d : Nat) (L : List Value) (st : List Value) (M : pm_M) : fr S (d) (32, 29, L, st) M = fr S d (32, 30, L, .int 1 :: st) M := (fr_eq S (d) (32, 29, L, st) M).trans (x_ocs _ _ (.int 1) 32 30 L st M)
theorem f32_30 (S : pm_S) (d : Nat) (L : List Value) (v : Value) (M : pm_M) : fr S (d) (32, 30, L, [v]) M = if pm_fit 3 v = true then some (.inl (some v), M) else none := (fr_eq S (d) (32, 30, L, [v]) M).trans (x_ort _ _ 3 v M)
theorem f33_0 (S : pm_S) (d : Nat) (L : List Value) (st : List Value) (M : pm_M) : fr S (d) (33, 0, L, st) M = if pm_ty (L.getD 1 pm_U) = 2 then fr S d (33, 1, L, L.getD 1 pm_U :: st) M else none := (fr_eq S (d) (33, 0, L, st) M).trans (x_old _ _ 2 1 33 1 L st M)
theorem f33_1 (S : pm_S) (d : Nat) (L : List Value) (st : List Value) (M : pm_M) : fr S (d) (33, 1, L, st) M = if pm_ty (L.getD 2 pm_U) = 0 then fr S d (33, 2, L, L.getD 2 pm_U :: st) M else none := (fr_eq S (d) (33, 1, L, st) M).trans (x_old _ _ 0 2 33 2 L st M)
theorem f33_2 (S : pm_S) (d : Nat) (L : List Value) (st : List Value) (M : pm_M) : fr S (d) (33, 2, L, st) M = if pm_ty (L.getD 3 pm_U) = 0 then fr S d (33, 3, L, L.getD 3 pm_U :: st) M else none := (fr_eq S (d) (33, 2, L, st) M).trans (x_old _ _ 0 3 33 3 L st M)
theorem f33_3 (S : pm_S) (d : Nat) (L : List Value) (st : List Value) (M : pm_M) : fr S (d) (33, 3, L, st) M = if pm_ty (L.getD 4 pm_U) = 0 then fr S d (33, 5, L, L.getD 4 pm_U :: st) M else none := (fr_eq S (d) (33, 3, L, st) M).trans (x_old _ _ 0 4 33 5 L st M)
theorem f33_5 (S : pm_S) (d : Nat) (L : List Value) (st : List Value) (M : pm_M) : fr S (d + 1) (33, 5, L, st) M = match pm_ag 4 [] st with
  | some (a, r) => if r.length ≤ 4 ∧ (1 = 0 ∨ pm_obj M 1 (a.headD pm_U) = true) then (match fr S d (65, 0, a ++ [], []) M with
    | none => none
    | some (.inl v, M') => fr S (d + 1) (33, 8, L, v.toList ++ r) M'
    | some (.inr E, M') => some (.inr E, M')) else none
  | none => none := (fr_eq S (d + 1) (33, 5, L, st) M).trans (x_ocl _ _ 1 65 4 1 [] 33 8 L st M)
theorem f33_8 (S : pm_S) (d : Nat) (L : List Value) (st : List Value) (M : pm_M) : fr S (d) (33, 8, L, st) M = if pm_ty (L.getD 0 pm_U) = 2 then fr S d (33, 9, L, L.getD 0 pm_U :: st) M else none := (fr_eq S (d) (33, 8, L, st) M).trans (x_old _ _ 2 0 33 9 L st M)
theorem f33_9 (S : pm_S) (d : Nat) (L : List Value) (st : List Value) (M : pm_M) : fr S (d) (33, 9, L, st) M = if pm_ty (L.getD 1 pm_U) = 2 then fr S d (33, 10, L, L.getD 1 pm_U :: st) M else none := (fr_eq S (d) (33, 9, L, st) M).trans (x_old _ _ 2 1 33 10 L st M)
theorem f33_10 (S : pm_S) (d : Nat) (L : List Value) (st : List Value) (M : pm_M) : fr S (d) (33, 10, L, st) M = if pm_ty (L.getD 1 pm_U) = 2 then fr S d (33, 11, L, L.getD 1 pm_U :: st) M else none := (fr_eq S (d) (33, 10, L, st) M).trans (x_old _ _ 2 1 33 11 L st M)
theorem f33_11 (S : pm_S) (d : Nat) (L : List Value) (st : List Value) (M : pm_M) : fr S (d + 1) (33, 11, L, st) M = match pm_ag 3 [] st with
  | some (a, r) => if r.length ≤ 4 ∧ (1 = 0 ∨ pm_obj M 0 (a.headD pm_U) = true) then (match fr S d (35, 0, a ++ [pm_U, pm_U], []) M with
    | none => none
    | some (.inl v, M') => fr S (d + 1) (33, 14, L, v.toList ++ r) M'
    | some (.inr E, M') => some (.inr E, M')) else none
  | none => none := (fr_eq S (d + 1) (33, 11, L, st) M).trans (x_ocl _ _ 1 35 3 0 [pm_U, pm_U] 33 14 L st M)
theorem f33_14 (S : pm_S) (d : Nat) (L : List Value)  (M : pm_M) : fr S (d) (33, 14, L, []) M = some (.inl none, M) := (fr_eq S (d) (33, 14, L, []) M).trans (x_orv _ _ M)
theorem f34_0 (S : pm_S) (d : Nat) (L : List Value) (st : List Value) (M : pm_M) : fr S (d) (34, 0, L, st) M = if pm_ty (L.getD 0 pm_U) = 2 then fr S d (34, 1, L, L.getD 0 pm_U :: st) M else none := (fr_eq S (d) (34, 0, L, st) M).trans (x_old _ _ 2 0 34 1 L st M)
theorem f34_1 (S : pm_S) (d : Nat) (L : List Value) (st : List Value) (M : pm_M) : fr S (d) (34, 1, L, st) M = if pm_ty (L.getD 1 pm_U) = 2 then fr S d (34, 2, L, L.getD 1 pm_U :: st) M else none := (fr_eq S (d) (34, 1, L, st) M).trans (x_old _ _ 2 1 34 2 L st M)
theorem f34_2 (S : pm_S) (d : Nat) (L : List Value) (st : List Value) (M : pm_M) : fr S (d) (34, 2, L, st) M = fr S d (34, 3, L, .null :: st) M := (fr_eq S (d) (34, 2, L, st) M).trans (x_ocs _ _ .null 34 3 L st M)
theorem f34_3 (S : pm_S) (d : Nat) (L : List Value) (st : List Value) (M : pm_M) : fr S (d + 1) (34, 3, L, st) M = match pm_ag 3 [] st with
  | some (a, r) => if r.length ≤ 4 ∧ (1 = 0 ∨ pm_obj M 0 (a.headD pm_U) = true) then (match fr S d (35, 0, a ++ [pm_U, pm_U], []) M with
    | none => none
    | some (.inl v, M') => fr S (d + 1) (34, 6, L, v.toList ++ r) M'
    | some (.inr E, M') => some (.inr E, M')) else none
  | none => none := (fr_eq S (d + 1) (34, 3, L, st) M).trans (x_ocl _ _ 1 35 3 0 [pm_U, pm_U] 34 6 L st M)
theorem f34_6 (S : pm_S) (d : Nat) (L : List Value) (st : List Value) (M : pm_M) : fr S (d) (34, 6, L, st) M = if pm_ty (L.getD 1 pm_U) = 2 then fr S d (34, 7, L, L.getD 1 pm_U :: st) M else none := (fr_eq S (d) (34, 6, L, st) M).trans (x_old _ _ 2 1 34 7 L st M)
theorem f34_7 (S : pm_S) (d : Nat) (L : List Value) (st : List Value) (M : pm_M) : fr S (d) (34, 7, L, st) M = fr S d (34, 8, L, .int (-1) :: st) M := (fr_eq S (d) (34, 7, L, st) M).trans (x_ocs _ _ (.int (-1)) 34 8 L st M)
theorem f34_8 (S : pm_S) (d : Nat) (L : List Value) (st : List Value) (M : pm_M) : fr S (d) (34, 8, L, st) M = fr S d (34, 9, L, .int (-1) :: st) M := (fr_eq S (d) (34, 8, L, st) M).trans (x_ocs _ _ (.int (-1)) 34 9 L st M)
theorem f34_9 (S : pm_S) (d : Nat) (L : List Value) (st : List Value) (M : pm_M) : fr S (d) (34, 9, L, st) M = fr S d (34, 10, L, .int (-1) :: st) M := (fr_eq S (d) (34, 9, L, st) M).trans (x_ocs _ _ (.int (-1)) 34 10 L st M)
theorem f34_10 (S : pm_S) (d : Nat) (L : List Value) (st : List Value) (M : pm_M) : fr S (d + 1) (34, 10, L, st) M = match pm_ag 4 [] st with
  | some (a, r) => if r.length ≤ 4 ∧ (1 = 0 ∨ pm_obj M 1 (a.headD pm_U) = true) then (match fr S d (65, 0, a ++ [], []) M with
    | none => none
    | some (.inl v, M') => fr S (d + 1) (34, 13, L, v.toList ++ r) M'
    | some (.inr E, M') => some (.inr E, M')) else none
  | none => none := (fr_eq S (d + 1) (34, 10, L, st) M).trans (x_ocl _ _ 1 65 4 1 [] 34 13 L st M)
theorem f34_13 (S : pm_S) (d : Nat) (L : List Value)  (M : pm_M) : fr S (d) (34, 13, L, []) M = some (.inl none, M) := (fr_eq S (d) (34, 13, L, []) M).trans (x_orv _ _ M)
theorem f35_0 (S : pm_S) (d : Nat) (L : List Value) (st : List Value) (M : pm_M) : fr S (d) (35, 0, L, st) M = if pm_ty (L.getD 1 pm_U) = 2 then fr S d (35, 1, L, L.getD 1 pm_U :: st) M else none := (fr_eq S (d) (35, 0, L, st) M).trans (x_old _ _ 2 1 35 1 L st M)
theorem f35_1 (S : pm_S) (d : Nat) (L : List Value) (q : Nat) (r : List Value) (M : pm_M) : fr S (d) (35, 1, L, .ref q :: r) M = match pm_get M q with
  | some (.inr (c, fs)) => if c = 1 ∧ 5 < fs.length then fr S d (35, 4, L, fs.getD 5 pm_U :: r) M else none
  | _ => none := (fr_eq S (d) (35, 1, L, .ref q :: r) M).trans (x_ogf _ _ 1 5 35 4 L r q M)
theorem f35_4 (S : pm_S) (d : Nat) (L : List Value) (v : Value) (r : List Value) (M : pm_M) : fr S (d) (35, 4, L, v :: r) M = if pm_ty v = 0 ∧ 3 < L.length ∧ ¬ pm_ty (L.getD (3 - 1) pm_U) = 1 then fr S d (35, 5, L.set 3 v, r) M else none := (fr_eq S (d) (35, 4, L, v :: r) M).trans (x_ost _ _ 0 3 35 5 L r v M)
theorem f35_5 (S : pm_S) (d : Nat) (L : List Value) (st : List Value) (M : pm_M) : fr S (d) (35, 5, L, st) M = if pm_ty (L.getD 3 pm_U) = 0 then fr S d (35, 6, L, L.getD 3 pm_U :: st) M else none := (fr_eq S (d) (35, 5, L, st) M).trans (x_old _ _ 0 3 35 6 L st M)
theorem f35_6 (S : pm_S) (d : Nat) (L : List Value) (st : List Value) (M : pm_M) : fr S (d) (35, 6, L, st) M = if pm_ty (L.getD 1 pm_U) = 2 then fr S d (35, 7, L, L.getD 1 pm_U :: st) M else none := (fr_eq S (d) (35, 6, L, st) M).trans (x_old _ _ 2 1 35 7 L st M)
theorem f35_7 (S : pm_S) (d : Nat) (L : List Value) (st : List Value) (M : pm_M) : fr S (d + 1) (35, 7, L, st) M = match pm_ag 1 [] st with
  | some (a, r) => if r.length ≤ 4 ∧ (1 = 0 ∨ pm_obj M 1 (a.headD pm_U) = true) then (match fr S d (62, 0, a ++ [], []) M with
    | none => none
    | some (.inl v, M') => fr S (d + 1) (35, 10, L, v.toList ++ r) M'
    | some (.inr E, M') => some (.inr E, M')) else none
  | none => none := (fr_eq S (d + 1) (35, 7, L, st) M).trans (x_ocl _ _ 1 62 1 1 [] 35 10 L st M)
theorem f35_10 (S : pm_S) (d : Nat) (L : List Value) (x y : Int32) (r : List Value) (M : pm_M) : fr S (d) (35, 10, L, .int y :: .int x :: r) M = if y < x then fr S d (35, 48, L, r) M else fr S d (35, 13, L, r) M := (fr_eq S (d) (35, 10, L, .int y :: .int x :: r) M).trans (x_oc2gt _ _ 35 13 48 L r x y M)
theorem f35_13 (S : pm_S) (d : Nat) (L : List Value) (st : List Value) (M : pm_M) : fr S (d) (35, 13, L, st) M = if pm_ty (L.getD 0 pm_U) = 2 then fr S d (35, 14, L, L.getD 0 pm_U :: st) M else none := (fr_eq S (d) (35, 13, L, st) M).trans (x_old _ _ 2 0 35 14 L st M)
theorem f35_14 (S : pm_S) (d : Nat) (L : List Value) (st : List Value) (M : pm_M) : fr S (d) (35, 14, L, st) M = if pm_ty (L.getD 3 pm_U) = 0 then fr S d (35, 15, L, L.getD 3 pm_U :: st) M else none := (fr_eq S (d) (35, 14, L, st) M).trans (x_old _ _ 0 3 35 15 L st M)
theorem f35_15 (S : pm_S) (d : Nat) (L : List Value) (st : List Value) (M : pm_M) : fr S (d) (35, 15, L, st) M = if pm_ty (L.getD 1 pm_U) = 2 then fr S d (35, 16, L, L.getD 1 pm_U :: st) M else none := (fr_eq S (d) (35, 15, L, st) M).trans (x_old _ _ 2 1 35 16 L st M)
theorem f35_16 (S : pm_S) (d : Nat) (L : List Value) (q : Nat) (r : List Value) (M : pm_M) : fr S (d) (35, 16, L, .ref q :: r) M = match pm_get M q with
  | some (.inr (c, fs)) => if c = 1 ∧ 6 < fs.length then fr S d (35, 19, L, fs.getD 6 pm_U :: r) M else none
  | _ => none := (fr_eq S (d) (35, 16, L, .ref q :: r) M).trans (x_ogf _ _ 1 6 35 19 L r q M)
theorem f35_19 (S : pm_S) (d : Nat) (L : List Value) (st : List Value) (M : pm_M) : fr S (d) (35, 19, L, st) M = if pm_ty (L.getD 1 pm_U) = 2 then fr S d (35, 20, L, L.getD 1 pm_U :: st) M else none := (fr_eq S (d) (35, 19, L, st) M).trans (x_old _ _ 2 1 35 20 L st M)
theorem f35_20 (S : pm_S) (d : Nat) (L : List Value) (q : Nat) (r : List Value) (M : pm_M) : fr S (d) (35, 20, L, .ref q :: r) M = match pm_get M q with
  | some (.inr (c, fs)) => if c = 1 ∧ 7 < fs.length then fr S d (35, 23, L, fs.getD 7 pm_U :: r) M else none
  | _ => none := (fr_eq S (d) (35, 20, L, .ref q :: r) M).trans (x_ogf _ _ 1 7 35 23 L r q M)
theorem f35_23 (S : pm_S) (d : Nat) (L : List Value) (st : List Value) (M : pm_M) : fr S (d + 1) (35, 23, L, st) M = match pm_ag 4 [] st with
  | some (a, r) => if r.length ≤ 4 ∧ (1 = 0 ∨ pm_obj M 0 (a.headD pm_U) = true) then (match fr S d (29, 0, a ++ [], []) M with
    | none => none
    | some (.inl v, M') => fr S (d + 1) (35, 26, L, v.toList ++ r) M'
    | some (.inr E, M') => some (.inr E, M')) else none
  | none => none := (fr_eq S (d + 1) (35, 23, L, st) M).trans (x_ocl _ _ 1 29 4 0 [] 35 26 L st M)
theorem f35_26 (S : pm_S) (d : Nat) (L : List Value) (v : Value) (r : List Value) (M : pm_M) : fr S (d) (35, 26, L, v :: r) M = if pm_ty v = 0 ∧ 4 < L.length ∧ ¬ pm_ty (L.getD (4 - 1) pm_U) = 1 then fr S d (35, 28, L.set 4 v, r) M else none := (fr_eq S (d) (35, 26, L, v :: r) M).trans (x_ost _ _ 0 4 35 28 L r v M)
theorem f35_28 (S : pm_S) (d : Nat) (L : List Value) (st : List Value) (M : pm_M) : fr S (d) (35, 28, L, st) M = if pm_ty (L.getD 4 pm_U) = 0 then fr S d (35, 30, L, L.getD 4 pm_U :: st) M else none := (fr_eq S (d) (35, 28, L, st) M).trans (x_old _ _ 0 4 35 30 L st M)
theorem f35_30 (S : pm_S) (d : Nat) (L : List Value) (st : List Value) (M : pm_M) : fr S (d) (35, 30, L, st) M = fr S d (35, 31, L, .int (-1) :: st) M := (fr_eq S (d) (35, 30, L, st) M).trans (x_ocs _ _ (.int (-1)) 35 31 L st M)
theorem f35_31 (S : pm_S) (d : Nat) (L : List Value) (x y : Int32) (r : List Value) (M : pm_M) : fr S (d) (35, 31, L, .int y :: .int x :: r) M = if x = y then fr S d (35, 42, L, r) M else fr S d (35, 34, L, r) M := (fr_eq S (d) (35, 31, L, .int y :: .int x :: r) M).trans (x_oc2eq _ _ 35 34 42 L r x y M)
theorem f35_34 (S : pm_S) (d : Nat) (L : List Value) (st : List Value) (M : pm_M) : fr S (d) (35, 34, L, st) M = if pm_ty (L.getD 0 pm_U) = 2 then fr S d (35, 35, L, L.getD 0 pm_U :: st) M else none := (fr_eq S (d) (35, 34, L, st) M).trans (x_old _ _ 2 0 35 35 L st M)
theorem f35_35 (S : pm_S) (d : Nat) (L : List Value) (q : Nat) (r : List Value) (M : pm_M) : fr S (d) (35, 35, L, .ref q :: r) M = match pm_get M q with
  | some (.inr (c, fs)) => if c = 0 ∧ 5 < fs.length then fr S d (35, 38, L, fs.getD 5 pm_U :: r) M else none
  | _ => none := (fr_eq S (d) (35, 35, L, .ref q :: r) M).trans (x_ogf _ _ 0 5 35 38 L r q M)
theorem f35_38 (S : pm_S) (d : Nat) (L : List Value) (st : List Value) (M : pm_M) : fr S (d) (35, 38, L, st) M = if pm_ty (L.getD 4 pm_U) = 0 then fr S d (35, 40, L, L.getD 4 pm_U :: st) M else none := (fr_eq S (d) (35, 38, L, st) M).trans (x_old _ _ 0 4 35 40 L st M)
theorem f35_40 (S : pm_S) (d : Nat) (L : List Value) (st : List Value) (M : pm_M) : fr S (d) (35, 40, L, st) M = if pm_ty (L.getD 2 pm_U) = 2 then fr S d (35, 41, L, L.getD 2 pm_U :: st) M else none := (fr_eq S (d) (35, 40, L, st) M).trans (x_old _ _ 2 2 35 41 L st M)
theorem f35_41 (S : pm_S) (d : Nat) (L : List Value) (v : Value) (i : Int32) (q : Nat) (r : List Value) (M : pm_M) : fr S (d) (35, 41, L, v :: .int i :: .ref q :: r) M = if pm_sq M 1 v = true then (match (pm_get M q).bind (fun c => pm_ev 2 3 c i v) with
  | some c => fr S d (35, 42, L, r) (pm_set M q c)
  | none => none) else none := (fr_eq S (d) (35, 41, L, v :: .int i :: .ref q :: r) M).trans (x_oas _ _ 2 3 1 35 42 L r v i q M)
theorem f35_42 (S : pm_S) (d : Nat) (L : List Value) (st : List Value) (M : pm_M) : fr S (d) (35, 42, L, st) M = match L.getD 3 pm_U with
  | .int x => if 3 < L.length ∧ ¬ pm_ty (L.getD (3 - 1) pm_U) = 1 then fr S d (35, 45, L.set 3 (.int (x + 1)), st) M else none
  | _ => none := (fr_eq S (d) (35, 42, L, st) M).trans (x_oinc _ _ 3 1 35 45 L st M)
theorem f35_45 (S : pm_S) (d : Nat) (L : List Value) (st : List Value) (M : pm_M) : fr S (d) (35, 45, L, st) M = fr S d (35, 5, L, st) M := (fr_eq S (d) (35, 45, L, st) M).trans (x_ogo _ _ 35 5 L st M)
theorem f35_48 (S : pm_S) (d : Nat) (L : List Value)  (M : pm_M) : fr S (d) (35, 48, L, []) M = some (.inl none, M) := (fr_eq S (d) (35, 48, L, []) M).trans (x_orv _ _ M)
theorem f36_0 (S : pm_S) (d : Nat) (L : List Value) (st : List Value) (M : pm_M) : fr S (d) (36, 0, L, st) M = fr S d (36, 1, L, .int 0 :: st) M := (fr_eq S (d) (36, 0, L, st) M).trans (x_ocs _ _ (.int 0) 36 1 L st M)
theorem f36_1 (S : pm_S) (d : Nat) (L : List Value) (v : Value) (r : List Value) (M : pm_M) : fr S (d) (36, 1, L, v :: r) M = if pm_ty v = 0 ∧ 1 < L.length ∧ ¬ pm_ty (L.getD (1 - 1) pm_U) = 1 then fr S d (36, 2, L.set 1 v, r) M else none := (fr_eq S (d) (36, 1, L, v :: r) M).trans (x_ost _ _ 0 1 36 2 L r v M)
theorem f36_2 (S : pm_S) (d : Nat) (L : List Value) (st : List Value) (M : pm_M) : fr S (d) (36, 2, L, st) M = fr S d (36, 3, L, .int 0 :: st) M := (fr_eq S (d) (36, 2, L, st) M).trans (x_ocs _ _ (.int 0) 36 3 L st M)
theorem f36_3 (S : pm_S) (d : Nat) (L : List Value) (v : Value) (r : List Value) (M : pm_M) : fr S (d) (36, 3, L, v :: r) M = if pm_ty v = 0 ∧ 2 < L.length ∧ ¬ pm_ty (L.getD (2 - 1) pm_U) = 1 then fr S d (36, 4, L.set 2 v, r) M else none := (fr_eq S (d) (36, 3, L, v :: r) M).trans (x_ost _ _ 0 2 36 4 L r v M)
theorem f36_4 (S : pm_S) (d : Nat) (L : List Value) (st : List Value) (M : pm_M) : fr S (d) (36, 4, L, st) M = if pm_ty (L.getD 2 pm_U) = 0 then fr S d (36, 5, L, L.getD 2 pm_U :: st) M else none := (fr_eq S (d) (36, 4, L, st) M).trans (x_old _ _ 0 2 36 5 L st M)
theorem f36_5 (S : pm_S) (d : Nat) (L : List Value) (st : List Value) (M : pm_M) : fr S (d) (36, 5, L, st) M = if pm_ty (L.getD 0 pm_U) = 2 then fr S d (36, 6, L, L.getD 0 pm_U :: st) M else none := (fr_eq S (d) (36, 5, L, st) M).trans (x_old _ _ 2 0 36 6 L st M)
theorem f36_6 (S : pm_S) (d : Nat) (L : List Value) (q : Nat) (r : List Value) (M : pm_M) : fr S (d) (36, 6, L, .ref q :: r) M = match pm_get M q with
  | some (.inr (c, fs)) => if c = 0 ∧ 4 < fs.length then fr S d (36, 9, L, fs.getD 4 pm_U :: r) M else none
  | _ => none := (fr_eq S (d) (36, 6, L, .ref q :: r) M).trans (x_ogf _ _ 0 4 36 9 L r q M)
theorem f36_9 (S : pm_S) (d : Nat) (L : List Value) (x y : Int32) (r : List Value) (M : pm_M) : fr S (d) (36, 9, L, .int y :: .int x :: r) M = if y ≤ x then fr S d (36, 38, L, r) M else fr S d (36, 12, L, r) M := (fr_eq S (d) (36, 9, L, .int y :: .int x :: r) M).trans (x_oc2ge _ _ 36 12 38 L r x y M)
theorem f36_12 (S : pm_S) (d : Nat) (L : List Value) (st : List Value) (M : pm_M) : fr S (d) (36, 12, L, st) M = if pm_ty (L.getD 0 pm_U) = 2 then fr S d (36, 13, L, L.getD 0 pm_U :: st) M else none := (fr_eq S (d) (36, 12, L, st) M).trans (x_old _ _ 2 0 36 13 L st M)
theorem f36_13 (S : pm_S) (d : Nat) (L : List Value) (st : List Value) (M : pm_M) : fr S (d) (36, 13, L, st) M = if pm_ty (L.getD 2 pm_U) = 0 then fr S d (36, 14, L, L.getD 2 pm_U :: st) M else none := (fr_eq S (d) (36, 13, L, st) M).trans (x_old _ _ 0 2 36 14 L st M)
theorem f36_14 (S : pm_S) (d : Nat) (L : List Value) (st : List Value) (M : pm_M) : fr S (d + 1) (36, 14, L, st) M = match pm_ag 2 [] st with
  | some (a, r) => if r.length ≤ 4 ∧ (1 = 0 ∨ pm_obj M 0 (a.headD pm_U) = true) then (match fr S d (30, 0, a ++ [], []) M with
    | none => none
    | some (.inl v, M') => fr S (d + 1) (36, 17, L, v.toList ++ r) M'
    | some (.inr E, M') => some (.inr E, M')) else none
  | none => none := (fr_eq S (d + 1) (36, 14, L, st) M).trans (x_ocl _ _ 1 30 2 0 [] 36 17 L st M)
theorem f36_17 (S : pm_S) (d : Nat) (L : List Value) (v : Value) (r : List Value) (M : pm_M) : fr S (d) (36, 17, L, v :: r) M = if pm_ty v = 2 ∧ 3 < L.length ∧ ¬ pm_ty (L.getD (3 - 1) pm_U) = 1 then fr S d (36, 18, L.set 3 v, r) M else none := (fr_eq S (d) (36, 17, L, v :: r) M).trans (x_ost _ _ 2 3 36 18 L r v M)
theorem f36_18 (S : pm_S) (d : Nat) (L : List Value) (st : List Value) (M : pm_M) : fr S (d) (36, 18, L, st) M = if pm_ty (L.getD 3 pm_U) = 2 then fr S d (36, 19, L, L.getD 3 pm_U :: st) M else none := (fr_eq S (d) (36, 18, L, st) M).trans (x_old _ _ 2 3 36 19 L st M)
theorem f36_19 (S : pm_S) (d : Nat) (L : List Value) (v : Value) (r : List Value) (M : pm_M) : fr S (d) (36, 19, L, v :: r) M = if pm_ty v = 2 then (if v = .null then fr S d (36, 32, L, r) M else fr S d (36, 22, L, r) M) else none := (fr_eq S (d) (36, 19, L, v :: r) M).trans (x_onu _ _ 32 22 36 L r v M)
theorem f36_22 (S : pm_S) (d : Nat) (L : List Value) (st : List Value) (M : pm_M) : fr S (d) (36, 22, L, st) M = if pm_ty (L.getD 3 pm_U) = 2 then fr S d (36, 23, L, L.getD 3 pm_U :: st) M else none := (fr_eq S (d) (36, 22, L, st) M).trans (x_old _ _ 2 3 36 23 L st M)
theorem f36_23 (S : pm_S) (d : Nat) (L : List Value) (st : List Value) (M : pm_M) : fr S (d + 1) (36, 23, L, st) M = match pm_ag 1 [] st with
  | some (a, r) => if r.length ≤ 4 ∧ (1 = 0 ∨ pm_obj M 1 (a.headD pm_U) = true) then (match fr S d (64, 0, a ++ [], []) M with
    | none => none
    | some (.inl v, M') => fr S (d + 1) (36, 26, L, v.toList ++ r) M'
    | some (.inr E, M') => some (.inr E, M')) else none
  | none => none := (fr_eq S (d + 1) (36, 23, L, st) M).trans (x_ocl _ _ 1 64 1 1 [] 36 26 L st M)
theorem f36_26 (S : pm_S) (d : Nat) (L : List Value) (x : Int32) (r : List Value) (M : pm_M) : fr S (d) (36, 26, L, .int x :: r) M = if x = 0 then fr S d (36, 32, L, r) M else fr S d (36, 29, L, r) M := (fr_eq S (d) (36, 26, L, .int x :: r) M).trans (x_oc1eq _ _ 36 29 32 L r x M)
theorem f36_29 (S : pm_S) (d : Nat) (L : List Value) (st : List Value) (M : pm_M) : fr S (d) (36, 29, L, st) M = match L.getD 1 pm_U with
  | .int x => if 1 < L.length ∧ ¬ pm_ty (L.getD (1 - 1) pm_U) = 1 then fr S d (36, 32, L.set 1 (.int (x + 1)), st) M else none
  | _ => none := (fr_eq S (d) (36, 29, L, st) M).trans (x_oinc _ _ 1 1 36 32 L st M)
theorem f36_32 (S : pm_S) (d : Nat) (L : List Value) (st : List Value) (M : pm_M) : fr S (d) (36, 32, L, st) M = match L.getD 2 pm_U with
  | .int x => if 2 < L.length ∧ ¬ pm_ty (L.getD (2 - 1) pm_U) = 1 then fr S d (36, 35, L.set 2 (.int (x + 1)), st) M else none
  | _ => none := (fr_eq S (d) (36, 32, L, st) M).trans (x_oinc _ _ 2 1 36 35 L st M)
theorem f36_35 (S : pm_S) (d : Nat) (L : List Value) (st : List Value) (M : pm_M) : fr S (d) (36, 35, L, st) M = fr S d (36, 4, L, st) M := (fr_eq S (d) (36, 35, L, st) M).trans (x_ogo _ _ 36 4 L st M)
theorem f36_38 (S : pm_S) (d : Nat) (L : List Value) (st : List Value) (M : pm_M) : fr S (d) (36, 38, L, st) M = if pm_ty (L.getD 1 pm_U) = 0 then fr S d (36, 39, L, L.getD 1 pm_U :: st) M else none := (fr_eq S (d) (36, 38, L, st) M).trans (x_old _ _ 0 1 36 39 L st M)
theorem f36_39 (S : pm_S) (d : Nat) (L : List Value) (v : Value) (M : pm_M) : fr S (d) (36, 39, L, [v]) M = if pm_fit 0 v = true then some (.inl (some v), M) else none := (fr_eq S (d) (36, 39, L, [v]) M).trans (x_ort _ _ 0 v M)
theorem f37_0 (S : pm_S) (d : Nat) (L : List Value) (st : List Value) (M : pm_M) : fr S (d) (37, 0, L, st) M = fr S d (37, 1, L, .int 0 :: st) M := (fr_eq S (d) (37, 0, L, st) M).trans (x_ocs _ _ (.int 0) 37 1 L st M)
theorem f37_1 (S : pm_S) (d : Nat) (L : List Value) (v : Value) (r : List Value) (M : pm_M) : fr S (d) (37, 1, L, v :: r) M = if pm_ty v = 0 ∧ 3 < L.length ∧ ¬ pm_ty (L.getD (3 - 1) pm_U) = 1 then fr S d (37, 2, L.set 3 v, r) M else none := (fr_eq S (d) (37, 1, L, v :: r) M).trans (x_ost _ _ 0 3 37 2 L r v M)
theorem f37_2 (S : pm_S) (d : Nat) (L : List Value) (st : List Value) (M : pm_M) : fr S (d) (37, 2, L, st) M = fr S d (37, 3, L, .int 0 :: st) M := (fr_eq S (d) (37, 2, L, st) M).trans (x_ocs _ _ (.int 0) 37 3 L st M)
theorem f37_3 (S : pm_S) (d : Nat) (L : List Value) (v : Value) (r : List Value) (M : pm_M) : fr S (d) (37, 3, L, v :: r) M = if pm_ty v = 0 ∧ 4 < L.length ∧ ¬ pm_ty (L.getD (4 - 1) pm_U) = 1 then fr S d (37, 5, L.set 4 v, r) M else none := (fr_eq S (d) (37, 3, L, v :: r) M).trans (x_ost _ _ 0 4 37 5 L r v M)
theorem f37_5 (S : pm_S) (d : Nat) (L : List Value) (st : List Value) (M : pm_M) : fr S (d) (37, 5, L, st) M = if pm_ty (L.getD 4 pm_U) = 0 then fr S d (37, 7, L, L.getD 4 pm_U :: st) M else none := (fr_eq S (d) (37, 5, L, st) M).trans (x_old _ _ 0 4 37 7 L st M)
theorem f37_7 (S : pm_S) (d : Nat) (L : List Value) (st : List Value) (M : pm_M) : fr S (d) (37, 7, L, st) M = if pm_ty (L.getD 0 pm_U) = 2 then fr S d (37, 8, L, L.getD 0 pm_U :: st) M else none := (fr_eq S (d) (37, 7, L, st) M).trans (x_old _ _ 2 0 37 8 L st M)
theorem f37_8 (S : pm_S) (d : Nat) (L : List Value) (q : Nat) (r : List Value) (M : pm_M) : fr S (d) (37, 8, L, .ref q :: r) M = match pm_get M q with
  | some (.inr (c, fs)) => if c = 0 ∧ 4 < fs.length then fr S d (37, 11, L, fs.getD 4 pm_U :: r) M else none
  | _ => none := (fr_eq S (d) (37, 8, L, .ref q :: r) M).trans (x_ogf _ _ 0 4 37 11 L r q M)
theorem f37_11 (S : pm_S) (d : Nat) (L : List Value) (x y : Int32) (r : List Value) (M : pm_M) : fr S (d) (37, 11, L, .int y :: .int x :: r) M = if y ≤ x then fr S d (37, 59, L, r) M else fr S d (37, 14, L, r) M := (fr_eq S (d) (37, 11, L, .int y :: .int x :: r) M).trans (x_oc2ge _ _ 37 14 59 L r x y M)
theorem f37_14 (S : pm_S) (d : Nat) (L : List Value) (st : List Value) (M : pm_M) : fr S (d) (37, 14, L, st) M = if pm_ty (L.getD 0 pm_U) = 2 then fr S d (37, 15, L, L.getD 0 pm_U :: st) M else none := (fr_eq S (d) (37, 14, L, st) M).trans (x_old _ _ 2 0 37 15 L st M)
theorem f37_15 (S : pm_S) (d : Nat) (L : List Value) (st : List Value) (M : pm_M) : fr S (d) (37, 15, L, st) M = if pm_ty (L.getD 4 pm_U) = 0 then fr S d (37, 17, L, L.getD 4 pm_U :: st) M else none := (fr_eq S (d) (37, 15, L, st) M).trans (x_old _ _ 0 4 37 17 L st M)
theorem f37_17 (S : pm_S) (d : Nat) (L : List Value) (st : List Value) (M : pm_M) : fr S (d + 1) (37, 17, L, st) M = match pm_ag 2 [] st with
  | some (a, r) => if r.length ≤ 4 ∧ (1 = 0 ∨ pm_obj M 0 (a.headD pm_U) = true) then (match fr S d (30, 0, a ++ [], []) M with
    | none => none
    | some (.inl v, M') => fr S (d + 1) (37, 20, L, v.toList ++ r) M'
    | some (.inr E, M') => some (.inr E, M')) else none
  | none => none := (fr_eq S (d + 1) (37, 17, L, st) M).trans (x_ocl _ _ 1 30 2 0 [] 37 20 L st M)
theorem f37_20 (S : pm_S) (d : Nat) (L : List Value) (v : Value) (r : List Value) (M : pm_M) : fr S (d) (37, 20, L, v :: r) M = if pm_ty v = 2 ∧ 5 < L.length ∧ ¬ pm_ty (L.getD (5 - 1) pm_U) = 1 then fr S d (37, 22, L.set 5 v, r) M else none := (fr_eq S (d) (37, 20, L, v :: r) M).trans (x_ost _ _ 2 5 37 22 L r v M)
theorem f37_22 (S : pm_S) (d : Nat) (L : List Value) (st : List Value) (M : pm_M) : fr S (d) (37, 22, L, st) M = if pm_ty (L.getD 5 pm_U) = 2 then fr S d (37, 24, L, L.getD 5 pm_U :: st) M else none := (fr_eq S (d) (37, 22, L, st) M).trans (x_old _ _ 2 5 37 24 L st M)
theorem f37_24 (S : pm_S) (d : Nat) (L : List Value) (v : Value) (r : List Value) (M : pm_M) : fr S (d) (37, 24, L, v :: r) M = if pm_ty v = 2 then (if v = .null then fr S d (37, 53, L, r) M else fr S d (37, 27, L, r) M) else none := (fr_eq S (d) (37, 24, L, v :: r) M).trans (x_onu _ _ 53 27 37 L r v M)
theorem f37_27 (S : pm_S) (d : Nat) (L : List Value) (st : List Value) (M : pm_M) : fr S (d) (37, 27, L, st) M = if pm_ty (L.getD 5 pm_U) = 2 then fr S d (37, 29, L, L.getD 5 pm_U :: st) M else none := (fr_eq S (d) (37, 27, L, st) M).trans (x_old _ _ 2 5 37 29 L st M)
theorem f37_29 (S : pm_S) (d : Nat) (L : List Value) (st : List Value) (M : pm_M) : fr S (d + 1) (37, 29, L, st) M = match pm_ag 1 [] st with
  | some (a, r) => if r.length ≤ 4 ∧ (1 = 0 ∨ pm_obj M 1 (a.headD pm_U) = true) then (match fr S d (64, 0, a ++ [], []) M with
    | none => none
    | some (.inl v, M') => fr S (d + 1) (37, 32, L, v.toList ++ r) M'
    | some (.inr E, M') => some (.inr E, M')) else none
  | none => none := (fr_eq S (d + 1) (37, 29, L, st) M).trans (x_ocl _ _ 1 64 1 1 [] 37 32 L st M)
theorem f37_32 (S : pm_S) (d : Nat) (L : List Value) (x : Int32) (r : List Value) (M : pm_M) : fr S (d) (37, 32, L, .int x :: r) M = if x = 0 then fr S d (37, 53, L, r) M else fr S d (37, 35, L, r) M := (fr_eq S (d) (37, 32, L, .int x :: r) M).trans (x_oc1eq _ _ 37 35 53 L r x M)
theorem f37_35 (S : pm_S) (d : Nat) (L : List Value) (st : List Value) (M : pm_M) : fr S (d) (37, 35, L, st) M = if pm_ty (L.getD 5 pm_U) = 2 then fr S d (37, 37, L, L.getD 5 pm_U :: st) M else none := (fr_eq S (d) (37, 35, L, st) M).trans (x_old _ _ 2 5 37 37 L st M)
theorem f37_37 (S : pm_S) (d : Nat) (L : List Value) (st : List Value) (M : pm_M) : fr S (d) (37, 37, L, st) M = if pm_ty (L.getD 1 pm_U) = 0 then fr S d (37, 38, L, L.getD 1 pm_U :: st) M else none := (fr_eq S (d) (37, 37, L, st) M).trans (x_old _ _ 0 1 37 38 L st M)
theorem f37_38 (S : pm_S) (d : Nat) (L : List Value) (st : List Value) (M : pm_M) : fr S (d) (37, 38, L, st) M = if pm_ty (L.getD 2 pm_U) = 0 then fr S d (37, 39, L, L.getD 2 pm_U :: st) M else none := (fr_eq S (d) (37, 38, L, st) M).trans (x_old _ _ 0 2 37 39 L st M)
theorem f37_39 (S : pm_S) (d : Nat) (L : List Value) (st : List Value) (M : pm_M) : fr S (d + 1) (37, 39, L, st) M = match pm_ag 3 [] st with
  | some (a, r) => if r.length ≤ 4 ∧ (1 = 0 ∨ pm_obj M 1 (a.headD pm_U) = true) then (match fr S d (68, 0, a ++ [], []) M with
    | none => none
    | some (.inl v, M') => fr S (d + 1) (37, 42, L, v.toList ++ r) M'
    | some (.inr E, M') => some (.inr E, M')) else none
  | none => none := (fr_eq S (d + 1) (37, 39, L, st) M).trans (x_ocl _ _ 1 68 3 1 [] 37 42 L st M)
theorem f37_42 (S : pm_S) (d : Nat) (L : List Value) (x : Int32) (r : List Value) (M : pm_M) : fr S (d) (37, 42, L, .int x :: r) M = if x = 0 then fr S d (37, 53, L, r) M else fr S d (37, 45, L, r) M := (fr_eq S (d) (37, 42, L, .int x :: r) M).trans (x_oc1eq _ _ 37 45 53 L r x M)
theorem f37_45 (S : pm_S) (d : Nat) (L : List Value) (st : List Value) (M : pm_M) : fr S (d) (37, 45, L, st) M = if pm_ty (L.getD 3 pm_U) = 0 then fr S d (37, 46, L, L.getD 3 pm_U :: st) M else none := (fr_eq S (d) (37, 45, L, st) M).trans (x_old _ _ 0 3 37 46 L st M)
theorem f37_46 (S : pm_S) (d : Nat) (L : List Value) (st : List Value) (M : pm_M) : fr S (d) (37, 46, L, st) M = if pm_ty (L.getD 5 pm_U) = 2 then fr S d (37, 48, L, L.getD 5 pm_U :: st) M else none := (fr_eq S (d) (37, 46, L, st) M).trans (x_old _ _ 2 5 37 48 L st M)
theorem f37_48 (S : pm_S) (d : Nat) (L : List Value) (q : Nat) (r : List Value) (M : pm_M) : fr S (d) (37, 48, L, .ref q :: r) M = match pm_get M q with
  | some (.inr (c, fs)) => if c = 1 ∧ 2 < fs.length then fr S d (37, 51, L, fs.getD 2 pm_U :: r) M else none
  | _ => none := (fr_eq S (d) (37, 48, L, .ref q :: r) M).trans (x_ogf _ _ 1 2 37 51 L r q M)
theorem f37_51 (S : pm_S) (d : Nat) (L : List Value) (x y : Int32) (r : List Value) (M : pm_M) : fr S (d) (37, 51, L, .int y :: .int x :: r) M = fr S d (37, 52, L, .int (x + y) :: r) M := (fr_eq S (d) (37, 51, L, .int y :: .int x :: r) M).trans (x_oii _ _ (fun x y => x + y) 37 52 L r x y M)
theorem f37_52 (S : pm_S) (d : Nat) (L : List Value) (v : Value) (r : List Value) (M : pm_M) : fr S (d) (37, 52, L, v :: r) M = if pm_ty v = 0 ∧ 3 < L.length ∧ ¬ pm_ty (L.getD (3 - 1) pm_U) = 1 then fr S d (37, 53, L.set 3 v, r) M else none := (fr_eq S (d) (37, 52, L, v :: r) M).trans (x_ost _ _ 0 3 37 53 L r v M)
theorem f37_53 (S : pm_S) (d : Nat) (L : List Value) (st : List Value) (M : pm_M) : fr S (d) (37, 53, L, st) M = match L.getD 4 pm_U with
  | .int x => if 4 < L.length ∧ ¬ pm_ty (L.getD (4 - 1) pm_U) = 1 then fr S d (37, 56, L.set 4 (.int (x + 1)), st) M else none
  | _ => none := (fr_eq S (d) (37, 53, L, st) M).trans (x_oinc _ _ 4 1 37 56 L st M)
theorem f37_56 (S : pm_S) (d : Nat) (L : List Value) (st : List Value) (M : pm_M) : fr S (d) (37, 56, L, st) M = fr S d (37, 5, L, st) M := (fr_eq S (d) (37, 56, L, st) M).trans (x_ogo _ _ 37 5 L st M)
theorem f37_59 (S : pm_S) (d : Nat) (L : List Value) (st : List Value) (M : pm_M) : fr S (d) (37, 59, L, st) M = if pm_ty (L.getD 3 pm_U) = 0 then fr S d (37, 60, L, L.getD 3 pm_U :: st) M else none := (fr_eq S (d) (37, 59, L, st) M).trans (x_old _ _ 0 3 37 60 L st M)
theorem f37_60 (S : pm_S) (d : Nat) (L : List Value) (v : Value) (M : pm_M) : fr S (d) (37, 60, L, [v]) M = if pm_fit 0 v = true then some (.inl (some v), M) else none := (fr_eq S (d) (37, 60, L, [v]) M).trans (x_ort _ _ 0 v M)
theorem f38_0 (S : pm_S) (d : Nat) (L : List Value) (st : List Value) (M : pm_M) : fr S (d) (38, 0, L, st) M = fr S d (38, 1, L, .int 0 :: st) M := (fr_eq S (d) (38, 0, L, st) M).trans (x_ocs _ _ (.int 0) 38 1 L st M)
theorem f38_1 (S : pm_S) (d : Nat) (L : List Value) (v : Value) (r : List Value) (M : pm_M) : fr S (d) (38, 1, L, v :: r) M = if pm_ty v = 0 ∧ 2 < L.length ∧ ¬ pm_ty (L.getD (2 - 1) pm_U) = 1 then fr S d (38, 2, L.set 2 v, r) M else none := (fr_eq S (d) (38, 1, L, v :: r) M).trans (x_ost _ _ 0 2 38 2 L r v M)
theorem f38_2 (S : pm_S) (d : Nat) (L : List Value) (st : List Value) (M : pm_M) : fr S (d) (38, 2, L, st) M = fr S d (38, 3, L, .int 1 :: st) M := (fr_eq S (d) (38, 2, L, st) M).trans (x_ocs _ _ (.int 1) 38 3 L st M)
theorem f38_3 (S : pm_S) (d : Nat) (L : List Value) (v : Value) (r : List Value) (M : pm_M) : fr S (d) (38, 3, L, v :: r) M = if pm_ty v = 0 ∧ 3 < L.length ∧ ¬ pm_ty (L.getD (3 - 1) pm_U) = 1 then fr S d (38, 4, L.set 3 v, r) M else none := (fr_eq S (d) (38, 3, L, v :: r) M).trans (x_ost _ _ 0 3 38 4 L r v M)
theorem f38_4 (S : pm_S) (d : Nat) (L : List Value) (st : List Value) (M : pm_M) : fr S (d) (38, 4, L, st) M = if pm_ty (L.getD 3 pm_U) = 0 then fr S d (38, 5, L, L.getD 3 pm_U :: st) M else none := (fr_eq S (d) (38, 4, L, st) M).trans (x_old _ _ 0 3 38 5 L st M)
theorem f38_5 (S : pm_S) (d : Nat) (L : List Value) (st : List Value) (M : pm_M) : fr S (d) (38, 5, L, st) M = fr S d (38, 7, L, .int 7 :: st) M := (fr_eq S (d) (38, 5, L, st) M).trans (x_ocs _ _ (.int 7) 38 7 L st M)
theorem f38_7 (S : pm_S) (d : Nat) (L : List Value) (x y : Int32) (r : List Value) (M : pm_M) : fr S (d) (38, 7, L, .int y :: .int x :: r) M = if y < x then fr S d (38, 28, L, r) M else fr S d (38, 10, L, r) M := (fr_eq S (d) (38, 7, L, .int y :: .int x :: r) M).trans (x_oc2gt _ _ 38 10 28 L r x y M)
theorem f38_10 (S : pm_S) (d : Nat) (L : List Value) (st : List Value) (M : pm_M) : fr S (d) (38, 10, L, st) M = if pm_ty (L.getD 0 pm_U) = 2 then fr S d (38, 11, L, L.getD 0 pm_U :: st) M else none := (fr_eq S (d) (38, 10, L, st) M).trans (x_old _ _ 2 0 38 11 L st M)
theorem f38_11 (S : pm_S) (d : Nat) (L : List Value) (st : List Value) (M : pm_M) : fr S (d) (38, 11, L, st) M = if pm_ty (L.getD 1 pm_U) = 2 then fr S d (38, 12, L, L.getD 1 pm_U :: st) M else none := (fr_eq S (d) (38, 11, L, st) M).trans (x_old _ _ 2 1 38 12 L st M)
theorem f38_12 (S : pm_S) (d : Nat) (L : List Value) (st : List Value) (M : pm_M) : fr S (d) (38, 12, L, st) M = if pm_ty (L.getD 3 pm_U) = 0 then fr S d (38, 13, L, L.getD 3 pm_U :: st) M else none := (fr_eq S (d) (38, 12, L, st) M).trans (x_old _ _ 0 3 38 13 L st M)
theorem f38_13 (S : pm_S) (d : Nat) (L : List Value) (st : List Value) (M : pm_M) : fr S (d + 1) (38, 13, L, st) M = match pm_ag 3 [] st with
  | some (a, r) => if r.length ≤ 4 ∧ (1 = 0 ∨ pm_obj M 0 (a.headD pm_U) = true) then (match fr S d (41, 0, a ++ [], []) M with
    | none => none
    | some (.inl v, M') => fr S (d + 1) (38, 16, L, v.toList ++ r) M'
    | some (.inr E, M') => some (.inr E, M')) else none
  | none => none := (fr_eq S (d + 1) (38, 13, L, st) M).trans (x_ocl _ _ 1 41 3 0 [] 38 16 L st M)
theorem f38_16 (S : pm_S) (d : Nat) (L : List Value) (x : Int32) (r : List Value) (M : pm_M) : fr S (d) (38, 16, L, .int x :: r) M = if x = 0 then fr S d (38, 22, L, r) M else fr S d (38, 19, L, r) M := (fr_eq S (d) (38, 16, L, .int x :: r) M).trans (x_oc1eq _ _ 38 19 22 L r x M)
theorem f38_19 (S : pm_S) (d : Nat) (L : List Value) (st : List Value) (M : pm_M) : fr S (d) (38, 19, L, st) M = match L.getD 2 pm_U with
  | .int x => if 2 < L.length ∧ ¬ pm_ty (L.getD (2 - 1) pm_U) = 1 then fr S d (38, 22, L.set 2 (.int (x + 1)), st) M else none
  | _ => none := (fr_eq S (d) (38, 19, L, st) M).trans (x_oinc _ _ 2 1 38 22 L st M)
theorem f38_22 (S : pm_S) (d : Nat) (L : List Value) (st : List Value) (M : pm_M) : fr S (d) (38, 22, L, st) M = match L.getD 3 pm_U with
  | .int x => if 3 < L.length ∧ ¬ pm_ty (L.getD (3 - 1) pm_U) = 1 then fr S d (38, 25, L.set 3 (.int (x + 1)), st) M else none
  | _ => none := (fr_eq S (d) (38, 22, L, st) M).trans (x_oinc _ _ 3 1 38 25 L st M)
theorem f38_25 (S : pm_S) (d : Nat) (L : List Value) (st : List Value) (M : pm_M) : fr S (d) (38, 25, L, st) M = fr S d (38, 4, L, st) M := (fr_eq S (d) (38, 25, L, st) M).trans (x_ogo _ _ 38 4 L st M)
theorem f38_28 (S : pm_S) (d : Nat) (L : List Value) (st : List Value) (M : pm_M) : fr S (d) (38, 28, L, st) M = if pm_ty (L.getD 2 pm_U) = 0 then fr S d (38, 29, L, L.getD 2 pm_U :: st) M else none := (fr_eq S (d) (38, 28, L, st) M).trans (x_old _ _ 0 2 38 29 L st M)
theorem f38_29 (S : pm_S) (d : Nat) (L : List Value) (v : Value) (M : pm_M) : fr S (d) (38, 29, L, [v]) M = if pm_fit 0 v = true then some (.inl (some v), M) else none := (fr_eq S (d) (38, 29, L, [v]) M).trans (x_ort _ _ 0 v M)
theorem f39_0 (S : pm_S) (d : Nat) (L : List Value) (st : List Value) (M : pm_M) : fr S (d) (39, 0, L, st) M = if pm_ty (L.getD 3 pm_U) = 0 then fr S d (39, 1, L, L.getD 3 pm_U :: st) M else none := (fr_eq S (d) (39, 0, L, st) M).trans (x_old _ _ 0 3 39 1 L st M)
theorem f39_1 (S : pm_S) (d : Nat) (L : List Value) (x : Int32) (r : List Value) (M : pm_M) : fr S (d) (39, 1, L, .int x :: r) M = if x.toInt < 0 ∨ 0 + (([32, 39, 44, 49] : List Nat).length : Int) ≤ x.toInt then fr S d (39, 54, L, r) M else fr S d (39, ([32, 39, 44, 49] : List Nat).getD (x.toInt - 0).toNat 54, L, r) M := (fr_eq S (d) (39, 1, L, .int x :: r) M).trans (x_ots _ _ 54 0 [32, 39, 44, 49] 39 L r x M)
theorem f39_32 (S : pm_S) (d : Nat) (L : List Value) (st : List Value) (M : pm_M) : fr S (d) (39, 32, L, st) M = if pm_ty (L.getD 0 pm_U) = 2 then fr S d (39, 33, L, L.getD 0 pm_U :: st) M else none := (fr_eq S (d) (39, 32, L, st) M).trans (x_old _ _ 2 0 39 33 L st M)
theorem f39_33 (S : pm_S) (d : Nat) (L : List Value) (st : List Value) (M : pm_M) : fr S (d) (39, 33, L, st) M = if pm_ty (L.getD 1 pm_U) = 2 then fr S d (39, 34, L, L.getD 1 pm_U :: st) M else none := (fr_eq S (d) (39, 33, L, st) M).trans (x_old _ _ 2 1 39 34 L st M)
theorem f39_34 (S : pm_S) (d : Nat) (L : List Value) (st : List Value) (M : pm_M) : fr S (d) (39, 34, L, st) M = if pm_ty (L.getD 2 pm_U) = 0 then fr S d (39, 35, L, L.getD 2 pm_U :: st) M else none := (fr_eq S (d) (39, 34, L, st) M).trans (x_old _ _ 0 2 39 35 L st M)
theorem f39_35 (S : pm_S) (d : Nat) (L : List Value) (st : List Value) (M : pm_M) : fr S (d + 1) (39, 35, L, st) M = match pm_ag 3 [] st with
  | some (a, r) => if r.length ≤ 4 ∧ (1 = 0 ∨ pm_obj M 0 (a.headD pm_U) = true) then (match fr S d (40, 0, a ++ [pm_U, pm_U], []) M with
    | none => none
    | some (.inl v, M') => fr S (d + 1) (39, 38, L, v.toList ++ r) M'
    | some (.inr E, M') => some (.inr E, M')) else none
  | none => none := (fr_eq S (d + 1) (39, 35, L, st) M).trans (x_ocl _ _ 1 40 3 0 [pm_U, pm_U] 39 38 L st M)
theorem f39_38 (S : pm_S) (d : Nat) (L : List Value) (v : Value) (M : pm_M) : fr S (d) (39, 38, L, [v]) M = if pm_fit 0 v = true then some (.inl (some v), M) else none := (fr_eq S (d) (39, 38, L, [v]) M).trans (x_ort _ _ 0 v M)
theorem f39_39 (S : pm_S) (d : Nat) (L : List Value) (st : List Value) (M : pm_M) : fr S (d) (39, 39, L, st) M = if pm_ty (L.getD 1 pm_U) = 2 then fr S d (39, 40, L, L.getD 1 pm_U :: st) M else none := (fr_eq S (d) (39, 39, L, st) M).trans (x_old _ _ 2 1 39 40 L st M)
theorem f39_40 (S : pm_S) (d : Nat) (L : List Value) (q : Nat) (r : List Value) (M : pm_M) : fr S (d) (39, 40, L, .ref q :: r) M = match pm_get M q with
  | some (.inr (c, fs)) => if c = 1 ∧ 0 < fs.length then fr S d (39, 43, L, fs.getD 0 pm_U :: r) M else none
  | _ => none := (fr_eq S (d) (39, 40, L, .ref q :: r) M).trans (x_ogf _ _ 1 0 39 43 L r q M)
theorem f39_43 (S : pm_S) (d : Nat) (L : List Value) (v : Value) (M : pm_M) : fr S (d) (39, 43, L, [v]) M = if pm_fit 0 v = true then some (.inl (some v), M) else none := (fr_eq S (d) (39, 43, L, [v]) M).trans (x_ort _ _ 0 v M)
theorem f39_44 (S : pm_S) (d : Nat) (L : List Value) (st : List Value) (M : pm_M) : fr S (d) (39, 44, L, st) M = if pm_ty (L.getD 1 pm_U) = 2 then fr S d (39, 45, L, L.getD 1 pm_U :: st) M else none := (fr_eq S (d) (39, 44, L, st) M).trans (x_old _ _ 2 1 39 45 L st M)
theorem f39_45 (S : pm_S) (d : Nat) (L : List Value) (q : Nat) (r : List Value) (M : pm_M) : fr S (d) (39, 45, L, .ref q :: r) M = match pm_get M q with
  | some (.inr (c, fs)) => if c = 1 ∧ 5 < fs.length then fr S d (39, 48, L, fs.getD 5 pm_U :: r) M else none
  | _ => none := (fr_eq S (d) (39, 45, L, .ref q :: r) M).trans (x_ogf _ _ 1 5 39 48 L r q M)
theorem f39_48 (S : pm_S) (d : Nat) (L : List Value) (v : Value) (M : pm_M) : fr S (d) (39, 48, L, [v]) M = if pm_fit 0 v = true then some (.inl (some v), M) else none := (fr_eq S (d) (39, 48, L, [v]) M).trans (x_ort _ _ 0 v M)
theorem f39_49 (S : pm_S) (d : Nat) (L : List Value) (st : List Value) (M : pm_M) : fr S (d) (39, 49, L, st) M = if pm_ty (L.getD 1 pm_U) = 2 then fr S d (39, 50, L, L.getD 1 pm_U :: st) M else none := (fr_eq S (d) (39, 49, L, st) M).trans (x_old _ _ 2 1 39 50 L st M)
theorem f39_50 (S : pm_S) (d : Nat) (L : List Value) (q : Nat) (r : List Value) (M : pm_M) : fr S (d) (39, 50, L, .ref q :: r) M = match pm_get M q with
  | some (.inr (c, fs)) => if c = 1 ∧ 6 < fs.length then fr S d (39, 53, L, fs.getD 6 pm_U :: r) M else none
  | _ => none := (fr_eq S (d) (39, 50, L, .ref q :: r) M).trans (x_ogf _ _ 1 6 39 53 L r q M)
theorem f39_53 (S : pm_S) (d : Nat) (L : List Value) (v : Value) (M : pm_M) : fr S (d) (39, 53, L, [v]) M = if pm_fit 0 v = true then some (.inl (some v), M) else none := (fr_eq S (d) (39, 53, L, [v]) M).trans (x_ort _ _ 0 v M)
theorem f39_54 (S : pm_S) (d : Nat) (L : List Value) (st : List Value) (M : pm_M) : fr S (d) (39, 54, L, st) M = if pm_ty (L.getD 1 pm_U) = 2 then fr S d (39, 55, L, L.getD 1 pm_U :: st) M else none := (fr_eq S (d) (39, 54, L, st) M).trans (x_old _ _ 2 1 39 55 L st M)
theorem f39_55 (S : pm_S) (d : Nat) (L : List Value) (q : Nat) (r : List Value) (M : pm_M) : fr S (d) (39, 55, L, .ref q :: r) M = match pm_get M q with
  | some (.inr (c, fs)) => if c = 1 ∧ 7 < fs.length then fr S d (39, 58, L, fs.getD 7 pm_U :: r) M else none
  | _ => none := (fr_eq S (d) (39, 55, L, .ref q :: r) M).trans (x_ogf _ _ 1 7 39 58 L r q M)
theorem f39_58 (S : pm_S) (d : Nat) (L : List Value) (v : Value) (M : pm_M) : fr S (d) (39, 58, L, [v]) M = if pm_fit 0 v = true then some (.inl (some v), M) else none := (fr_eq S (d) (39, 58, L, [v]) M).trans (x_ort _ _ 0 v M)
theorem f40_0 (S : pm_S) (d : Nat) (L : List Value) (st : List Value) (M : pm_M) : fr S (d) (40, 0, L, st) M = if pm_ty (L.getD 2 pm_U) = 0 then fr S d (40, 1, L, L.getD 2 pm_U :: st) M else none := (fr_eq S (d) (40, 0, L, st) M).trans (x_old _ _ 0 2 40 1 L st M)
theorem f40_1 (S : pm_S) (d : Nat) (L : List Value) (v : Value) (r : List Value) (M : pm_M) : fr S (d) (40, 1, L, v :: r) M = if pm_ty v = 0 ∧ 3 < L.length ∧ ¬ pm_ty (L.getD (3 - 1) pm_U) = 1 then fr S d (40, 2, L.set 3 v, r) M else none := (fr_eq S (d) (40, 1, L, v :: r) M).trans (x_ost _ _ 0 3 40 2 L r v M)
theorem f40_2 (S : pm_S) (d : Nat) (L : List Value) (st : List Value) (M : pm_M) : fr S (d) (40, 2, L, st) M = fr S d (40, 3, L, .int 1 :: st) M := (fr_eq S (d) (40, 2, L, st) M).trans (x_ocs _ _ (.int 1) 40 3 L st M)
theorem f40_3 (S : pm_S) (d : Nat) (L : List Value) (v : Value) (r : List Value) (M : pm_M) : fr S (d) (40, 3, L, v :: r) M = if pm_ty v = 0 ∧ 4 < L.length ∧ ¬ pm_ty (L.getD (4 - 1) pm_U) = 1 then fr S d (40, 5, L.set 4 v, r) M else none := (fr_eq S (d) (40, 3, L, v :: r) M).trans (x_ost _ _ 0 4 40 5 L r v M)
theorem f40_5 (S : pm_S) (d : Nat) (L : List Value) (st : List Value) (M : pm_M) : fr S (d) (40, 5, L, st) M = if pm_ty (L.getD 4 pm_U) = 0 then fr S d (40, 7, L, L.getD 4 pm_U :: st) M else none := (fr_eq S (d) (40, 5, L, st) M).trans (x_old _ _ 0 4 40 7 L st M)
theorem f40_7 (S : pm_S) (d : Nat) (L : List Value) (st : List Value) (M : pm_M) : fr S (d) (40, 7, L, st) M = fr S d (40, 9, L, .int 7 :: st) M := (fr_eq S (d) (40, 7, L, st) M).trans (x_ocs _ _ (.int 7) 40 9 L st M)
theorem f40_9 (S : pm_S) (d : Nat) (L : List Value) (x y : Int32) (r : List Value) (M : pm_M) : fr S (d) (40, 9, L, .int y :: .int x :: r) M = if y < x then fr S d (40, 38, L, r) M else fr S d (40, 12, L, r) M := (fr_eq S (d) (40, 9, L, .int y :: .int x :: r) M).trans (x_oc2gt _ _ 40 12 38 L r x y M)
theorem f40_12 (S : pm_S) (d : Nat) (L : List Value) (st : List Value) (M : pm_M) : fr S (d) (40, 12, L, st) M = if pm_ty (L.getD 0 pm_U) = 2 then fr S d (40, 13, L, L.getD 0 pm_U :: st) M else none := (fr_eq S (d) (40, 12, L, st) M).trans (x_old _ _ 2 0 40 13 L st M)
theorem f40_13 (S : pm_S) (d : Nat) (L : List Value) (st : List Value) (M : pm_M) : fr S (d) (40, 13, L, st) M = if pm_ty (L.getD 1 pm_U) = 2 then fr S d (40, 14, L, L.getD 1 pm_U :: st) M else none := (fr_eq S (d) (40, 13, L, st) M).trans (x_old _ _ 2 1 40 14 L st M)
theorem f40_14 (S : pm_S) (d : Nat) (L : List Value) (st : List Value) (M : pm_M) : fr S (d) (40, 14, L, st) M = if pm_ty (L.getD 4 pm_U) = 0 then fr S d (40, 16, L, L.getD 4 pm_U :: st) M else none := (fr_eq S (d) (40, 14, L, st) M).trans (x_old _ _ 0 4 40 16 L st M)
theorem f40_16 (S : pm_S) (d : Nat) (L : List Value) (st : List Value) (M : pm_M) : fr S (d + 1) (40, 16, L, st) M = match pm_ag 3 [] st with
  | some (a, r) => if r.length ≤ 4 ∧ (1 = 0 ∨ pm_obj M 0 (a.headD pm_U) = true) then (match fr S d (41, 0, a ++ [], []) M with
    | none => none
    | some (.inl v, M') => fr S (d + 1) (40, 19, L, v.toList ++ r) M'
    | some (.inr E, M') => some (.inr E, M')) else none
  | none => none := (fr_eq S (d + 1) (40, 16, L, st) M).trans (x_ocl _ _ 1 41 3 0 [] 40 19 L st M)
theorem f40_19 (S : pm_S) (d : Nat) (L : List Value) (x : Int32) (r : List Value) (M : pm_M) : fr S (d) (40, 19, L, .int x :: r) M = if x = 0 then fr S d (40, 32, L, r) M else fr S d (40, 22, L, r) M := (fr_eq S (d) (40, 19, L, .int x :: r) M).trans (x_oc1eq _ _ 40 22 32 L r x M)
theorem f40_22 (S : pm_S) (d : Nat) (L : List Value) (st : List Value) (M : pm_M) : fr S (d) (40, 22, L, st) M = if pm_ty (L.getD 3 pm_U) = 0 then fr S d (40, 23, L, L.getD 3 pm_U :: st) M else none := (fr_eq S (d) (40, 22, L, st) M).trans (x_old _ _ 0 3 40 23 L st M)
theorem f40_23 (S : pm_S) (d : Nat) (L : List Value) (x : Int32) (r : List Value) (M : pm_M) : fr S (d) (40, 23, L, .int x :: r) M = if ¬ x = 0 then fr S d (40, 29, L, r) M else fr S d (40, 26, L, r) M := (fr_eq S (d) (40, 23, L, .int x :: r) M).trans (x_oc1ne _ _ 40 26 29 L r x M)
theorem f40_26 (S : pm_S) (d : Nat) (L : List Value) (st : List Value) (M : pm_M) : fr S (d) (40, 26, L, st) M = if pm_ty (L.getD 4 pm_U) = 0 then fr S d (40, 28, L, L.getD 4 pm_U :: st) M else none := (fr_eq S (d) (40, 26, L, st) M).trans (x_old _ _ 0 4 40 28 L st M)
theorem f40_28 (S : pm_S) (d : Nat) (L : List Value) (v : Value) (M : pm_M) : fr S (d) (40, 28, L, [v]) M = if pm_fit 0 v = true then some (.inl (some v), M) else none := (fr_eq S (d) (40, 28, L, [v]) M).trans (x_ort _ _ 0 v M)
theorem f40_29 (S : pm_S) (d : Nat) (L : List Value) (st : List Value) (M : pm_M) : fr S (d) (40, 29, L, st) M = match L.getD 3 pm_U with
  | .int x => if 3 < L.length ∧ ¬ pm_ty (L.getD (3 - 1) pm_U) = 1 then fr S d (40, 32, L.set 3 (.int (x + (-1))), st) M else none
  | _ => none := (fr_eq S (d) (40, 29, L, st) M).trans (x_oinc _ _ 3 (-1) 40 32 L st M)
theorem f40_32 (S : pm_S) (d : Nat) (L : List Value) (st : List Value) (M : pm_M) : fr S (d) (40, 32, L, st) M = match L.getD 4 pm_U with
  | .int x => if 4 < L.length ∧ ¬ pm_ty (L.getD (4 - 1) pm_U) = 1 then fr S d (40, 35, L.set 4 (.int (x + 1)), st) M else none
  | _ => none := (fr_eq S (d) (40, 32, L, st) M).trans (x_oinc _ _ 4 1 40 35 L st M)
theorem f40_35 (S : pm_S) (d : Nat) (L : List Value) (st : List Value) (M : pm_M) : fr S (d) (40, 35, L, st) M = fr S d (40, 5, L, st) M := (fr_eq S (d) (40, 35, L, st) M).trans (x_ogo _ _ 40 5 L st M)
theorem f40_38 (S : pm_S) (d : Nat) (L : List Value) (st : List Value) (M : pm_M) : fr S (d) (40, 38, L, st) M = fr S d (40, 39, L, .int (-1) :: st) M := (fr_eq S (d) (40, 38, L, st) M).trans (x_ocs _ _ (.int (-1)) 40 39 L st M)
theorem f40_39 (S : pm_S) (d : Nat) (L : List Value) (v : Value) (M : pm_M) : fr S (d) (40, 39, L, [v]) M = if pm_fit 0 v = true then some (.inl (some v), M) else none := (fr_eq S (d) (40, 39, L, [v]) M).trans (x_ort _ _ 0 v M)
theorem f41_0 (S : pm_S) (d : Nat) (L : List Value) (st : List Value) (M : pm_M) : fr S (d) (41, 0, L, st) M = if pm_ty (L.getD 2 pm_U) = 0 then fr S d (41, 1, L, L.getD 2 pm_U :: st) M else none := (fr_eq S (d) (41, 0, L, st) M).trans (x_old _ _ 0 2 41 1 L st M)
theorem f41_1 (S : pm_S) (d : Nat) (L : List Value) (x : Int32) (r : List Value) (M : pm_M) : fr S (d) (41, 1, L, .int x :: r) M = if x.toInt < 1 ∨ 1 + (([44, 50, 56, 62, 68, 74, 80] : List Nat).length : Int) ≤ x.toInt then fr S d (41, 86, L, r) M else fr S d (41, ([44, 50, 56, 62, 68, 74, 80] : List Nat).getD (x.toInt - 1).toNat 86, L, r) M := (fr_eq S (d) (41, 1, L, .int x :: r) M).trans (x_ots _ _ 86 1 [44, 50, 56, 62, 68, 74, 80] 41 L r x M)
theorem f41_44 (S : pm_S) (d : Nat) (L : List Value) (st : List Value) (M : pm_M) : fr S (d) (41, 44, L, st) M = if pm_ty (L.getD 0 pm_U) = 2 then fr S d (41, 45, L, L.getD 0 pm_U :: st) M else none := (fr_eq S (d) (41, 44, L, st) M).trans (x_old _ _ 2 0 41 45 L st M)
theorem f41_45 (S : pm_S) (d : Nat) (L : List Value) (st : List Value) (M : pm_M) : fr S (d) (41, 45, L, st) M = if pm_ty (L.getD 1 pm_U) = 2 then fr S d (41, 46, L, L.getD 1 pm_U :: st) M else none := (fr_eq S (d) (41, 45, L, st) M).trans (x_old _ _ 2 1 41 46 L st M)
theorem f41_46 (S : pm_S) (d : Nat) (L : List Value) (st : List Value) (M : pm_M) : fr S (d + 1) (41, 46, L, st) M = match pm_ag 2 [] st with
  | some (a, r) => if r.length ≤ 4 ∧ (1 = 0 ∨ pm_obj M 0 (a.headD pm_U) = true) then (match fr S d (42, 0, a ++ [pm_U, pm_U], []) M with
    | none => none
    | some (.inl v, M') => fr S (d + 1) (41, 49, L, v.toList ++ r) M'
    | some (.inr E, M') => some (.inr E, M')) else none
  | none => none := (fr_eq S (d + 1) (41, 46, L, st) M).trans (x_ocl _ _ 1 42 2 0 [pm_U, pm_U] 41 49 L st M)
theorem f41_49 (S : pm_S) (d : Nat) (L : List Value) (v : Value) (M : pm_M) : fr S (d) (41, 49, L, [v]) M = if pm_fit 3 v = true then some (.inl (some v), M) else none := (fr_eq S (d) (41, 49, L, [v]) M).trans (x_ort _ _ 3 v M)
theorem f41_50 (S : pm_S) (d : Nat) (L : List Value) (st : List Value) (M : pm_M) : fr S (d) (41, 50, L, st) M = if pm_ty (L.getD 0 pm_U) = 2 then fr S d (41, 51, L, L.getD 0 pm_U :: st) M else none := (fr_eq S (d) (41, 50, L, st) M).trans (x_old _ _ 2 0 41 51 L st M)
theorem f41_51 (S : pm_S) (d : Nat) (L : List Value) (st : List Value) (M : pm_M) : fr S (d) (41, 51, L, st) M = if pm_ty (L.getD 1 pm_U) = 2 then fr S d (41, 52, L, L.getD 1 pm_U :: st) M else none := (fr_eq S (d) (41, 51, L, st) M).trans (x_old _ _ 2 1 41 52 L st M)
theorem f41_52 (S : pm_S) (d : Nat) (L : List Value) (st : List Value) (M : pm_M) : fr S (d + 1) (41, 52, L, st) M = match pm_ag 2 [] st with
  | some (a, r) => if r.length ≤ 4 ∧ (1 = 0 ∨ pm_obj M 0 (a.headD pm_U) = true) then (match fr S d (43, 0, a ++ [pm_U, pm_U], []) M with
    | none => none
    | some (.inl v, M') => fr S (d + 1) (41, 55, L, v.toList ++ r) M'
    | some (.inr E, M') => some (.inr E, M')) else none
  | none => none := (fr_eq S (d + 1) (41, 52, L, st) M).trans (x_ocl _ _ 1 43 2 0 [pm_U, pm_U] 41 55 L st M)
theorem f41_55 (S : pm_S) (d : Nat) (L : List Value) (v : Value) (M : pm_M) : fr S (d) (41, 55, L, [v]) M = if pm_fit 3 v = true then some (.inl (some v), M) else none := (fr_eq S (d) (41, 55, L, [v]) M).trans (x_ort _ _ 3 v M)
theorem f41_56 (S : pm_S) (d : Nat) (L : List Value) (st : List Value) (M : pm_M) : fr S (d) (41, 56, L, st) M = if pm_ty (L.getD 0 pm_U) = 2 then fr S d (41, 57, L, L.getD 0 pm_U :: st) M else none := (fr_eq S (d) (41, 56, L, st) M).trans (x_old _ _ 2 0 41 57 L st M)
theorem f41_57 (S : pm_S) (d : Nat) (L : List Value) (st : List Value) (M : pm_M) : fr S (d) (41, 57, L, st) M = if pm_ty (L.getD 1 pm_U) = 2 then fr S d (41, 58, L, L.getD 1 pm_U :: st) M else none := (fr_eq S (d) (41, 57, L, st) M).trans (x_old _ _ 2 1 41 58 L st M)
theorem f41_58 (S : pm_S) (d : Nat) (L : List Value) (st : List Value) (M : pm_M) : fr S (d + 1) (41, 58, L, st) M = match pm_ag 2 [] st with
  | some (a, r) => if r.length ≤ 4 ∧ (1 = 0 ∨ pm_obj M 0 (a.headD pm_U) = true) then (match fr S d (45, 0, a ++ [pm_U, pm_U], []) M with
    | none => none
    | some (.inl v, M') => fr S (d + 1) (41, 61, L, v.toList ++ r) M'
    | some (.inr E, M') => some (.inr E, M')) else none
  | none => none := (fr_eq S (d + 1) (41, 58, L, st) M).trans (x_ocl _ _ 1 45 2 0 [pm_U, pm_U] 41 61 L st M)
theorem f41_61 (S : pm_S) (d : Nat) (L : List Value) (v : Value) (M : pm_M) : fr S (d) (41, 61, L, [v]) M = if pm_fit 3 v = true then some (.inl (some v), M) else none := (fr_eq S (d) (41, 61, L, [v]) M).trans (x_ort _ _ 3 v M)
theorem f41_62 (S : pm_S) (d : Nat) (L : List Value) (st : List Value) (M : pm_M) : fr S (d) (41, 62, L, st) M = if pm_ty (L.getD 0 pm_U) = 2 then fr S d (41, 63, L, L.getD 0 pm_U :: st) M else none := (fr_eq S (d) (41, 62, L, st) M).trans (x_old _ _ 2 0 41 63 L st M)
theorem f41_63 (S : pm_S) (d : Nat) (L : List Value) (st : List Value) (M : pm_M) : fr S (d) (41, 63, L, st) M = if pm_ty (L.getD 1 pm_U) = 2 then fr S d (41, 64, L, L.getD 1 pm_U :: st) M else none := (fr_eq S (d) (41, 63, L, st) M).trans (x_old _ _ 2 1 41 64 L st M)
theorem f41_64 (S : pm_S) (d : Nat) (L : List Value) (st : List Value) (M : pm_M) : fr S (d + 1) (41, 64, L, st) M = match pm_ag 2 [] st with
  | some (a, r) => if r.length ≤ 4 ∧ (1 = 0 ∨ pm_obj M 0 (a.headD pm_U) = true) then (match fr S d (46, 0, a ++ [pm_U], []) M with
    | none => none
    | some (.inl v, M') => fr S (d + 1) (41, 67, L, v.toList ++ r) M'
    | some (.inr E, M') => some (.inr E, M')) else none
  | none => none := (fr_eq S (d + 1) (41, 64, L, st) M).trans (x_ocl _ _ 1 46 2 0 [pm_U] 41 67 L st M)
theorem f41_67 (S : pm_S) (d : Nat) (L : List Value) (v : Value) (M : pm_M) : fr S (d) (41, 67, L, [v]) M = if pm_fit 3 v = true then some (.inl (some v), M) else none := (fr_eq S (d) (41, 67, L, [v]) M).trans (x_ort _ _ 3 v M)
theorem f41_68 (S : pm_S) (d : Nat) (L : List Value) (st : List Value) (M : pm_M) : fr S (d) (41, 68, L, st) M = if pm_ty (L.getD 0 pm_U) = 2 then fr S d (41, 69, L, L.getD 0 pm_U :: st) M else none := (fr_eq S (d) (41, 68, L, st) M).trans (x_old _ _ 2 0 41 69 L st M)
theorem f41_69 (S : pm_S) (d : Nat) (L : List Value) (st : List Value) (M : pm_M) : fr S (d) (41, 69, L, st) M = if pm_ty (L.getD 1 pm_U) = 2 then fr S d (41, 70, L, L.getD 1 pm_U :: st) M else none := (fr_eq S (d) (41, 69, L, st) M).trans (x_old _ _ 2 1 41 70 L st M)
theorem f41_70 (S : pm_S) (d : Nat) (L : List Value) (st : List Value) (M : pm_M) : fr S (d + 1) (41, 70, L, st) M = match pm_ag 2 [] st with
  | some (a, r) => if r.length ≤ 4 ∧ (1 = 0 ∨ pm_obj M 0 (a.headD pm_U) = true) then (match fr S d (47, 0, a ++ [], []) M with
    | none => none
    | some (.inl v, M') => fr S (d + 1) (41, 73, L, v.toList ++ r) M'
    | some (.inr E, M') => some (.inr E, M')) else none
  | none => none := (fr_eq S (d + 1) (41, 70, L, st) M).trans (x_ocl _ _ 1 47 2 0 [] 41 73 L st M)
theorem f41_73 (S : pm_S) (d : Nat) (L : List Value) (v : Value) (M : pm_M) : fr S (d) (41, 73, L, [v]) M = if pm_fit 3 v = true then some (.inl (some v), M) else none := (fr_eq S (d) (41, 73, L, [v]) M).trans (x_ort _ _ 3 v M)
theorem f41_74 (S : pm_S) (d : Nat) (L : List Value) (st : List Value) (M : pm_M) : fr S (d) (41, 74, L, st) M = if pm_ty (L.getD 0 pm_U) = 2 then fr S d (41, 75, L, L.getD 0 pm_U :: st) M else none := (fr_eq S (d) (41, 74, L, st) M).trans (x_old _ _ 2 0 41 75 L st M)
theorem f41_75 (S : pm_S) (d : Nat) (L : List Value) (st : List Value) (M : pm_M) : fr S (d) (41, 75, L, st) M = if pm_ty (L.getD 1 pm_U) = 2 then fr S d (41, 76, L, L.getD 1 pm_U :: st) M else none := (fr_eq S (d) (41, 75, L, st) M).trans (x_old _ _ 2 1 41 76 L st M)
theorem f41_76 (S : pm_S) (d : Nat) (L : List Value) (st : List Value) (M : pm_M) : fr S (d + 1) (41, 76, L, st) M = match pm_ag 2 [] st with
  | some (a, r) => if r.length ≤ 4 ∧ (1 = 0 ∨ pm_obj M 0 (a.headD pm_U) = true) then (match fr S d (48, 0, a ++ [pm_U, pm_U], []) M with
    | none => none
    | some (.inl v, M') => fr S (d + 1) (41, 79, L, v.toList ++ r) M'
    | some (.inr E, M') => some (.inr E, M')) else none
  | none => none := (fr_eq S (d + 1) (41, 76, L, st) M).trans (x_ocl _ _ 1 48 2 0 [pm_U, pm_U] 41 79 L st M)
theorem f41_79 (S : pm_S) (d : Nat) (L : List Value) (v : Value) (M : pm_M) : fr S (d) (41, 79, L, [v]) M = if pm_fit 3 v = true then some (.inl (some v), M) else none := (fr_eq S (d) (41, 79, L, [v]) M).trans (x_ort _ _ 3 v M)
theorem f41_80 (S : pm_S) (d : Nat) (L : List Value) (st : List Value) (M : pm_M) : fr S (d) (41, 80, L, st) M = if pm_ty (L.getD 0 pm_U) = 2 then fr S d (41, 81, L, L.getD 0 pm_U :: st) M else none := (fr_eq S (d) (41, 80, L, st) M).trans (x_old _ _ 2 0 41 81 L st M)
theorem f41_81 (S : pm_S) (d : Nat) (L : List Value) (st : List Value) (M : pm_M) : fr S (d) (41, 81, L, st) M = if pm_ty (L.getD 1 pm_U) = 2 then fr S d (41, 82, L, L.getD 1 pm_U :: st) M else none := (fr_eq S (d) (41, 81, L, st) M).trans (x_old _ _ 2 1 41 82 L st M)
theorem f41_82 (S : pm_S) (d : Nat) (L : List Value) (st : List Value) (M : pm_M) : fr S (d + 1) (41, 82, L, st) M = match pm_ag 2 [] st with
  | some (a, r) => if r.length ≤ 4 ∧ (1 = 0 ∨ pm_obj M 0 (a.headD pm_U) = true) then (match fr S d (49, 0, a ++ [pm_U, pm_U, pm_U], []) M with
    | none => none
    | some (.inl v, M') => fr S (d + 1) (41, 85, L, v.toList ++ r) M'
    | some (.inr E, M') => some (.inr E, M')) else none
  | none => none := (fr_eq S (d + 1) (41, 82, L, st) M).trans (x_ocl _ _ 1 49 2 0 [pm_U, pm_U, pm_U] 41 85 L st M)
theorem f41_85 (S : pm_S) (d : Nat) (L : List Value) (v : Value) (M : pm_M) : fr S (d) (41, 85, L, [v]) M = if pm_fit 3 v = true then some (.inl (some v), M) else none := (fr_eq S (d) (41, 85, L, [v]) M).trans (x_ort _ _ 3 v M)
theorem f41_86 (S : pm_S) (d : Nat) (L : List Value) (st : List Value) (M : pm_M) : fr S (d) (41, 86, L, st) M = fr S d (41, 87, L, .int 0 :: st) M := (fr_eq S (d) (41, 86, L, st) M).trans (x_ocs _ _ (.int 0) 41 87 L st M)
theorem f41_87 (S : pm_S) (d : Nat) (L : List Value) (v : Value) (M : pm_M) : fr S (d) (41, 87, L, [v]) M = if pm_fit 3 v = true then some (.inl (some v), M) else none := (fr_eq S (d) (41, 87, L, [v]) M).trans (x_ort _ _ 3 v M)
theorem f42_0 (S : pm_S) (d : Nat) (L : List Value) (st : List Value) (M : pm_M) : fr S (d) (42, 0, L, st) M = if pm_ty (L.getD 1 pm_U) = 2 then fr S d (42, 1, L, L.getD 1 pm_U :: st) M else none := (fr_eq S (d) (42, 0, L, st) M).trans (x_old _ _ 2 1 42 1 L st M)
theorem f42_1 (S : pm_S) (d : Nat) (L : List Value) (q : Nat) (r : List Value) (M : pm_M) : fr S (d) (42, 1, L, .ref q :: r) M = match pm_get M q with
  | some (.inr (c, fs)) => if c = 1 ∧ 5 < fs.length then fr S d (42, 4, L, fs.getD 5 pm_U :: r) M else none
  | _ => none := (fr_eq S (d) (42, 1, L, .ref q :: r) M).trans (x_ogf _ _ 1 5 42 4 L r q M)
theorem f42_4 (S : pm_S) (d : Nat) (L : List Value) (v : Value) (r : List Value) (M : pm_M) : fr S (d) (42, 4, L, v :: r) M = if pm_ty v = 0 ∧ 2 < L.length ∧ ¬ pm_ty (L.getD (2 - 1) pm_U) = 1 then fr S d (42, 5, L.set 2 v, r) M else none := (fr_eq S (d) (42, 4, L, v :: r) M).trans (x_ost _ _ 0 2 42 5 L r v M)
theorem f42_5 (S : pm_S) (d : Nat) (L : List Value) (st : List Value) (M : pm_M) : fr S (d) (42, 5, L, st) M = if pm_ty (L.getD 2 pm_U) = 0 then fr S d (42, 6, L, L.getD 2 pm_U :: st) M else none := (fr_eq S (d) (42, 5, L, st) M).trans (x_old _ _ 0 2 42 6 L st M)
theorem f42_6 (S : pm_S) (d : Nat) (L : List Value) (st : List Value) (M : pm_M) : fr S (d) (42, 6, L, st) M = if pm_ty (L.getD 1 pm_U) = 2 then fr S d (42, 7, L, L.getD 1 pm_U :: st) M else none := (fr_eq S (d) (42, 6, L, st) M).trans (x_old _ _ 2 1 42 7 L st M)
theorem f42_7 (S : pm_S) (d : Nat) (L : List Value) (st : List Value) (M : pm_M) : fr S (d + 1) (42, 7, L, st) M = match pm_ag 1 [] st with
  | some (a, r) => if r.length ≤ 4 ∧ (1 = 0 ∨ pm_obj M 1 (a.headD pm_U) = true) then (match fr S d (62, 0, a ++ [], []) M with
    | none => none
    | some (.inl v, M') => fr S (d + 1) (42, 10, L, v.toList ++ r) M'
    | some (.inr E, M') => some (.inr E, M')) else none
  | none => none := (fr_eq S (d + 1) (42, 7, L, st) M).trans (x_ocl _ _ 1 62 1 1 [] 42 10 L st M)
theorem f42_10 (S : pm_S) (d : Nat) (L : List Value) (x y : Int32) (r : List Value) (M : pm_M) : fr S (d) (42, 10, L, .int y :: .int x :: r) M = if y < x then fr S d (42, 50, L, r) M else fr S d (42, 13, L, r) M := (fr_eq S (d) (42, 10, L, .int y :: .int x :: r) M).trans (x_oc2gt _ _ 42 13 50 L r x y M)
theorem f42_13 (S : pm_S) (d : Nat) (L : List Value) (st : List Value) (M : pm_M) : fr S (d) (42, 13, L, st) M = fr S d (42, 14, L, .int 0 :: st) M := (fr_eq S (d) (42, 13, L, st) M).trans (x_ocs _ _ (.int 0) 42 14 L st M)
theorem f42_14 (S : pm_S) (d : Nat) (L : List Value) (v : Value) (r : List Value) (M : pm_M) : fr S (d) (42, 14, L, v :: r) M = if pm_ty v = 0 ∧ 3 < L.length ∧ ¬ pm_ty (L.getD (3 - 1) pm_U) = 1 then fr S d (42, 15, L.set 3 v, r) M else none := (fr_eq S (d) (42, 14, L, v :: r) M).trans (x_ost _ _ 0 3 42 15 L r v M)
theorem f42_15 (S : pm_S) (d : Nat) (L : List Value) (st : List Value) (M : pm_M) : fr S (d) (42, 15, L, st) M = if pm_ty (L.getD 3 pm_U) = 0 then fr S d (42, 16, L, L.getD 3 pm_U :: st) M else none := (fr_eq S (d) (42, 15, L, st) M).trans (x_old _ _ 0 3 42 16 L st M)
theorem f42_16 (S : pm_S) (d : Nat) (L : List Value) (st : List Value) (M : pm_M) : fr S (d) (42, 16, L, st) M = if pm_ty (L.getD 1 pm_U) = 2 then fr S d (42, 17, L, L.getD 1 pm_U :: st) M else none := (fr_eq S (d) (42, 16, L, st) M).trans (x_old _ _ 2 1 42 17 L st M)
theorem f42_17 (S : pm_S) (d : Nat) (L : List Value) (q : Nat) (r : List Value) (M : pm_M) : fr S (d) (42, 17, L, .ref q :: r) M = match pm_get M q with
  | some (.inr (c, fs)) => if c = 1 ∧ 7 < fs.length then fr S d (42, 20, L, fs.getD 7 pm_U :: r) M else none
  | _ => none := (fr_eq S (d) (42, 17, L, .ref q :: r) M).trans (x_ogf _ _ 1 7 42 20 L r q M)
theorem f42_20 (S : pm_S) (d : Nat) (L : List Value) (x y : Int32) (r : List Value) (M : pm_M) : fr S (d) (42, 20, L, .int y :: .int x :: r) M = if y ≤ x then fr S d (42, 44, L, r) M else fr S d (42, 23, L, r) M := (fr_eq S (d) (42, 20, L, .int y :: .int x :: r) M).trans (x_oc2ge _ _ 42 23 44 L r x y M)
theorem f42_23 (S : pm_S) (d : Nat) (L : List Value) (st : List Value) (M : pm_M) : fr S (d) (42, 23, L, st) M = if pm_ty (L.getD 0 pm_U) = 2 then fr S d (42, 24, L, L.getD 0 pm_U :: st) M else none := (fr_eq S (d) (42, 23, L, st) M).trans (x_old _ _ 2 0 42 24 L st M)
theorem f42_24 (S : pm_S) (d : Nat) (L : List Value) (st : List Value) (M : pm_M) : fr S (d) (42, 24, L, st) M = if pm_ty (L.getD 2 pm_U) = 0 then fr S d (42, 25, L, L.getD 2 pm_U :: st) M else none := (fr_eq S (d) (42, 24, L, st) M).trans (x_old _ _ 0 2 42 25 L st M)
theorem f42_25 (S : pm_S) (d : Nat) (L : List Value) (st : List Value) (M : pm_M) : fr S (d) (42, 25, L, st) M = if pm_ty (L.getD 1 pm_U) = 2 then fr S d (42, 26, L, L.getD 1 pm_U :: st) M else none := (fr_eq S (d) (42, 25, L, st) M).trans (x_old _ _ 2 1 42 26 L st M)
theorem f42_26 (S : pm_S) (d : Nat) (L : List Value) (q : Nat) (r : List Value) (M : pm_M) : fr S (d) (42, 26, L, .ref q :: r) M = match pm_get M q with
  | some (.inr (c, fs)) => if c = 1 ∧ 6 < fs.length then fr S d (42, 29, L, fs.getD 6 pm_U :: r) M else none
  | _ => none := (fr_eq S (d) (42, 26, L, .ref q :: r) M).trans (x_ogf _ _ 1 6 42 29 L r q M)
theorem f42_29 (S : pm_S) (d : Nat) (L : List Value) (st : List Value) (M : pm_M) : fr S (d) (42, 29, L, st) M = if pm_ty (L.getD 3 pm_U) = 0 then fr S d (42, 30, L, L.getD 3 pm_U :: st) M else none := (fr_eq S (d) (42, 29, L, st) M).trans (x_old _ _ 0 3 42 30 L st M)
theorem f42_30 (S : pm_S) (d : Nat) (L : List Value) (st : List Value) (M : pm_M) : fr S (d + 1) (42, 30, L, st) M = match pm_ag 4 [] st with
  | some (a, r) => if r.length ≤ 4 ∧ (1 = 0 ∨ pm_obj M 0 (a.headD pm_U) = true) then (match fr S d (31, 0, a ++ [pm_U], []) M with
    | none => none
    | some (.inl v, M') => fr S (d + 1) (42, 33, L, v.toList ++ r) M'
    | some (.inr E, M') => some (.inr E, M')) else none
  | none => none := (fr_eq S (d + 1) (42, 30, L, st) M).trans (x_ocl _ _ 1 31 4 0 [pm_U] 42 33 L st M)
theorem f42_33 (S : pm_S) (d : Nat) (L : List Value) (v : Value) (r : List Value) (M : pm_M) : fr S (d) (42, 33, L, v :: r) M = if pm_ty v = 2 then (if v = .null then fr S d (42, 36, L, r) M else fr S d (42, 38, L, r) M) else none := (fr_eq S (d) (42, 33, L, v :: r) M).trans (x_onu _ _ 36 38 42 L r v M)
theorem f42_36 (S : pm_S) (d : Nat) (L : List Value) (st : List Value) (M : pm_M) : fr S (d) (42, 36, L, st) M = fr S d (42, 37, L, .int 1 :: st) M := (fr_eq S (d) (42, 36, L, st) M).trans (x_ocs _ _ (.int 1) 42 37 L st M)
theorem f42_37 (S : pm_S) (d : Nat) (L : List Value) (v : Value) (M : pm_M) : fr S (d) (42, 37, L, [v]) M = if pm_fit 3 v = true then some (.inl (some v), M) else none := (fr_eq S (d) (42, 37, L, [v]) M).trans (x_ort _ _ 3 v M)
theorem f42_38 (S : pm_S) (d : Nat) (L : List Value) (st : List Value) (M : pm_M) : fr S (d) (42, 38, L, st) M = match L.getD 3 pm_U with
  | .int x => if 3 < L.length ∧ ¬ pm_ty (L.getD (3 - 1) pm_U) = 1 then fr S d (42, 41, L.set 3 (.int (x + 1)), st) M else none
  | _ => none := (fr_eq S (d) (42, 38, L, st) M).trans (x_oinc _ _ 3 1 42 41 L st M)
theorem f42_41 (S : pm_S) (d : Nat) (L : List Value) (st : List Value) (M : pm_M) : fr S (d) (42, 41, L, st) M = fr S d (42, 15, L, st) M := (fr_eq S (d) (42, 41, L, st) M).trans (x_ogo _ _ 42 15 L st M)
theorem f42_44 (S : pm_S) (d : Nat) (L : List Value) (st : List Value) (M : pm_M) : fr S (d) (42, 44, L, st) M = match L.getD 2 pm_U with
  | .int x => if 2 < L.length ∧ ¬ pm_ty (L.getD (2 - 1) pm_U) = 1 then fr S d (42, 47, L.set 2 (.int (x + 1)), st) M else none
  | _ => none := (fr_eq S (d) (42, 44, L, st) M).trans (x_oinc _ _ 2 1 42 47 L st M)
theorem f42_47 (S : pm_S) (d : Nat) (L : List Value) (st : List Value) (M : pm_M) : fr S (d) (42, 47, L, st) M = fr S d (42, 5, L, st) M := (fr_eq S (d) (42, 47, L, st) M).trans (x_ogo _ _ 42 5 L st M)
theorem f42_50 (S : pm_S) (d : Nat) (L : List Value) (st : List Value) (M : pm_M) : fr S (d) (42, 50, L, st) M = fr S d (42, 51, L, .int 0 :: st) M := (fr_eq S (d) (42, 50, L, st) M).trans (x_ocs _ _ (.int 0) 42 51 L st M)
theorem f42_51 (S : pm_S) (d : Nat) (L : List Value) (v : Value) (M : pm_M) : fr S (d) (42, 51, L, [v]) M = if pm_fit 3 v = true then some (.inl (some v), M) else none := (fr_eq S (d) (42, 51, L, [v]) M).trans (x_ort _ _ 3 v M)
theorem f43_0 (S : pm_S) (d : Nat) (L : List Value) (st : List Value) (M : pm_M) : fr S (d) (43, 0, L, st) M = if pm_ty (L.getD 1 pm_U) = 2 then fr S d (43, 1, L, L.getD 1 pm_U :: st) M else none := (fr_eq S (d) (43, 0, L, st) M).trans (x_old _ _ 2 1 43 1 L st M)
theorem f43_1 (S : pm_S) (d : Nat) (L : List Value) (q : Nat) (r : List Value) (M : pm_M) : fr S (d) (43, 1, L, .ref q :: r) M = match pm_get M q with
  | some (.inr (c, fs)) => if c = 1 ∧ 5 < fs.length then fr S d (43, 4, L, fs.getD 5 pm_U :: r) M else none
  | _ => none := (fr_eq S (d) (43, 1, L, .ref q :: r) M).trans (x_ogf _ _ 1 5 43 4 L r q M)
theorem f43_4 (S : pm_S) (d : Nat) (L : List Value) (v : Value) (r : List Value) (M : pm_M) : fr S (d) (43, 4, L, v :: r) M = if pm_ty v = 0 ∧ 2 < L.length ∧ ¬ pm_ty (L.getD (2 - 1) pm_U) = 1 then fr S d (43, 5, L.set 2 v, r) M else none := (fr_eq S (d) (43, 4, L, v :: r) M).trans (x_ost _ _ 0 2 43 5 L r v M)
theorem f43_5 (S : pm_S) (d : Nat) (L : List Value) (st : List Value) (M : pm_M) : fr S (d) (43, 5, L, st) M = if pm_ty (L.getD 2 pm_U) = 0 then fr S d (43, 6, L, L.getD 2 pm_U :: st) M else none := (fr_eq S (d) (43, 5, L, st) M).trans (x_old _ _ 0 2 43 6 L st M)
theorem f43_6 (S : pm_S) (d : Nat) (L : List Value) (st : List Value) (M : pm_M) : fr S (d) (43, 6, L, st) M = if pm_ty (L.getD 1 pm_U) = 2 then fr S d (43, 7, L, L.getD 1 pm_U :: st) M else none := (fr_eq S (d) (43, 6, L, st) M).trans (x_old _ _ 2 1 43 7 L st M)
theorem f43_7 (S : pm_S) (d : Nat) (L : List Value) (st : List Value) (M : pm_M) : fr S (d + 1) (43, 7, L, st) M = match pm_ag 1 [] st with
  | some (a, r) => if r.length ≤ 4 ∧ (1 = 0 ∨ pm_obj M 1 (a.headD pm_U) = true) then (match fr S d (62, 0, a ++ [], []) M with
    | none => none
    | some (.inl v, M') => fr S (d + 1) (43, 10, L, v.toList ++ r) M'
    | some (.inr E, M') => some (.inr E, M')) else none
  | none => none := (fr_eq S (d + 1) (43, 7, L, st) M).trans (x_ocl _ _ 1 62 1 1 [] 43 10 L st M)
theorem f43_10 (S : pm_S) (d : Nat) (L : List Value) (x y : Int32) (r : List Value) (M : pm_M) : fr S (d) (43, 10, L, .int y :: .int x :: r) M = if y < x then fr S d (43, 68, L, r) M else fr S d (43, 13, L, r) M := (fr_eq S (d) (43, 10, L, .int y :: .int x :: r) M).trans (x_oc2gt _ _ 43 13 68 L r x y M)
theorem f43_13 (S : pm_S) (d : Nat) (L : List Value) (st : List Value) (M : pm_M) : fr S (d) (43, 13, L, st) M = if pm_ty (L.getD 0 pm_U) = 2 then fr S d (43, 14, L, L.getD 0 pm_U :: st) M else none := (fr_eq S (d) (43, 13, L, st) M).trans (x_old _ _ 2 0 43 14 L st M)
theorem f43_14 (S : pm_S) (d : Nat) (L : List Value) (st : List Value) (M : pm_M) : fr S (d) (43, 14, L, st) M = if pm_ty (L.getD 2 pm_U) = 0 then fr S d (43, 15, L, L.getD 2 pm_U :: st) M else none := (fr_eq S (d) (43, 14, L, st) M).trans (x_old _ _ 0 2 43 15 L st M)
theorem f43_15 (S : pm_S) (d : Nat) (L : List Value) (st : List Value) (M : pm_M) : fr S (d) (43, 15, L, st) M = if pm_ty (L.getD 1 pm_U) = 2 then fr S d (43, 16, L, L.getD 1 pm_U :: st) M else none := (fr_eq S (d) (43, 15, L, st) M).trans (x_old _ _ 2 1 43 16 L st M)
theorem f43_16 (S : pm_S) (d : Nat) (L : List Value) (q : Nat) (r : List Value) (M : pm_M) : fr S (d) (43, 16, L, .ref q :: r) M = match pm_get M q with
  | some (.inr (c, fs)) => if c = 1 ∧ 6 < fs.length then fr S d (43, 19, L, fs.getD 6 pm_U :: r) M else none
  | _ => none := (fr_eq S (d) (43, 16, L, .ref q :: r) M).trans (x_ogf _ _ 1 6 43 19 L r q M)
theorem f43_19 (S : pm_S) (d : Nat) (L : List Value) (st : List Value) (M : pm_M) : fr S (d) (43, 19, L, st) M = if pm_ty (L.getD 1 pm_U) = 2 then fr S d (43, 20, L, L.getD 1 pm_U :: st) M else none := (fr_eq S (d) (43, 19, L, st) M).trans (x_old _ _ 2 1 43 20 L st M)
theorem f43_20 (S : pm_S) (d : Nat) (L : List Value) (q : Nat) (r : List Value) (M : pm_M) : fr S (d) (43, 20, L, .ref q :: r) M = match pm_get M q with
  | some (.inr (c, fs)) => if c = 1 ∧ 7 < fs.length then fr S d (43, 23, L, fs.getD 7 pm_U :: r) M else none
  | _ => none := (fr_eq S (d) (43, 20, L, .ref q :: r) M).trans (x_ogf _ _ 1 7 43 23 L r q M)
theorem f43_23 (S : pm_S) (d : Nat) (L : List Value) (st : List Value) (M : pm_M) : fr S (d + 1) (43, 23, L, st) M = match pm_ag 4 [] st with
  | some (a, r) => if r.length ≤ 4 ∧ (1 = 0 ∨ pm_obj M 0 (a.headD pm_U) = true) then (match fr S d (44, 0, a ++ [pm_U, pm_U, pm_U], []) M with
    | none => none
    | some (.inl v, M') => fr S (d + 1) (43, 26, L, v.toList ++ r) M'
    | some (.inr E, M') => some (.inr E, M')) else none
  | none => none := (fr_eq S (d + 1) (43, 23, L, st) M).trans (x_ocl _ _ 1 44 4 0 [pm_U, pm_U, pm_U] 43 26 L st M)
theorem f43_26 (S : pm_S) (d : Nat) (L : List Value) (v : Value) (r : List Value) (M : pm_M) : fr S (d) (43, 26, L, v :: r) M = if pm_ty v = 0 ∧ 3 < L.length ∧ ¬ pm_ty (L.getD (3 - 1) pm_U) = 1 then fr S d (43, 27, L.set 3 v, r) M else none := (fr_eq S (d) (43, 26, L, v :: r) M).trans (x_ost _ _ 0 3 43 27 L r v M)
theorem f43_27 (S : pm_S) (d : Nat) (L : List Value) (st : List Value) (M : pm_M) : fr S (d) (43, 27, L, st) M = if pm_ty (L.getD 0 pm_U) = 2 then fr S d (43, 28, L, L.getD 0 pm_U :: st) M else none := (fr_eq S (d) (43, 27, L, st) M).trans (x_old _ _ 2 0 43 28 L st M)
theorem f43_28 (S : pm_S) (d : Nat) (L : List Value) (st : List Value) (M : pm_M) : fr S (d) (43, 28, L, st) M = if pm_ty (L.getD 2 pm_U) = 0 then fr S d (43, 29, L, L.getD 2 pm_U :: st) M else none := (fr_eq S (d) (43, 28, L, st) M).trans (x_old _ _ 0 2 43 29 L st M)
theorem f43_29 (S : pm_S) (d : Nat) (L : List Value) (st : List Value) (M : pm_M) : fr S (d + 1) (43, 29, L, st) M = match pm_ag 2 [] st with
  | some (a, r) => if r.length ≤ 4 ∧ (1 = 0 ∨ pm_obj M 0 (a.headD pm_U) = true) then (match fr S d (26, 0, a ++ [], []) M with
    | none => none
    | some (.inl v, M') => fr S (d + 1) (43, 32, L, v.toList ++ r) M'
    | some (.inr E, M') => some (.inr E, M')) else none
  | none => none := (fr_eq S (d + 1) (43, 29, L, st) M).trans (x_ocl _ _ 1 26 2 0 [] 43 32 L st M)
theorem f43_32 (S : pm_S) (d : Nat) (L : List Value) (x : Int32) (r : List Value) (M : pm_M) : fr S (d) (43, 32, L, .int x :: r) M = if x = 0 then fr S d (43, 62, L, r) M else fr S d (43, 35, L, r) M := (fr_eq S (d) (43, 32, L, .int x :: r) M).trans (x_oc1eq _ _ 43 35 62 L r x M)
theorem f43_35 (S : pm_S) (d : Nat) (L : List Value) (st : List Value) (M : pm_M) : fr S (d) (43, 35, L, st) M = if pm_ty (L.getD 3 pm_U) = 0 then fr S d (43, 36, L, L.getD 3 pm_U :: st) M else none := (fr_eq S (d) (43, 35, L, st) M).trans (x_old _ _ 0 3 43 36 L st M)
theorem f43_36 (S : pm_S) (d : Nat) (L : List Value) (st : List Value) (M : pm_M) : fr S (d) (43, 36, L, st) M = if pm_ty (L.getD 0 pm_U) = 2 then fr S d (43, 37, L, L.getD 0 pm_U :: st) M else none := (fr_eq S (d) (43, 36, L, st) M).trans (x_old _ _ 2 0 43 37 L st M)
theorem f43_37 (S : pm_S) (d : Nat) (L : List Value) (q : Nat) (r : List Value) (M : pm_M) : fr S (d) (43, 37, L, .ref q :: r) M = match pm_get M q with
  | some (.inr (c, fs)) => if c = 0 ∧ 7 < fs.length then fr S d (43, 40, L, fs.getD 7 pm_U :: r) M else none
  | _ => none := (fr_eq S (d) (43, 37, L, .ref q :: r) M).trans (x_ogf _ _ 0 7 43 40 L r q M)
theorem f43_40 (S : pm_S) (d : Nat) (L : List Value) (st : List Value) (M : pm_M) : fr S (d) (43, 40, L, st) M = if pm_ty (L.getD 2 pm_U) = 0 then fr S d (43, 41, L, L.getD 2 pm_U :: st) M else none := (fr_eq S (d) (43, 40, L, st) M).trans (x_old _ _ 0 2 43 41 L st M)
theorem f43_41 (S : pm_S) (d : Nat) (L : List Value) (i : Int32) (q : Nat) (hq : ¬ q = 1) (r : List Value) (M : pm_M) : fr S (d) (43, 41, L, .int i :: .ref q :: r) M = match (pm_get M q).bind (fun c => pm_el 0 c i) with
  | some v => fr S d (43, 42, L, v :: r) M
  | none => none := (fr_eq S (d) (43, 41, L, .int i :: .ref q :: r) M).trans (x_oal _ _ S 0 43 42 L r i q hq M)
theorem f43_42 (S : pm_S) (d : Nat) (L : List Value) (x y : Int32) (r : List Value) (M : pm_M) : fr S (d) (43, 42, L, .int y :: .int x :: r) M = if y < x then fr S d (43, 62, L, r) M else fr S d (43, 45, L, r) M := (fr_eq S (d) (43, 42, L, .int y :: .int x :: r) M).trans (x_oc2gt _ _ 43 45 62 L r x y M)
theorem f43_45 (S : pm_S) (d : Nat) (L : List Value) (st : List Value) (M : pm_M) : fr S (d) (43, 45, L, st) M = if pm_ty (L.getD 3 pm_U) = 0 then fr S d (43, 46, L, L.getD 3 pm_U :: st) M else none := (fr_eq S (d) (43, 45, L, st) M).trans (x_old _ _ 0 3 43 46 L st M)
theorem f43_46 (S : pm_S) (d : Nat) (L : List Value) (st : List Value) (M : pm_M) : fr S (d) (43, 46, L, st) M = if pm_ty (L.getD 1 pm_U) = 2 then fr S d (43, 47, L, L.getD 1 pm_U :: st) M else none := (fr_eq S (d) (43, 46, L, st) M).trans (x_old _ _ 2 1 43 47 L st M)
theorem f43_47 (S : pm_S) (d : Nat) (L : List Value) (q : Nat) (r : List Value) (M : pm_M) : fr S (d) (43, 47, L, .ref q :: r) M = match pm_get M q with
  | some (.inr (c, fs)) => if c = 1 ∧ 2 < fs.length then fr S d (43, 50, L, fs.getD 2 pm_U :: r) M else none
  | _ => none := (fr_eq S (d) (43, 47, L, .ref q :: r) M).trans (x_ogf _ _ 1 2 43 50 L r q M)
theorem f43_50 (S : pm_S) (d : Nat) (L : List Value) (x y : Int32) (r : List Value) (M : pm_M) : fr S (d) (43, 50, L, .int y :: .int x :: r) M = fr S d (43, 51, L, .int (x + y) :: r) M := (fr_eq S (d) (43, 50, L, .int y :: .int x :: r) M).trans (x_oii _ _ (fun x y => x + y) 43 51 L r x y M)
theorem f43_51 (S : pm_S) (d : Nat) (L : List Value) (st : List Value) (M : pm_M) : fr S (d) (43, 51, L, st) M = if pm_ty (L.getD 0 pm_U) = 2 then fr S d (43, 52, L, L.getD 0 pm_U :: st) M else none := (fr_eq S (d) (43, 51, L, st) M).trans (x_old _ _ 2 0 43 52 L st M)
theorem f43_52 (S : pm_S) (d : Nat) (L : List Value) (q : Nat) (r : List Value) (M : pm_M) : fr S (d) (43, 52, L, .ref q :: r) M = match pm_get M q with
  | some (.inr (c, fs)) => if c = 0 ∧ 7 < fs.length then fr S d (43, 55, L, fs.getD 7 pm_U :: r) M else none
  | _ => none := (fr_eq S (d) (43, 52, L, .ref q :: r) M).trans (x_ogf _ _ 0 7 43 55 L r q M)
theorem f43_55 (S : pm_S) (d : Nat) (L : List Value) (st : List Value) (M : pm_M) : fr S (d) (43, 55, L, st) M = if pm_ty (L.getD 2 pm_U) = 0 then fr S d (43, 56, L, L.getD 2 pm_U :: st) M else none := (fr_eq S (d) (43, 55, L, st) M).trans (x_old _ _ 0 2 43 56 L st M)
theorem f43_56 (S : pm_S) (d : Nat) (L : List Value) (i : Int32) (q : Nat) (hq : ¬ q = 1) (r : List Value) (M : pm_M) : fr S (d) (43, 56, L, .int i :: .ref q :: r) M = match (pm_get M q).bind (fun c => pm_el 0 c i) with
  | some v => fr S d (43, 57, L, v :: r) M
  | none => none := (fr_eq S (d) (43, 56, L, .int i :: .ref q :: r) M).trans (x_oal _ _ S 0 43 57 L r i q hq M)
theorem f43_57 (S : pm_S) (d : Nat) (L : List Value) (x y : Int32) (r : List Value) (M : pm_M) : fr S (d) (43, 57, L, .int y :: .int x :: r) M = if x ≤ y then fr S d (43, 62, L, r) M else fr S d (43, 60, L, r) M := (fr_eq S (d) (43, 57, L, .int y :: .int x :: r) M).trans (x_oc2le _ _ 43 60 62 L r x y M)
theorem f43_60 (S : pm_S) (d : Nat) (L : List Value) (st : List Value) (M : pm_M) : fr S (d) (43, 60, L, st) M = fr S d (43, 61, L, .int 1 :: st) M := (fr_eq S (d) (43, 60, L, st) M).trans (x_ocs _ _ (.int 1) 43 61 L st M)
theorem f43_61 (S : pm_S) (d : Nat) (L : List Value) (v : Value) (M : pm_M) : fr S (d) (43, 61, L, [v]) M = if pm_fit 3 v = true then some (.inl (some v), M) else none := (fr_eq S (d) (43, 61, L, [v]) M).trans (x_ort _ _ 3 v M)
theorem f43_62 (S : pm_S) (d : Nat) (L : List Value) (st : List Value) (M : pm_M) : fr S (d) (43, 62, L, st) M = match L.getD 2 pm_U with
  | .int x => if 2 < L.length ∧ ¬ pm_ty (L.getD (2 - 1) pm_U) = 1 then fr S d (43, 65, L.set 2 (.int (x + 1)), st) M else none
  | _ => none := (fr_eq S (d) (43, 62, L, st) M).trans (x_oinc _ _ 2 1 43 65 L st M)
theorem f43_65 (S : pm_S) (d : Nat) (L : List Value) (st : List Value) (M : pm_M) : fr S (d) (43, 65, L, st) M = fr S d (43, 5, L, st) M := (fr_eq S (d) (43, 65, L, st) M).trans (x_ogo _ _ 43 5 L st M)
theorem f43_68 (S : pm_S) (d : Nat) (L : List Value) (st : List Value) (M : pm_M) : fr S (d) (43, 68, L, st) M = fr S d (43, 69, L, .int 0 :: st) M := (fr_eq S (d) (43, 68, L, st) M).trans (x_ocs _ _ (.int 0) 43 69 L st M)
theorem f43_69 (S : pm_S) (d : Nat) (L : List Value) (v : Value) (M : pm_M) : fr S (d) (43, 69, L, [v]) M = if pm_fit 3 v = true then some (.inl (some v), M) else none := (fr_eq S (d) (43, 69, L, [v]) M).trans (x_ort _ _ 3 v M)
theorem f44_0 (S : pm_S) (d : Nat) (L : List Value) (st : List Value) (M : pm_M) : fr S (d) (44, 0, L, st) M = fr S d (44, 1, L, .int 0 :: st) M := (fr_eq S (d) (44, 0, L, st) M).trans (x_ocs _ _ (.int 0) 44 1 L st M)
theorem f44_1 (S : pm_S) (d : Nat) (L : List Value) (v : Value) (r : List Value) (M : pm_M) : fr S (d) (44, 1, L, v :: r) M = if pm_ty v = 0 ∧ 4 < L.length ∧ ¬ pm_ty (L.getD (4 - 1) pm_U) = 1 then fr S d (44, 3, L.set 4 v, r) M else none := (fr_eq S (d) (44, 1, L, v :: r) M).trans (x_ost _ _ 0 4 44 3 L r v M)
theorem f44_3 (S : pm_S) (d : Nat) (L : List Value) (st : List Value) (M : pm_M) : fr S (d) (44, 3, L, st) M = fr S d (44, 4, L, .int 0 :: st) M := (fr_eq S (d) (44, 3, L, st) M).trans (x_ocs _ _ (.int 0) 44 4 L st M)
theorem f44_4 (S : pm_S) (d : Nat) (L : List Value) (v : Value) (r : List Value) (M : pm_M) : fr S (d) (44, 4, L, v :: r) M = if pm_ty v = 0 ∧ 5 < L.length ∧ ¬ pm_ty (L.getD (5 - 1) pm_U) = 1 then fr S d (44, 6, L.set 5 v, r) M else none := (fr_eq S (d) (44, 4, L, v :: r) M).trans (x_ost _ _ 0 5 44 6 L r v M)
theorem f44_6 (S : pm_S) (d : Nat) (L : List Value) (st : List Value) (M : pm_M) : fr S (d) (44, 6, L, st) M = if pm_ty (L.getD 5 pm_U) = 0 then fr S d (44, 8, L, L.getD 5 pm_U :: st) M else none := (fr_eq S (d) (44, 6, L, st) M).trans (x_old _ _ 0 5 44 8 L st M)
theorem f44_8 (S : pm_S) (d : Nat) (L : List Value) (st : List Value) (M : pm_M) : fr S (d) (44, 8, L, st) M = if pm_ty (L.getD 3 pm_U) = 0 then fr S d (44, 9, L, L.getD 3 pm_U :: st) M else none := (fr_eq S (d) (44, 8, L, st) M).trans (x_old _ _ 0 3 44 9 L st M)
theorem f44_9 (S : pm_S) (d : Nat) (L : List Value) (x y : Int32) (r : List Value) (M : pm_M) : fr S (d) (44, 9, L, .int y :: .int x :: r) M = if y ≤ x then fr S d (44, 43, L, r) M else fr S d (44, 12, L, r) M := (fr_eq S (d) (44, 9, L, .int y :: .int x :: r) M).trans (x_oc2ge _ _ 44 12 43 L r x y M)
theorem f44_12 (S : pm_S) (d : Nat) (L : List Value) (st : List Value) (M : pm_M) : fr S (d) (44, 12, L, st) M = if pm_ty (L.getD 0 pm_U) = 2 then fr S d (44, 13, L, L.getD 0 pm_U :: st) M else none := (fr_eq S (d) (44, 12, L, st) M).trans (x_old _ _ 2 0 44 13 L st M)
theorem f44_13 (S : pm_S) (d : Nat) (L : List Value) (st : List Value) (M : pm_M) : fr S (d) (44, 13, L, st) M = if pm_ty (L.getD 1 pm_U) = 0 then fr S d (44, 14, L, L.getD 1 pm_U :: st) M else none := (fr_eq S (d) (44, 13, L, st) M).trans (x_old _ _ 0 1 44 14 L st M)
theorem f44_14 (S : pm_S) (d : Nat) (L : List Value) (st : List Value) (M : pm_M) : fr S (d) (44, 14, L, st) M = if pm_ty (L.getD 2 pm_U) = 0 then fr S d (44, 15, L, L.getD 2 pm_U :: st) M else none := (fr_eq S (d) (44, 14, L, st) M).trans (x_old _ _ 0 2 44 15 L st M)
theorem f44_15 (S : pm_S) (d : Nat) (L : List Value) (st : List Value) (M : pm_M) : fr S (d) (44, 15, L, st) M = if pm_ty (L.getD 5 pm_U) = 0 then fr S d (44, 17, L, L.getD 5 pm_U :: st) M else none := (fr_eq S (d) (44, 15, L, st) M).trans (x_old _ _ 0 5 44 17 L st M)
theorem f44_17 (S : pm_S) (d : Nat) (L : List Value) (st : List Value) (M : pm_M) : fr S (d + 1) (44, 17, L, st) M = match pm_ag 4 [] st with
  | some (a, r) => if r.length ≤ 4 ∧ (1 = 0 ∨ pm_obj M 0 (a.headD pm_U) = true) then (match fr S d (31, 0, a ++ [pm_U], []) M with
    | none => none
    | some (.inl v, M') => fr S (d + 1) (44, 20, L, v.toList ++ r) M'
    | some (.inr E, M') => some (.inr E, M')) else none
  | none => none := (fr_eq S (d + 1) (44, 17, L, st) M).trans (x_ocl _ _ 1 31 4 0 [pm_U] 44 20 L st M)
theorem f44_20 (S : pm_S) (d : Nat) (L : List Value) (v : Value) (r : List Value) (M : pm_M) : fr S (d) (44, 20, L, v :: r) M = if pm_ty v = 2 ∧ 6 < L.length ∧ ¬ pm_ty (L.getD (6 - 1) pm_U) = 1 then fr S d (44, 22, L.set 6 v, r) M else none := (fr_eq S (d) (44, 20, L, v :: r) M).trans (x_ost _ _ 2 6 44 22 L r v M)
theorem f44_22 (S : pm_S) (d : Nat) (L : List Value) (st : List Value) (M : pm_M) : fr S (d) (44, 22, L, st) M = if pm_ty (L.getD 6 pm_U) = 2 then fr S d (44, 24, L, L.getD 6 pm_U :: st) M else none := (fr_eq S (d) (44, 22, L, st) M).trans (x_old _ _ 2 6 44 24 L st M)
theorem f44_24 (S : pm_S) (d : Nat) (L : List Value) (v : Value) (r : List Value) (M : pm_M) : fr S (d) (44, 24, L, v :: r) M = if pm_ty v = 2 then (if v = .null then fr S d (44, 37, L, r) M else fr S d (44, 27, L, r) M) else none := (fr_eq S (d) (44, 24, L, v :: r) M).trans (x_onu _ _ 37 27 44 L r v M)
theorem f44_27 (S : pm_S) (d : Nat) (L : List Value) (st : List Value) (M : pm_M) : fr S (d) (44, 27, L, st) M = if pm_ty (L.getD 4 pm_U) = 0 then fr S d (44, 29, L, L.getD 4 pm_U :: st) M else none := (fr_eq S (d) (44, 27, L, st) M).trans (x_old _ _ 0 4 44 29 L st M)
theorem f44_29 (S : pm_S) (d : Nat) (L : List Value) (st : List Value) (M : pm_M) : fr S (d) (44, 29, L, st) M = if pm_ty (L.getD 6 pm_U) = 2 then fr S d (44, 31, L, L.getD 6 pm_U :: st) M else none := (fr_eq S (d) (44, 29, L, st) M).trans (x_old _ _ 2 6 44 31 L st M)
theorem f44_31 (S : pm_S) (d : Nat) (L : List Value) (q : Nat) (r : List Value) (M : pm_M) : fr S (d) (44, 31, L, .ref q :: r) M = match pm_get M q with
  | some (.inr (c, fs)) => if c = 1 ∧ 2 < fs.length then fr S d (44, 34, L, fs.getD 2 pm_U :: r) M else none
  | _ => none := (fr_eq S (d) (44, 31, L, .ref q :: r) M).trans (x_ogf _ _ 1 2 44 34 L r q M)
theorem f44_34 (S : pm_S) (d : Nat) (L : List Value) (x y : Int32) (r : List Value) (M : pm_M) : fr S (d) (44, 34, L, .int y :: .int x :: r) M = fr S d (44, 35, L, .int (x + y) :: r) M := (fr_eq S (d) (44, 34, L, .int y :: .int x :: r) M).trans (x_oii _ _ (fun x y => x + y) 44 35 L r x y M)
theorem f44_35 (S : pm_S) (d : Nat) (L : List Value) (v : Value) (r : List Value) (M : pm_M) : fr S (d) (44, 35, L, v :: r) M = if pm_ty v = 0 ∧ 4 < L.length ∧ ¬ pm_ty (L.getD (4 - 1) pm_U) = 1 then fr S d (44, 37, L.set 4 v, r) M else none := (fr_eq S (d) (44, 35, L, v :: r) M).trans (x_ost _ _ 0 4 44 37 L r v M)
theorem f44_37 (S : pm_S) (d : Nat) (L : List Value) (st : List Value) (M : pm_M) : fr S (d) (44, 37, L, st) M = match L.getD 5 pm_U with
  | .int x => if 5 < L.length ∧ ¬ pm_ty (L.getD (5 - 1) pm_U) = 1 then fr S d (44, 40, L.set 5 (.int (x + 1)), st) M else none
  | _ => none := (fr_eq S (d) (44, 37, L, st) M).trans (x_oinc _ _ 5 1 44 40 L st M)
theorem f44_40 (S : pm_S) (d : Nat) (L : List Value) (st : List Value) (M : pm_M) : fr S (d) (44, 40, L, st) M = fr S d (44, 6, L, st) M := (fr_eq S (d) (44, 40, L, st) M).trans (x_ogo _ _ 44 6 L st M)
theorem f44_43 (S : pm_S) (d : Nat) (L : List Value) (st : List Value) (M : pm_M) : fr S (d) (44, 43, L, st) M = if pm_ty (L.getD 4 pm_U) = 0 then fr S d (44, 45, L, L.getD 4 pm_U :: st) M else none := (fr_eq S (d) (44, 43, L, st) M).trans (x_old _ _ 0 4 44 45 L st M)
theorem f44_45 (S : pm_S) (d : Nat) (L : List Value) (v : Value) (M : pm_M) : fr S (d) (44, 45, L, [v]) M = if pm_fit 0 v = true then some (.inl (some v), M) else none := (fr_eq S (d) (44, 45, L, [v]) M).trans (x_ort _ _ 0 v M)
theorem f45_0 (S : pm_S) (d : Nat) (L : List Value) (st : List Value) (M : pm_M) : fr S (d) (45, 0, L, st) M = if pm_ty (L.getD 1 pm_U) = 2 then fr S d (45, 1, L, L.getD 1 pm_U :: st) M else none := (fr_eq S (d) (45, 0, L, st) M).trans (x_old _ _ 2 1 45 1 L st M)
theorem f45_1 (S : pm_S) (d : Nat) (L : List Value) (q : Nat) (r : List Value) (M : pm_M) : fr S (d) (45, 1, L, .ref q :: r) M = match pm_get M q with
  | some (.inr (c, fs)) => if c = 1 ∧ 5 < fs.length then fr S d (45, 4, L, fs.getD 5 pm_U :: r) M else none
  | _ => none := (fr_eq S (d) (45, 1, L, .ref q :: r) M).trans (x_ogf _ _ 1 5 45 4 L r q M)
theorem f45_4 (S : pm_S) (d : Nat) (L : List Value) (v : Value) (r : List Value) (M : pm_M) : fr S (d) (45, 4, L, v :: r) M = if pm_ty v = 0 ∧ 2 < L.length ∧ ¬ pm_ty (L.getD (2 - 1) pm_U) = 1 then fr S d (45, 5, L.set 2 v, r) M else none := (fr_eq S (d) (45, 4, L, v :: r) M).trans (x_ost _ _ 0 2 45 5 L r v M)
theorem f45_5 (S : pm_S) (d : Nat) (L : List Value) (st : List Value) (M : pm_M) : fr S (d) (45, 5, L, st) M = if pm_ty (L.getD 2 pm_U) = 0 then fr S d (45, 6, L, L.getD 2 pm_U :: st) M else none := (fr_eq S (d) (45, 5, L, st) M).trans (x_old _ _ 0 2 45 6 L st M)
theorem f45_6 (S : pm_S) (d : Nat) (L : List Value) (st : List Value) (M : pm_M) : fr S (d) (45, 6, L, st) M = if pm_ty (L.getD 1 pm_U) = 2 then fr S d (45, 7, L, L.getD 1 pm_U :: st) M else none := (fr_eq S (d) (45, 6, L, st) M).trans (x_old _ _ 2 1 45 7 L st M)
theorem f45_7 (S : pm_S) (d : Nat) (L : List Value) (st : List Value) (M : pm_M) : fr S (d + 1) (45, 7, L, st) M = match pm_ag 1 [] st with
  | some (a, r) => if r.length ≤ 4 ∧ (1 = 0 ∨ pm_obj M 1 (a.headD pm_U) = true) then (match fr S d (62, 0, a ++ [], []) M with
    | none => none
    | some (.inl v, M') => fr S (d + 1) (45, 10, L, v.toList ++ r) M'
    | some (.inr E, M') => some (.inr E, M')) else none
  | none => none := (fr_eq S (d + 1) (45, 7, L, st) M).trans (x_ocl _ _ 1 62 1 1 [] 45 10 L st M)
theorem f45_10 (S : pm_S) (d : Nat) (L : List Value) (x y : Int32) (r : List Value) (M : pm_M) : fr S (d) (45, 10, L, .int y :: .int x :: r) M = if y < x then fr S d (45, 52, L, r) M else fr S d (45, 13, L, r) M := (fr_eq S (d) (45, 10, L, .int y :: .int x :: r) M).trans (x_oc2gt _ _ 45 13 52 L r x y M)
theorem f45_13 (S : pm_S) (d : Nat) (L : List Value) (st : List Value) (M : pm_M) : fr S (d) (45, 13, L, st) M = if pm_ty (L.getD 0 pm_U) = 2 then fr S d (45, 14, L, L.getD 0 pm_U :: st) M else none := (fr_eq S (d) (45, 13, L, st) M).trans (x_old _ _ 2 0 45 14 L st M)
theorem f45_14 (S : pm_S) (d : Nat) (L : List Value) (st : List Value) (M : pm_M) : fr S (d) (45, 14, L, st) M = if pm_ty (L.getD 2 pm_U) = 0 then fr S d (45, 15, L, L.getD 2 pm_U :: st) M else none := (fr_eq S (d) (45, 14, L, st) M).trans (x_old _ _ 0 2 45 15 L st M)
theorem f45_15 (S : pm_S) (d : Nat) (L : List Value) (st : List Value) (M : pm_M) : fr S (d) (45, 15, L, st) M = if pm_ty (L.getD 1 pm_U) = 2 then fr S d (45, 16, L, L.getD 1 pm_U :: st) M else none := (fr_eq S (d) (45, 15, L, st) M).trans (x_old _ _ 2 1 45 16 L st M)
theorem f45_16 (S : pm_S) (d : Nat) (L : List Value) (q : Nat) (r : List Value) (M : pm_M) : fr S (d) (45, 16, L, .ref q :: r) M = match pm_get M q with
  | some (.inr (c, fs)) => if c = 1 ∧ 6 < fs.length then fr S d (45, 19, L, fs.getD 6 pm_U :: r) M else none
  | _ => none := (fr_eq S (d) (45, 16, L, .ref q :: r) M).trans (x_ogf _ _ 1 6 45 19 L r q M)
theorem f45_19 (S : pm_S) (d : Nat) (L : List Value) (st : List Value) (M : pm_M) : fr S (d) (45, 19, L, st) M = if pm_ty (L.getD 1 pm_U) = 2 then fr S d (45, 20, L, L.getD 1 pm_U :: st) M else none := (fr_eq S (d) (45, 19, L, st) M).trans (x_old _ _ 2 1 45 20 L st M)
theorem f45_20 (S : pm_S) (d : Nat) (L : List Value) (q : Nat) (r : List Value) (M : pm_M) : fr S (d) (45, 20, L, .ref q :: r) M = match pm_get M q with
  | some (.inr (c, fs)) => if c = 1 ∧ 7 < fs.length then fr S d (45, 23, L, fs.getD 7 pm_U :: r) M else none
  | _ => none := (fr_eq S (d) (45, 20, L, .ref q :: r) M).trans (x_ogf _ _ 1 7 45 23 L r q M)
theorem f45_23 (S : pm_S) (d : Nat) (L : List Value) (st : List Value) (M : pm_M) : fr S (d) (45, 23, L, st) M = fr S d (45, 24, L, .int 1 :: st) M := (fr_eq S (d) (45, 23, L, st) M).trans (x_ocs _ _ (.int 1) 45 24 L st M)
theorem f45_24 (S : pm_S) (d : Nat) (L : List Value) (x y : Int32) (r : List Value) (M : pm_M) : fr S (d) (45, 24, L, .int y :: .int x :: r) M = fr S d (45, 25, L, .int (x - y) :: r) M := (fr_eq S (d) (45, 24, L, .int y :: .int x :: r) M).trans (x_oii _ _ (fun x y => x - y) 45 25 L r x y M)
theorem f45_25 (S : pm_S) (d : Nat) (L : List Value) (st : List Value) (M : pm_M) : fr S (d + 1) (45, 25, L, st) M = match pm_ag 4 [] st with
  | some (a, r) => if r.length ≤ 4 ∧ (1 = 0 ∨ pm_obj M 0 (a.headD pm_U) = true) then (match fr S d (31, 0, a ++ [pm_U], []) M with
    | none => none
    | some (.inl v, M') => fr S (d + 1) (45, 28, L, v.toList ++ r) M'
    | some (.inr E, M') => some (.inr E, M')) else none
  | none => none := (fr_eq S (d + 1) (45, 25, L, st) M).trans (x_ocl _ _ 1 31 4 0 [pm_U] 45 28 L st M)
theorem f45_28 (S : pm_S) (d : Nat) (L : List Value) (v : Value) (r : List Value) (M : pm_M) : fr S (d) (45, 28, L, v :: r) M = if pm_ty v = 2 ∧ 3 < L.length ∧ ¬ pm_ty (L.getD (3 - 1) pm_U) = 1 then fr S d (45, 29, L.set 3 v, r) M else none := (fr_eq S (d) (45, 28, L, v :: r) M).trans (x_ost _ _ 2 3 45 29 L r v M)
theorem f45_29 (S : pm_S) (d : Nat) (L : List Value) (st : List Value) (M : pm_M) : fr S (d) (45, 29, L, st) M = if pm_ty (L.getD 3 pm_U) = 2 then fr S d (45, 30, L, L.getD 3 pm_U :: st) M else none := (fr_eq S (d) (45, 29, L, st) M).trans (x_old _ _ 2 3 45 30 L st M)
theorem f45_30 (S : pm_S) (d : Nat) (L : List Value) (v : Value) (r : List Value) (M : pm_M) : fr S (d) (45, 30, L, v :: r) M = if pm_ty v = 2 then (if v = .null then fr S d (45, 46, L, r) M else fr S d (45, 33, L, r) M) else none := (fr_eq S (d) (45, 30, L, v :: r) M).trans (x_onu _ _ 46 33 45 L r v M)
theorem f45_33 (S : pm_S) (d : Nat) (L : List Value) (st : List Value) (M : pm_M) : fr S (d) (45, 33, L, st) M = if pm_ty (L.getD 3 pm_U) = 2 then fr S d (45, 34, L, L.getD 3 pm_U :: st) M else none := (fr_eq S (d) (45, 33, L, st) M).trans (x_old _ _ 2 3 45 34 L st M)
theorem f45_34 (S : pm_S) (d : Nat) (L : List Value) (q : Nat) (r : List Value) (M : pm_M) : fr S (d) (45, 34, L, .ref q :: r) M = match pm_get M q with
  | some (.inr (c, fs)) => if c = 1 ∧ 2 < fs.length then fr S d (45, 37, L, fs.getD 2 pm_U :: r) M else none
  | _ => none := (fr_eq S (d) (45, 34, L, .ref q :: r) M).trans (x_ogf _ _ 1 2 45 37 L r q M)
theorem f45_37 (S : pm_S) (d : Nat) (L : List Value) (st : List Value) (M : pm_M) : fr S (d) (45, 37, L, st) M = if pm_ty (L.getD 1 pm_U) = 2 then fr S d (45, 38, L, L.getD 1 pm_U :: st) M else none := (fr_eq S (d) (45, 37, L, st) M).trans (x_old _ _ 2 1 45 38 L st M)
theorem f45_38 (S : pm_S) (d : Nat) (L : List Value) (q : Nat) (r : List Value) (M : pm_M) : fr S (d) (45, 38, L, .ref q :: r) M = match pm_get M q with
  | some (.inr (c, fs)) => if c = 1 ∧ 2 < fs.length then fr S d (45, 41, L, fs.getD 2 pm_U :: r) M else none
  | _ => none := (fr_eq S (d) (45, 38, L, .ref q :: r) M).trans (x_ogf _ _ 1 2 45 41 L r q M)
theorem f45_41 (S : pm_S) (d : Nat) (L : List Value) (x y : Int32) (r : List Value) (M : pm_M) : fr S (d) (45, 41, L, .int y :: .int x :: r) M = if y ≤ x then fr S d (45, 46, L, r) M else fr S d (45, 44, L, r) M := (fr_eq S (d) (45, 41, L, .int y :: .int x :: r) M).trans (x_oc2ge _ _ 45 44 46 L r x y M)
theorem f45_44 (S : pm_S) (d : Nat) (L : List Value) (st : List Value) (M : pm_M) : fr S (d) (45, 44, L, st) M = fr S d (45, 45, L, .int 1 :: st) M := (fr_eq S (d) (45, 44, L, st) M).trans (x_ocs _ _ (.int 1) 45 45 L st M)
theorem f45_45 (S : pm_S) (d : Nat) (L : List Value) (v : Value) (M : pm_M) : fr S (d) (45, 45, L, [v]) M = if pm_fit 3 v = true then some (.inl (some v), M) else none := (fr_eq S (d) (45, 45, L, [v]) M).trans (x_ort _ _ 3 v M)
theorem f45_46 (S : pm_S) (d : Nat) (L : List Value) (st : List Value) (M : pm_M) : fr S (d) (45, 46, L, st) M = match L.getD 2 pm_U with
  | .int x => if 2 < L.length ∧ ¬ pm_ty (L.getD (2 - 1) pm_U) = 1 then fr S d (45, 49, L.set 2 (.int (x + 1)), st) M else none
  | _ => none := (fr_eq S (d) (45, 46, L, st) M).trans (x_oinc _ _ 2 1 45 49 L st M)
theorem f45_49 (S : pm_S) (d : Nat) (L : List Value) (st : List Value) (M : pm_M) : fr S (d) (45, 49, L, st) M = fr S d (45, 5, L, st) M := (fr_eq S (d) (45, 49, L, st) M).trans (x_ogo _ _ 45 5 L st M)
theorem f45_52 (S : pm_S) (d : Nat) (L : List Value) (st : List Value) (M : pm_M) : fr S (d) (45, 52, L, st) M = fr S d (45, 53, L, .int 0 :: st) M := (fr_eq S (d) (45, 52, L, st) M).trans (x_ocs _ _ (.int 0) 45 53 L st M)
theorem f45_53 (S : pm_S) (d : Nat) (L : List Value) (v : Value) (M : pm_M) : fr S (d) (45, 53, L, [v]) M = if pm_fit 3 v = true then some (.inl (some v), M) else none := (fr_eq S (d) (45, 53, L, [v]) M).trans (x_ort _ _ 3 v M)
theorem f46_0 (S : pm_S) (d : Nat) (L : List Value) (st : List Value) (M : pm_M) : fr S (d) (46, 0, L, st) M = if pm_ty (L.getD 0 pm_U) = 2 then fr S d (46, 1, L, L.getD 0 pm_U :: st) M else none := (fr_eq S (d) (46, 0, L, st) M).trans (x_old _ _ 2 0 46 1 L st M)
theorem f46_1 (S : pm_S) (d : Nat) (L : List Value) (st : List Value) (M : pm_M) : fr S (d) (46, 1, L, st) M = if pm_ty (L.getD 1 pm_U) = 2 then fr S d (46, 2, L, L.getD 1 pm_U :: st) M else none := (fr_eq S (d) (46, 1, L, st) M).trans (x_old _ _ 2 1 46 2 L st M)
theorem f46_2 (S : pm_S) (d : Nat) (L : List Value) (q : Nat) (r : List Value) (M : pm_M) : fr S (d) (46, 2, L, .ref q :: r) M = match pm_get M q with
  | some (.inr (c, fs)) => if c = 1 ∧ 5 < fs.length then fr S d (46, 5, L, fs.getD 5 pm_U :: r) M else none
  | _ => none := (fr_eq S (d) (46, 2, L, .ref q :: r) M).trans (x_ogf _ _ 1 5 46 5 L r q M)
theorem f46_5 (S : pm_S) (d : Nat) (L : List Value) (st : List Value) (M : pm_M) : fr S (d) (46, 5, L, st) M = if pm_ty (L.getD 1 pm_U) = 2 then fr S d (46, 6, L, L.getD 1 pm_U :: st) M else none := (fr_eq S (d) (46, 5, L, st) M).trans (x_old _ _ 2 1 46 6 L st M)
theorem f46_6 (S : pm_S) (d : Nat) (L : List Value) (q : Nat) (r : List Value) (M : pm_M) : fr S (d) (46, 6, L, .ref q :: r) M = match pm_get M q with
  | some (.inr (c, fs)) => if c = 1 ∧ 6 < fs.length then fr S d (46, 9, L, fs.getD 6 pm_U :: r) M else none
  | _ => none := (fr_eq S (d) (46, 6, L, .ref q :: r) M).trans (x_ogf _ _ 1 6 46 9 L r q M)
theorem f46_9 (S : pm_S) (d : Nat) (L : List Value) (st : List Value) (M : pm_M) : fr S (d) (46, 9, L, st) M = if pm_ty (L.getD 1 pm_U) = 2 then fr S d (46, 10, L, L.getD 1 pm_U :: st) M else none := (fr_eq S (d) (46, 9, L, st) M).trans (x_old _ _ 2 1 46 10 L st M)
theorem f46_10 (S : pm_S) (d : Nat) (L : List Value) (q : Nat) (r : List Value) (M : pm_M) : fr S (d) (46, 10, L, .ref q :: r) M = match pm_get M q with
  | some (.inr (c, fs)) => if c = 1 ∧ 7 < fs.length then fr S d (46, 13, L, fs.getD 7 pm_U :: r) M else none
  | _ => none := (fr_eq S (d) (46, 10, L, .ref q :: r) M).trans (x_ogf _ _ 1 7 46 13 L r q M)
theorem f46_13 (S : pm_S) (d : Nat) (L : List Value) (st : List Value) (M : pm_M) : fr S (d + 1) (46, 13, L, st) M = match pm_ag 4 [] st with
  | some (a, r) => if r.length ≤ 4 ∧ (1 = 0 ∨ pm_obj M 0 (a.headD pm_U) = true) then (match fr S d (29, 0, a ++ [], []) M with
    | none => none
    | some (.inl v, M') => fr S (d + 1) (46, 16, L, v.toList ++ r) M'
    | some (.inr E, M') => some (.inr E, M')) else none
  | none => none := (fr_eq S (d + 1) (46, 13, L, st) M).trans (x_ocl _ _ 1 29 4 0 [] 46 16 L st M)
theorem f46_16 (S : pm_S) (d : Nat) (L : List Value) (v : Value) (r : List Value) (M : pm_M) : fr S (d) (46, 16, L, v :: r) M = if pm_ty v = 0 ∧ 2 < L.length ∧ ¬ pm_ty (L.getD (2 - 1) pm_U) = 1 then fr S d (46, 17, L.set 2 v, r) M else none := (fr_eq S (d) (46, 16, L, v :: r) M).trans (x_ost _ _ 0 2 46 17 L r v M)
theorem f46_17 (S : pm_S) (d : Nat) (L : List Value) (st : List Value) (M : pm_M) : fr S (d) (46, 17, L, st) M = if pm_ty (L.getD 1 pm_U) = 2 then fr S d (46, 18, L, L.getD 1 pm_U :: st) M else none := (fr_eq S (d) (46, 17, L, st) M).trans (x_old _ _ 2 1 46 18 L st M)
theorem f46_18 (S : pm_S) (d : Nat) (L : List Value) (q : Nat) (r : List Value) (M : pm_M) : fr S (d) (46, 18, L, .ref q :: r) M = match pm_get M q with
  | some (.inr (c, fs)) => if c = 1 ∧ 4 < fs.length then fr S d (46, 21, L, fs.getD 4 pm_U :: r) M else none
  | _ => none := (fr_eq S (d) (46, 18, L, .ref q :: r) M).trans (x_ogf _ _ 1 4 46 21 L r q M)
theorem f46_21 (S : pm_S) (d : Nat) (L : List Value) (st : List Value) (M : pm_M) : fr S (d) (46, 21, L, st) M = fr S d (46, 22, L, .int 1 :: st) M := (fr_eq S (d) (46, 21, L, st) M).trans (x_ocs _ _ (.int 1) 46 22 L st M)
theorem f46_22 (S : pm_S) (d : Nat) (L : List Value) (x y : Int32) (r : List Value) (M : pm_M) : fr S (d) (46, 22, L, .int y :: .int x :: r) M = if ¬ x = y then fr S d (46, 43, L, r) M else fr S d (46, 25, L, r) M := (fr_eq S (d) (46, 22, L, .int y :: .int x :: r) M).trans (x_oc2ne _ _ 46 25 43 L r x y M)
theorem f46_25 (S : pm_S) (d : Nat) (L : List Value) (st : List Value) (M : pm_M) : fr S (d) (46, 25, L, st) M = if pm_ty (L.getD 2 pm_U) = 0 then fr S d (46, 26, L, L.getD 2 pm_U :: st) M else none := (fr_eq S (d) (46, 25, L, st) M).trans (x_old _ _ 0 2 46 26 L st M)
theorem f46_26 (S : pm_S) (d : Nat) (L : List Value) (st : List Value) (M : pm_M) : fr S (d) (46, 26, L, st) M = fr S d (46, 27, L, .int (-1) :: st) M := (fr_eq S (d) (46, 26, L, st) M).trans (x_ocs _ _ (.int (-1)) 46 27 L st M)
theorem f46_27 (S : pm_S) (d : Nat) (L : List Value) (x y : Int32) (r : List Value) (M : pm_M) : fr S (d) (46, 27, L, .int y :: .int x :: r) M = if x = y then fr S d (46, 43, L, r) M else fr S d (46, 30, L, r) M := (fr_eq S (d) (46, 27, L, .int y :: .int x :: r) M).trans (x_oc2eq _ _ 46 30 43 L r x y M)
theorem f46_30 (S : pm_S) (d : Nat) (L : List Value) (st : List Value) (M : pm_M) : fr S (d) (46, 30, L, st) M = if pm_ty (L.getD 0 pm_U) = 2 then fr S d (46, 31, L, L.getD 0 pm_U :: st) M else none := (fr_eq S (d) (46, 30, L, st) M).trans (x_old _ _ 2 0 46 31 L st M)
theorem f46_31 (S : pm_S) (d : Nat) (L : List Value) (q : Nat) (r : List Value) (M : pm_M) : fr S (d) (46, 31, L, .ref q :: r) M = match pm_get M q with
  | some (.inr (c, fs)) => if c = 0 ∧ 6 < fs.length then fr S d (46, 34, L, fs.getD 6 pm_U :: r) M else none
  | _ => none := (fr_eq S (d) (46, 31, L, .ref q :: r) M).trans (x_ogf _ _ 0 6 46 34 L r q M)
theorem f46_34 (S : pm_S) (d : Nat) (L : List Value) (st : List Value) (M : pm_M) : fr S (d) (46, 34, L, st) M = if pm_ty (L.getD 2 pm_U) = 0 then fr S d (46, 35, L, L.getD 2 pm_U :: st) M else none := (fr_eq S (d) (46, 34, L, st) M).trans (x_old _ _ 0 2 46 35 L st M)
theorem f46_35 (S : pm_S) (d : Nat) (L : List Value) (i : Int32) (q : Nat) (hq : ¬ q = 1) (r : List Value) (M : pm_M) : fr S (d) (46, 35, L, .int i :: .ref q :: r) M = match (pm_get M q).bind (fun c => pm_el 1 c i) with
  | some v => fr S d (46, 36, L, v :: r) M
  | none => none := (fr_eq S (d) (46, 35, L, .int i :: .ref q :: r) M).trans (x_oal _ _ S 1 46 36 L r i q hq M)
theorem f46_36 (S : pm_S) (d : Nat) (L : List Value) (x : Int32) (r : List Value) (M : pm_M) : fr S (d) (46, 36, L, .int x :: r) M = if ¬ x = 0 then fr S d (46, 43, L, r) M else fr S d (46, 39, L, r) M := (fr_eq S (d) (46, 36, L, .int x :: r) M).trans (x_oc1ne _ _ 46 39 43 L r x M)
theorem f46_39 (S : pm_S) (d : Nat) (L : List Value) (st : List Value) (M : pm_M) : fr S (d) (46, 39, L, st) M = fr S d (46, 40, L, .int 1 :: st) M := (fr_eq S (d) (46, 39, L, st) M).trans (x_ocs _ _ (.int 1) 46 40 L st M)
theorem f46_40 (S : pm_S) (d : Nat) (L : List Value) (st : List Value) (M : pm_M) : fr S (d) (46, 40, L, st) M = fr S d (46, 44, L, st) M := (fr_eq S (d) (46, 40, L, st) M).trans (x_ogo _ _ 46 44 L st M)
theorem f46_43 (S : pm_S) (d : Nat) (L : List Value) (st : List Value) (M : pm_M) : fr S (d) (46, 43, L, st) M = fr S d (46, 44, L, .int 0 :: st) M := (fr_eq S (d) (46, 43, L, st) M).trans (x_ocs _ _ (.int 0) 46 44 L st M)
theorem f46_44 (S : pm_S) (d : Nat) (L : List Value) (v : Value) (M : pm_M) : fr S (d) (46, 44, L, [v]) M = if pm_fit 3 v = true then some (.inl (some v), M) else none := (fr_eq S (d) (46, 44, L, [v]) M).trans (x_ort _ _ 3 v M)
theorem f47_0 (S : pm_S) (d : Nat) (L : List Value) (st : List Value) (M : pm_M) : fr S (d) (47, 0, L, st) M = if pm_ty (L.getD 1 pm_U) = 2 then fr S d (47, 1, L, L.getD 1 pm_U :: st) M else none := (fr_eq S (d) (47, 0, L, st) M).trans (x_old _ _ 2 1 47 1 L st M)
theorem f47_1 (S : pm_S) (d : Nat) (L : List Value) (q : Nat) (r : List Value) (M : pm_M) : fr S (d) (47, 1, L, .ref q :: r) M = match pm_get M q with
  | some (.inr (c, fs)) => if c = 1 ∧ 4 < fs.length then fr S d (47, 4, L, fs.getD 4 pm_U :: r) M else none
  | _ => none := (fr_eq S (d) (47, 1, L, .ref q :: r) M).trans (x_ogf _ _ 1 4 47 4 L r q M)
theorem f47_4 (S : pm_S) (d : Nat) (L : List Value) (st : List Value) (M : pm_M) : fr S (d) (47, 4, L, st) M = fr S d (47, 5, L, .int 2 :: st) M := (fr_eq S (d) (47, 4, L, st) M).trans (x_ocs _ _ (.int 2) 47 5 L st M)
theorem f47_5 (S : pm_S) (d : Nat) (L : List Value) (x y : Int32) (r : List Value) (M : pm_M) : fr S (d) (47, 5, L, .int y :: .int x :: r) M = if x = y then fr S d (47, 10, L, r) M else fr S d (47, 8, L, r) M := (fr_eq S (d) (47, 5, L, .int y :: .int x :: r) M).trans (x_oc2eq _ _ 47 8 10 L r x y M)
theorem f47_8 (S : pm_S) (d : Nat) (L : List Value) (st : List Value) (M : pm_M) : fr S (d) (47, 8, L, st) M = fr S d (47, 9, L, .int 0 :: st) M := (fr_eq S (d) (47, 8, L, st) M).trans (x_ocs _ _ (.int 0) 47 9 L st M)
theorem f47_9 (S : pm_S) (d : Nat) (L : List Value) (v : Value) (M : pm_M) : fr S (d) (47, 9, L, [v]) M = if pm_fit 3 v = true then some (.inl (some v), M) else none := (fr_eq S (d) (47, 9, L, [v]) M).trans (x_ort _ _ 3 v M)
theorem f47_10 (S : pm_S) (d : Nat) (L : List Value) (st : List Value) (M : pm_M) : fr S (d) (47, 10, L, st) M = if pm_ty (L.getD 1 pm_U) = 2 then fr S d (47, 11, L, L.getD 1 pm_U :: st) M else none := (fr_eq S (d) (47, 10, L, st) M).trans (x_old _ _ 2 1 47 11 L st M)
theorem f47_11 (S : pm_S) (d : Nat) (L : List Value) (q : Nat) (r : List Value) (M : pm_M) : fr S (d) (47, 11, L, .ref q :: r) M = match pm_get M q with
  | some (.inr (c, fs)) => if c = 1 ∧ 7 < fs.length then fr S d (47, 14, L, fs.getD 7 pm_U :: r) M else none
  | _ => none := (fr_eq S (d) (47, 11, L, .ref q :: r) M).trans (x_ogf _ _ 1 7 47 14 L r q M)
theorem f47_14 (S : pm_S) (d : Nat) (L : List Value) (st : List Value) (M : pm_M) : fr S (d) (47, 14, L, st) M = if pm_ty (L.getD 0 pm_U) = 2 then fr S d (47, 15, L, L.getD 0 pm_U :: st) M else none := (fr_eq S (d) (47, 14, L, st) M).trans (x_old _ _ 2 0 47 15 L st M)
theorem f47_15 (S : pm_S) (d : Nat) (L : List Value) (q : Nat) (r : List Value) (M : pm_M) : fr S (d) (47, 15, L, .ref q :: r) M = match pm_get M q with
  | some (.inr (c, fs)) => if c = 0 ∧ 2 < fs.length then fr S d (47, 18, L, fs.getD 2 pm_U :: r) M else none
  | _ => none := (fr_eq S (d) (47, 15, L, .ref q :: r) M).trans (x_ogf _ _ 0 2 47 18 L r q M)
theorem f47_18 (S : pm_S) (d : Nat) (L : List Value) (st : List Value) (M : pm_M) : fr S (d) (47, 18, L, st) M = fr S d (47, 19, L, .int 1 :: st) M := (fr_eq S (d) (47, 18, L, st) M).trans (x_ocs _ _ (.int 1) 47 19 L st M)
theorem f47_19 (S : pm_S) (d : Nat) (L : List Value) (x y : Int32) (r : List Value) (M : pm_M) : fr S (d) (47, 19, L, .int y :: .int x :: r) M = fr S d (47, 20, L, .int (x - y) :: r) M := (fr_eq S (d) (47, 19, L, .int y :: .int x :: r) M).trans (x_oii _ _ (fun x y => x - y) 47 20 L r x y M)
theorem f47_20 (S : pm_S) (d : Nat) (L : List Value) (x y : Int32) (r : List Value) (M : pm_M) : fr S (d) (47, 20, L, .int y :: .int x :: r) M = if x = y then fr S d (47, 48, L, r) M else fr S d (47, 23, L, r) M := (fr_eq S (d) (47, 20, L, .int y :: .int x :: r) M).trans (x_oc2eq _ _ 47 23 48 L r x y M)
theorem f47_23 (S : pm_S) (d : Nat) (L : List Value) (st : List Value) (M : pm_M) : fr S (d) (47, 23, L, st) M = if pm_ty (L.getD 0 pm_U) = 2 then fr S d (47, 24, L, L.getD 0 pm_U :: st) M else none := (fr_eq S (d) (47, 23, L, st) M).trans (x_old _ _ 2 0 47 24 L st M)
theorem f47_24 (S : pm_S) (d : Nat) (L : List Value) (st : List Value) (M : pm_M) : fr S (d) (47, 24, L, st) M = if pm_ty (L.getD 1 pm_U) = 2 then fr S d (47, 25, L, L.getD 1 pm_U :: st) M else none := (fr_eq S (d) (47, 24, L, st) M).trans (x_old _ _ 2 1 47 25 L st M)
theorem f47_25 (S : pm_S) (d : Nat) (L : List Value) (q : Nat) (r : List Value) (M : pm_M) : fr S (d) (47, 25, L, .ref q :: r) M = match pm_get M q with
  | some (.inr (c, fs)) => if c = 1 ∧ 5 < fs.length then fr S d (47, 28, L, fs.getD 5 pm_U :: r) M else none
  | _ => none := (fr_eq S (d) (47, 25, L, .ref q :: r) M).trans (x_ogf _ _ 1 5 47 28 L r q M)
theorem f47_28 (S : pm_S) (d : Nat) (L : List Value) (st : List Value) (M : pm_M) : fr S (d) (47, 28, L, st) M = if pm_ty (L.getD 1 pm_U) = 2 then fr S d (47, 29, L, L.getD 1 pm_U :: st) M else none := (fr_eq S (d) (47, 28, L, st) M).trans (x_old _ _ 2 1 47 29 L st M)
theorem f47_29 (S : pm_S) (d : Nat) (L : List Value) (st : List Value) (M : pm_M) : fr S (d + 1) (47, 29, L, st) M = match pm_ag 1 [] st with
  | some (a, r) => if r.length ≤ 4 ∧ (1 = 0 ∨ pm_obj M 1 (a.headD pm_U) = true) then (match fr S d (62, 0, a ++ [], []) M with
    | none => none
    | some (.inl v, M') => fr S (d + 1) (47, 32, L, v.toList ++ r) M'
    | some (.inr E, M') => some (.inr E, M')) else none
  | none => none := (fr_eq S (d + 1) (47, 29, L, st) M).trans (x_ocl _ _ 1 62 1 1 [] 47 32 L st M)
theorem f47_32 (S : pm_S) (d : Nat) (L : List Value) (st : List Value) (M : pm_M) : fr S (d) (47, 32, L, st) M = if pm_ty (L.getD 1 pm_U) = 2 then fr S d (47, 33, L, L.getD 1 pm_U :: st) M else none := (fr_eq S (d) (47, 32, L, st) M).trans (x_old _ _ 2 1 47 33 L st M)
theorem f47_33 (S : pm_S) (d : Nat) (L : List Value) (q : Nat) (r : List Value) (M : pm_M) : fr S (d) (47, 33, L, .ref q :: r) M = match pm_get M q with
  | some (.inr (c, fs)) => if c = 1 ∧ 6 < fs.length then fr S d (47, 36, L, fs.getD 6 pm_U :: r) M else none
  | _ => none := (fr_eq S (d) (47, 33, L, .ref q :: r) M).trans (x_ogf _ _ 1 6 47 36 L r q M)
theorem f47_36 (S : pm_S) (d : Nat) (L : List Value) (st : List Value) (M : pm_M) : fr S (d) (47, 36, L, st) M = if pm_ty (L.getD 1 pm_U) = 2 then fr S d (47, 37, L, L.getD 1 pm_U :: st) M else none := (fr_eq S (d) (47, 36, L, st) M).trans (x_old _ _ 2 1 47 37 L st M)
theorem f47_37 (S : pm_S) (d : Nat) (L : List Value) (q : Nat) (r : List Value) (M : pm_M) : fr S (d) (47, 37, L, .ref q :: r) M = match pm_get M q with
  | some (.inr (c, fs)) => if c = 1 ∧ 7 < fs.length then fr S d (47, 40, L, fs.getD 7 pm_U :: r) M else none
  | _ => none := (fr_eq S (d) (47, 37, L, .ref q :: r) M).trans (x_ogf _ _ 1 7 47 40 L r q M)
theorem f47_40 (S : pm_S) (d : Nat) (L : List Value) (st : List Value) (M : pm_M) : fr S (d) (47, 40, L, st) M = fr S d (47, 41, L, .int 1 :: st) M := (fr_eq S (d) (47, 40, L, st) M).trans (x_ocs _ _ (.int 1) 47 41 L st M)
theorem f47_41 (S : pm_S) (d : Nat) (L : List Value) (x y : Int32) (r : List Value) (M : pm_M) : fr S (d) (47, 41, L, .int y :: .int x :: r) M = fr S d (47, 42, L, .int (x + y) :: r) M := (fr_eq S (d) (47, 41, L, .int y :: .int x :: r) M).trans (x_oii _ _ (fun x y => x + y) 47 42 L r x y M)
theorem f47_42 (S : pm_S) (d : Nat) (L : List Value) (st : List Value) (M : pm_M) : fr S (d + 1) (47, 42, L, st) M = match pm_ag 5 [] st with
  | some (a, r) => if r.length ≤ 4 ∧ (1 = 0 ∨ pm_obj M 0 (a.headD pm_U) = true) then (match fr S d (32, 0, a ++ [pm_U], []) M with
    | none => none
    | some (.inl v, M') => fr S (d + 1) (47, 45, L, v.toList ++ r) M'
    | some (.inr E, M') => some (.inr E, M')) else none
  | none => none := (fr_eq S (d + 1) (47, 42, L, st) M).trans (x_ocl _ _ 1 32 5 0 [pm_U] 47 45 L st M)
theorem f47_45 (S : pm_S) (d : Nat) (L : List Value) (x : Int32) (r : List Value) (M : pm_M) : fr S (d) (47, 45, L, .int x :: r) M = if ¬ x = 0 then fr S d (47, 52, L, r) M else fr S d (47, 48, L, r) M := (fr_eq S (d) (47, 45, L, .int x :: r) M).trans (x_oc1ne _ _ 47 48 52 L r x M)
theorem f47_48 (S : pm_S) (d : Nat) (L : List Value) (st : List Value) (M : pm_M) : fr S (d) (47, 48, L, st) M = fr S d (47, 49, L, .int 1 :: st) M := (fr_eq S (d) (47, 48, L, st) M).trans (x_ocs _ _ (.int 1) 47 49 L st M)
theorem f47_49 (S : pm_S) (d : Nat) (L : List Value) (st : List Value) (M : pm_M) : fr S (d) (47, 49, L, st) M = fr S d (47, 53, L, st) M := (fr_eq S (d) (47, 49, L, st) M).trans (x_ogo _ _ 47 53 L st M)
theorem f47_52 (S : pm_S) (d : Nat) (L : List Value) (st : List Value) (M : pm_M) : fr S (d) (47, 52, L, st) M = fr S d (47, 53, L, .int 0 :: st) M := (fr_eq S (d) (47, 52, L, st) M).trans (x_ocs _ _ (.int 0) 47 53 L st M)
theorem f47_53 (S : pm_S) (d : Nat) (L : List Value) (v : Value) (M : pm_M) : fr S (d) (47, 53, L, [v]) M = if pm_fit 3 v = true then some (.inl (some v), M) else none := (fr_eq S (d) (47, 53, L, [v]) M).trans (x_ort _ _ 3 v M)
theorem f48_0 (S : pm_S) (d : Nat) (L : List Value) (st : List Value) (M : pm_M) : fr S (d) (48, 0, L, st) M = if pm_ty (L.getD 1 pm_U) = 2 then fr S d (48, 1, L, L.getD 1 pm_U :: st) M else none := (fr_eq S (d) (48, 0, L, st) M).trans (x_old _ _ 2 1 48 1 L st M)
theorem f48_1 (S : pm_S) (d : Nat) (L : List Value) (q : Nat) (r : List Value) (M : pm_M) : fr S (d) (48, 1, L, .ref q :: r) M = match pm_get M q with
  | some (.inr (c, fs)) => if c = 1 ∧ 0 < fs.length then fr S d (48, 4, L, fs.getD 0 pm_U :: r) M else none
  | _ => none := (fr_eq S (d) (48, 1, L, .ref q :: r) M).trans (x_ogf _ _ 1 0 48 4 L r q M)
theorem f48_4 (S : pm_S) (d : Nat) (L : List Value) (st : List Value) (M : pm_M) : fr S (d) (48, 4, L, st) M = fr S d (48, 5, L, .int 1 :: st) M := (fr_eq S (d) (48, 4, L, st) M).trans (x_ocs _ _ (.int 1) 48 5 L st M)
theorem f48_5 (S : pm_S) (d : Nat) (L : List Value) (x y : Int32) (r : List Value) (M : pm_M) : fr S (d) (48, 5, L, .int y :: .int x :: r) M = fr S d (48, 6, L, .int (x + y) :: r) M := (fr_eq S (d) (48, 5, L, .int y :: .int x :: r) M).trans (x_oii _ _ (fun x y => x + y) 48 6 L r x y M)
theorem f48_6 (S : pm_S) (d : Nat) (L : List Value) (v : Value) (r : List Value) (M : pm_M) : fr S (d) (48, 6, L, v :: r) M = if pm_ty v = 0 ∧ 2 < L.length ∧ ¬ pm_ty (L.getD (2 - 1) pm_U) = 1 then fr S d (48, 7, L.set 2 v, r) M else none := (fr_eq S (d) (48, 6, L, v :: r) M).trans (x_ost _ _ 0 2 48 7 L r v M)
theorem f48_7 (S : pm_S) (d : Nat) (L : List Value) (st : List Value) (M : pm_M) : fr S (d) (48, 7, L, st) M = if pm_ty (L.getD 2 pm_U) = 0 then fr S d (48, 8, L, L.getD 2 pm_U :: st) M else none := (fr_eq S (d) (48, 7, L, st) M).trans (x_old _ _ 0 2 48 8 L st M)
theorem f48_8 (S : pm_S) (d : Nat) (L : List Value) (st : List Value) (M : pm_M) : fr S (d) (48, 8, L, st) M = if pm_ty (L.getD 0 pm_U) = 2 then fr S d (48, 9, L, L.getD 0 pm_U :: st) M else none := (fr_eq S (d) (48, 8, L, st) M).trans (x_old _ _ 2 0 48 9 L st M)
theorem f48_9 (S : pm_S) (d : Nat) (L : List Value) (q : Nat) (r : List Value) (M : pm_M) : fr S (d) (48, 9, L, .ref q :: r) M = match pm_get M q with
  | some (.inr (c, fs)) => if c = 0 ∧ 4 < fs.length then fr S d (48, 12, L, fs.getD 4 pm_U :: r) M else none
  | _ => none := (fr_eq S (d) (48, 9, L, .ref q :: r) M).trans (x_ogf _ _ 0 4 48 12 L r q M)
theorem f48_12 (S : pm_S) (d : Nat) (L : List Value) (x y : Int32) (r : List Value) (M : pm_M) : fr S (d) (48, 12, L, .int y :: .int x :: r) M = if y ≤ x then fr S d (48, 56, L, r) M else fr S d (48, 15, L, r) M := (fr_eq S (d) (48, 12, L, .int y :: .int x :: r) M).trans (x_oc2ge _ _ 48 15 56 L r x y M)
theorem f48_15 (S : pm_S) (d : Nat) (L : List Value) (st : List Value) (M : pm_M) : fr S (d) (48, 15, L, st) M = if pm_ty (L.getD 0 pm_U) = 2 then fr S d (48, 16, L, L.getD 0 pm_U :: st) M else none := (fr_eq S (d) (48, 15, L, st) M).trans (x_old _ _ 2 0 48 16 L st M)
theorem f48_16 (S : pm_S) (d : Nat) (L : List Value) (st : List Value) (M : pm_M) : fr S (d) (48, 16, L, st) M = if pm_ty (L.getD 2 pm_U) = 0 then fr S d (48, 17, L, L.getD 2 pm_U :: st) M else none := (fr_eq S (d) (48, 16, L, st) M).trans (x_old _ _ 0 2 48 17 L st M)
theorem f48_17 (S : pm_S) (d : Nat) (L : List Value) (st : List Value) (M : pm_M) : fr S (d + 1) (48, 17, L, st) M = match pm_ag 2 [] st with
  | some (a, r) => if r.length ≤ 4 ∧ (1 = 0 ∨ pm_obj M 0 (a.headD pm_U) = true) then (match fr S d (30, 0, a ++ [], []) M with
    | none => none
    | some (.inl v, M') => fr S (d + 1) (48, 20, L, v.toList ++ r) M'
    | some (.inr E, M') => some (.inr E, M')) else none
  | none => none := (fr_eq S (d + 1) (48, 17, L, st) M).trans (x_ocl _ _ 1 30 2 0 [] 48 20 L st M)
theorem f48_20 (S : pm_S) (d : Nat) (L : List Value) (v : Value) (r : List Value) (M : pm_M) : fr S (d) (48, 20, L, v :: r) M = if pm_ty v = 2 ∧ 3 < L.length ∧ ¬ pm_ty (L.getD (3 - 1) pm_U) = 1 then fr S d (48, 21, L.set 3 v, r) M else none := (fr_eq S (d) (48, 20, L, v :: r) M).trans (x_ost _ _ 2 3 48 21 L r v M)
theorem f48_21 (S : pm_S) (d : Nat) (L : List Value) (st : List Value) (M : pm_M) : fr S (d) (48, 21, L, st) M = if pm_ty (L.getD 3 pm_U) = 2 then fr S d (48, 22, L, L.getD 3 pm_U :: st) M else none := (fr_eq S (d) (48, 21, L, st) M).trans (x_old _ _ 2 3 48 22 L st M)
theorem f48_22 (S : pm_S) (d : Nat) (L : List Value) (v : Value) (r : List Value) (M : pm_M) : fr S (d) (48, 22, L, v :: r) M = if pm_ty v = 2 then (if v = .null then fr S d (48, 50, L, r) M else fr S d (48, 25, L, r) M) else none := (fr_eq S (d) (48, 22, L, v :: r) M).trans (x_onu _ _ 50 25 48 L r v M)
theorem f48_25 (S : pm_S) (d : Nat) (L : List Value) (st : List Value) (M : pm_M) : fr S (d) (48, 25, L, st) M = if pm_ty (L.getD 3 pm_U) = 2 then fr S d (48, 26, L, L.getD 3 pm_U :: st) M else none := (fr_eq S (d) (48, 25, L, st) M).trans (x_old _ _ 2 3 48 26 L st M)
theorem f48_26 (S : pm_S) (d : Nat) (L : List Value) (st : List Value) (M : pm_M) : fr S (d + 1) (48, 26, L, st) M = match pm_ag 1 [] st with
  | some (a, r) => if r.length ≤ 4 ∧ (1 = 0 ∨ pm_obj M 1 (a.headD pm_U) = true) then (match fr S d (64, 0, a ++ [], []) M with
    | none => none
    | some (.inl v, M') => fr S (d + 1) (48, 29, L, v.toList ++ r) M'
    | some (.inr E, M') => some (.inr E, M')) else none
  | none => none := (fr_eq S (d + 1) (48, 26, L, st) M).trans (x_ocl _ _ 1 64 1 1 [] 48 29 L st M)
theorem f48_29 (S : pm_S) (d : Nat) (L : List Value) (x : Int32) (r : List Value) (M : pm_M) : fr S (d) (48, 29, L, .int x :: r) M = if x = 0 then fr S d (48, 50, L, r) M else fr S d (48, 32, L, r) M := (fr_eq S (d) (48, 29, L, .int x :: r) M).trans (x_oc1eq _ _ 48 32 50 L r x M)
theorem f48_32 (S : pm_S) (d : Nat) (L : List Value) (st : List Value) (M : pm_M) : fr S (d) (48, 32, L, st) M = if pm_ty (L.getD 1 pm_U) = 2 then fr S d (48, 33, L, L.getD 1 pm_U :: st) M else none := (fr_eq S (d) (48, 32, L, st) M).trans (x_old _ _ 2 1 48 33 L st M)
theorem f48_33 (S : pm_S) (d : Nat) (L : List Value) (st : List Value) (M : pm_M) : fr S (d) (48, 33, L, st) M = if pm_ty (L.getD 3 pm_U) = 2 then fr S d (48, 34, L, L.getD 3 pm_U :: st) M else none := (fr_eq S (d) (48, 33, L, st) M).trans (x_old _ _ 2 3 48 34 L st M)
theorem f48_34 (S : pm_S) (d : Nat) (L : List Value) (st : List Value) (M : pm_M) : fr S (d + 1) (48, 34, L, st) M = match pm_ag 2 [] st with
  | some (a, r) => if r.length ≤ 4 ∧ (1 = 0 ∨ pm_obj M 1 (a.headD pm_U) = true) then (match fr S d (66, 0, a ++ [], []) M with
    | none => none
    | some (.inl v, M') => fr S (d + 1) (48, 37, L, v.toList ++ r) M'
    | some (.inr E, M') => some (.inr E, M')) else none
  | none => none := (fr_eq S (d + 1) (48, 34, L, st) M).trans (x_ocl _ _ 1 66 2 1 [] 48 37 L st M)
theorem f48_37 (S : pm_S) (d : Nat) (L : List Value) (x : Int32) (r : List Value) (M : pm_M) : fr S (d) (48, 37, L, .int x :: r) M = if x = 0 then fr S d (48, 50, L, r) M else fr S d (48, 40, L, r) M := (fr_eq S (d) (48, 37, L, .int x :: r) M).trans (x_oc1eq _ _ 48 40 50 L r x M)
theorem f48_40 (S : pm_S) (d : Nat) (L : List Value) (st : List Value) (M : pm_M) : fr S (d) (48, 40, L, st) M = if pm_ty (L.getD 1 pm_U) = 2 then fr S d (48, 41, L, L.getD 1 pm_U :: st) M else none := (fr_eq S (d) (48, 40, L, st) M).trans (x_old _ _ 2 1 48 41 L st M)
theorem f48_41 (S : pm_S) (d : Nat) (L : List Value) (st : List Value) (M : pm_M) : fr S (d) (48, 41, L, st) M = if pm_ty (L.getD 3 pm_U) = 2 then fr S d (48, 42, L, L.getD 3 pm_U :: st) M else none := (fr_eq S (d) (48, 41, L, st) M).trans (x_old _ _ 2 3 48 42 L st M)
theorem f48_42 (S : pm_S) (d : Nat) (L : List Value) (st : List Value) (M : pm_M) : fr S (d + 1) (48, 42, L, st) M = match pm_ag 2 [] st with
  | some (a, r) => if r.length ≤ 4 ∧ (1 = 0 ∨ pm_obj M 1 (a.headD pm_U) = true) then (match fr S d (70, 0, a ++ [pm_U, pm_U, pm_U], []) M with
    | none => none
    | some (.inl v, M') => fr S (d + 1) (48, 45, L, v.toList ++ r) M'
    | some (.inr E, M') => some (.inr E, M')) else none
  | none => none := (fr_eq S (d + 1) (48, 42, L, st) M).trans (x_ocl _ _ 1 70 2 1 [pm_U, pm_U, pm_U] 48 45 L st M)
theorem f48_45 (S : pm_S) (d : Nat) (L : List Value) (x : Int32) (r : List Value) (M : pm_M) : fr S (d) (48, 45, L, .int x :: r) M = if x = 0 then fr S d (48, 50, L, r) M else fr S d (48, 48, L, r) M := (fr_eq S (d) (48, 45, L, .int x :: r) M).trans (x_oc1eq _ _ 48 48 50 L r x M)
theorem f48_48 (S : pm_S) (d : Nat) (L : List Value) (st : List Value) (M : pm_M) : fr S (d) (48, 48, L, st) M = fr S d (48, 49, L, .int 1 :: st) M := (fr_eq S (d) (48, 48, L, st) M).trans (x_ocs _ _ (.int 1) 48 49 L st M)
theorem f48_49 (S : pm_S) (d : Nat) (L : List Value) (v : Value) (M : pm_M) : fr S (d) (48, 49, L, [v]) M = if pm_fit 3 v = true then some (.inl (some v), M) else none := (fr_eq S (d) (48, 49, L, [v]) M).trans (x_ort _ _ 3 v M)
theorem f48_50 (S : pm_S) (d : Nat) (L : List Value) (st : List Value) (M : pm_M) : fr S (d) (48, 50, L, st) M = match L.getD 2 pm_U with
  | .int x => if 2 < L.length ∧ ¬ pm_ty (L.getD (2 - 1) pm_U) = 1 then fr S d (48, 53, L.set 2 (.int (x + 1)), st) M else none
  | _ => none := (fr_eq S (d) (48, 50, L, st) M).trans (x_oinc _ _ 2 1 48 53 L st M)
theorem f48_53 (S : pm_S) (d : Nat) (L : List Value) (st : List Value) (M : pm_M) : fr S (d) (48, 53, L, st) M = fr S d (48, 7, L, st) M := (fr_eq S (d) (48, 53, L, st) M).trans (x_ogo _ _ 48 7 L st M)
theorem f48_56 (S : pm_S) (d : Nat) (L : List Value) (st : List Value) (M : pm_M) : fr S (d) (48, 56, L, st) M = fr S d (48, 57, L, .int 0 :: st) M := (fr_eq S (d) (48, 56, L, st) M).trans (x_ocs _ _ (.int 0) 48 57 L st M)
theorem f48_57 (S : pm_S) (d : Nat) (L : List Value) (v : Value) (M : pm_M) : fr S (d) (48, 57, L, [v]) M = if pm_fit 3 v = true then some (.inl (some v), M) else none := (fr_eq S (d) (48, 57, L, [v]) M).trans (x_ort _ _ 3 v M)
theorem f49_0 (S : pm_S) (d : Nat) (L : List Value) (st : List Value) (M : pm_M) : fr S (d) (49, 0, L, st) M = if pm_ty (L.getD 1 pm_U) = 2 then fr S d (49, 1, L, L.getD 1 pm_U :: st) M else none := (fr_eq S (d) (49, 0, L, st) M).trans (x_old _ _ 2 1 49 1 L st M)
theorem f49_1 (S : pm_S) (d : Nat) (L : List Value) (st : List Value) (M : pm_M) : fr S (d + 1) (49, 1, L, st) M = match pm_ag 1 [] st with
  | some (a, r) => if r.length ≤ 4 ∧ (1 = 0 ∨ pm_obj M 1 (a.headD pm_U) = true) then (match fr S d (61, 0, a ++ [], []) M with
    | none => none
    | some (.inl v, M') => fr S (d + 1) (49, 4, L, v.toList ++ r) M'
    | some (.inr E, M') => some (.inr E, M')) else none
  | none => none := (fr_eq S (d + 1) (49, 1, L, st) M).trans (x_ocl _ _ 1 61 1 1 [] 49 4 L st M)
theorem f49_4 (S : pm_S) (d : Nat) (L : List Value) (x : Int32) (r : List Value) (M : pm_M) : fr S (d) (49, 4, L, .int x :: r) M = if ¬ x = 0 then fr S d (49, 9, L, r) M else fr S d (49, 7, L, r) M := (fr_eq S (d) (49, 4, L, .int x :: r) M).trans (x_oc1ne _ _ 49 7 9 L r x M)
theorem f49_7 (S : pm_S) (d : Nat) (L : List Value) (st : List Value) (M : pm_M) : fr S (d) (49, 7, L, st) M = fr S d (49, 8, L, .int 0 :: st) M := (fr_eq S (d) (49, 7, L, st) M).trans (x_ocs _ _ (.int 0) 49 8 L st M)
theorem f49_8 (S : pm_S) (d : Nat) (L : List Value) (v : Value) (M : pm_M) : fr S (d) (49, 8, L, [v]) M = if pm_fit 3 v = true then some (.inl (some v), M) else none := (fr_eq S (d) (49, 8, L, [v]) M).trans (x_ort _ _ 3 v M)
theorem f49_9 (S : pm_S) (d : Nat) (L : List Value) (st : List Value) (M : pm_M) : fr S (d) (49, 9, L, st) M = fr S d (49, 10, L, .int 0 :: st) M := (fr_eq S (d) (49, 9, L, st) M).trans (x_ocs _ _ (.int 0) 49 10 L st M)
theorem f49_10 (S : pm_S) (d : Nat) (L : List Value) (v : Value) (r : List Value) (M : pm_M) : fr S (d) (49, 10, L, v :: r) M = if pm_ty v = 0 ∧ 2 < L.length ∧ ¬ pm_ty (L.getD (2 - 1) pm_U) = 1 then fr S d (49, 11, L.set 2 v, r) M else none := (fr_eq S (d) (49, 10, L, v :: r) M).trans (x_ost _ _ 0 2 49 11 L r v M)
theorem f49_11 (S : pm_S) (d : Nat) (L : List Value) (st : List Value) (M : pm_M) : fr S (d) (49, 11, L, st) M = if pm_ty (L.getD 1 pm_U) = 2 then fr S d (49, 12, L, L.getD 1 pm_U :: st) M else none := (fr_eq S (d) (49, 11, L, st) M).trans (x_old _ _ 2 1 49 12 L st M)
theorem f49_12 (S : pm_S) (d : Nat) (L : List Value) (q : Nat) (r : List Value) (M : pm_M) : fr S (d) (49, 12, L, .ref q :: r) M = match pm_get M q with
  | some (.inr (c, fs)) => if c = 1 ∧ 5 < fs.length then fr S d (49, 15, L, fs.getD 5 pm_U :: r) M else none
  | _ => none := (fr_eq S (d) (49, 12, L, .ref q :: r) M).trans (x_ogf _ _ 1 5 49 15 L r q M)
theorem f49_15 (S : pm_S) (d : Nat) (L : List Value) (v : Value) (r : List Value) (M : pm_M) : fr S (d) (49, 15, L, v :: r) M = if pm_ty v = 0 ∧ 3 < L.length ∧ ¬ pm_ty (L.getD (3 - 1) pm_U) = 1 then fr S d (49, 16, L.set 3 v, r) M else none := (fr_eq S (d) (49, 15, L, v :: r) M).trans (x_ost _ _ 0 3 49 16 L r v M)
theorem f49_16 (S : pm_S) (d : Nat) (L : List Value) (st : List Value) (M : pm_M) : fr S (d) (49, 16, L, st) M = if pm_ty (L.getD 3 pm_U) = 0 then fr S d (49, 17, L, L.getD 3 pm_U :: st) M else none := (fr_eq S (d) (49, 16, L, st) M).trans (x_old _ _ 0 3 49 17 L st M)
theorem f49_17 (S : pm_S) (d : Nat) (L : List Value) (st : List Value) (M : pm_M) : fr S (d) (49, 17, L, st) M = if pm_ty (L.getD 1 pm_U) = 2 then fr S d (49, 18, L, L.getD 1 pm_U :: st) M else none := (fr_eq S (d) (49, 17, L, st) M).trans (x_old _ _ 2 1 49 18 L st M)
theorem f49_18 (S : pm_S) (d : Nat) (L : List Value) (st : List Value) (M : pm_M) : fr S (d + 1) (49, 18, L, st) M = match pm_ag 1 [] st with
  | some (a, r) => if r.length ≤ 4 ∧ (1 = 0 ∨ pm_obj M 1 (a.headD pm_U) = true) then (match fr S d (62, 0, a ++ [], []) M with
    | none => none
    | some (.inl v, M') => fr S (d + 1) (49, 21, L, v.toList ++ r) M'
    | some (.inr E, M') => some (.inr E, M')) else none
  | none => none := (fr_eq S (d + 1) (49, 18, L, st) M).trans (x_ocl _ _ 1 62 1 1 [] 49 21 L st M)
theorem f49_21 (S : pm_S) (d : Nat) (L : List Value) (x y : Int32) (r : List Value) (M : pm_M) : fr S (d) (49, 21, L, .int y :: .int x :: r) M = if y < x then fr S d (49, 63, L, r) M else fr S d (49, 24, L, r) M := (fr_eq S (d) (49, 21, L, .int y :: .int x :: r) M).trans (x_oc2gt _ _ 49 24 63 L r x y M)
theorem f49_24 (S : pm_S) (d : Nat) (L : List Value) (st : List Value) (M : pm_M) : fr S (d) (49, 24, L, st) M = if pm_ty (L.getD 0 pm_U) = 2 then fr S d (49, 25, L, L.getD 0 pm_U :: st) M else none := (fr_eq S (d) (49, 24, L, st) M).trans (x_old _ _ 2 0 49 25 L st M)
theorem f49_25 (S : pm_S) (d : Nat) (L : List Value) (st : List Value) (M : pm_M) : fr S (d) (49, 25, L, st) M = if pm_ty (L.getD 3 pm_U) = 0 then fr S d (49, 26, L, L.getD 3 pm_U :: st) M else none := (fr_eq S (d) (49, 25, L, st) M).trans (x_old _ _ 0 3 49 26 L st M)
theorem f49_26 (S : pm_S) (d : Nat) (L : List Value) (st : List Value) (M : pm_M) : fr S (d) (49, 26, L, st) M = if pm_ty (L.getD 1 pm_U) = 2 then fr S d (49, 27, L, L.getD 1 pm_U :: st) M else none := (fr_eq S (d) (49, 26, L, st) M).trans (x_old _ _ 2 1 49 27 L st M)
theorem f49_27 (S : pm_S) (d : Nat) (L : List Value) (q : Nat) (r : List Value) (M : pm_M) : fr S (d) (49, 27, L, .ref q :: r) M = match pm_get M q with
  | some (.inr (c, fs)) => if c = 1 ∧ 6 < fs.length then fr S d (49, 30, L, fs.getD 6 pm_U :: r) M else none
  | _ => none := (fr_eq S (d) (49, 27, L, .ref q :: r) M).trans (x_ogf _ _ 1 6 49 30 L r q M)
theorem f49_30 (S : pm_S) (d : Nat) (L : List Value) (st : List Value) (M : pm_M) : fr S (d) (49, 30, L, st) M = if pm_ty (L.getD 1 pm_U) = 2 then fr S d (49, 31, L, L.getD 1 pm_U :: st) M else none := (fr_eq S (d) (49, 30, L, st) M).trans (x_old _ _ 2 1 49 31 L st M)
theorem f49_31 (S : pm_S) (d : Nat) (L : List Value) (q : Nat) (r : List Value) (M : pm_M) : fr S (d) (49, 31, L, .ref q :: r) M = match pm_get M q with
  | some (.inr (c, fs)) => if c = 1 ∧ 7 < fs.length then fr S d (49, 34, L, fs.getD 7 pm_U :: r) M else none
  | _ => none := (fr_eq S (d) (49, 31, L, .ref q :: r) M).trans (x_ogf _ _ 1 7 49 34 L r q M)
theorem f49_34 (S : pm_S) (d : Nat) (L : List Value) (st : List Value) (M : pm_M) : fr S (d) (49, 34, L, st) M = fr S d (49, 35, L, .int 1 :: st) M := (fr_eq S (d) (49, 34, L, st) M).trans (x_ocs _ _ (.int 1) 49 35 L st M)
theorem f49_35 (S : pm_S) (d : Nat) (L : List Value) (x y : Int32) (r : List Value) (M : pm_M) : fr S (d) (49, 35, L, .int y :: .int x :: r) M = fr S d (49, 36, L, .int (x - y) :: r) M := (fr_eq S (d) (49, 35, L, .int y :: .int x :: r) M).trans (x_oii _ _ (fun x y => x - y) 49 36 L r x y M)
theorem f49_36 (S : pm_S) (d : Nat) (L : List Value) (st : List Value) (M : pm_M) : fr S (d + 1) (49, 36, L, st) M = match pm_ag 4 [] st with
  | some (a, r) => if r.length ≤ 4 ∧ (1 = 0 ∨ pm_obj M 0 (a.headD pm_U) = true) then (match fr S d (31, 0, a ++ [pm_U], []) M with
    | none => none
    | some (.inl v, M') => fr S (d + 1) (49, 39, L, v.toList ++ r) M'
    | some (.inr E, M') => some (.inr E, M')) else none
  | none => none := (fr_eq S (d + 1) (49, 36, L, st) M).trans (x_ocl _ _ 1 31 4 0 [pm_U] 49 39 L st M)
theorem f49_39 (S : pm_S) (d : Nat) (L : List Value) (v : Value) (r : List Value) (M : pm_M) : fr S (d) (49, 39, L, v :: r) M = if pm_ty v = 2 ∧ 4 < L.length ∧ ¬ pm_ty (L.getD (4 - 1) pm_U) = 1 then fr S d (49, 41, L.set 4 v, r) M else none := (fr_eq S (d) (49, 39, L, v :: r) M).trans (x_ost _ _ 2 4 49 41 L r v M)
theorem f49_41 (S : pm_S) (d : Nat) (L : List Value) (st : List Value) (M : pm_M) : fr S (d) (49, 41, L, st) M = if pm_ty (L.getD 4 pm_U) = 2 then fr S d (49, 43, L, L.getD 4 pm_U :: st) M else none := (fr_eq S (d) (49, 41, L, st) M).trans (x_old _ _ 2 4 49 43 L st M)
theorem f49_43 (S : pm_S) (d : Nat) (L : List Value) (v : Value) (r : List Value) (M : pm_M) : fr S (d) (49, 43, L, v :: r) M = if pm_ty v = 2 then (if v = .null then fr S d (49, 57, L, r) M else fr S d (49, 46, L, r) M) else none := (fr_eq S (d) (49, 43, L, v :: r) M).trans (x_onu _ _ 57 46 49 L r v M)
theorem f49_46 (S : pm_S) (d : Nat) (L : List Value) (st : List Value) (M : pm_M) : fr S (d) (49, 46, L, st) M = if pm_ty (L.getD 4 pm_U) = 2 then fr S d (49, 48, L, L.getD 4 pm_U :: st) M else none := (fr_eq S (d) (49, 46, L, st) M).trans (x_old _ _ 2 4 49 48 L st M)
theorem f49_48 (S : pm_S) (d : Nat) (L : List Value) (st : List Value) (M : pm_M) : fr S (d + 1) (49, 48, L, st) M = match pm_ag 1 [] st with
  | some (a, r) => if r.length ≤ 4 ∧ (1 = 0 ∨ pm_obj M 1 (a.headD pm_U) = true) then (match fr S d (61, 0, a ++ [], []) M with
    | none => none
    | some (.inl v, M') => fr S (d + 1) (49, 51, L, v.toList ++ r) M'
    | some (.inr E, M') => some (.inr E, M')) else none
  | none => none := (fr_eq S (d + 1) (49, 48, L, st) M).trans (x_ocl _ _ 1 61 1 1 [] 49 51 L st M)
theorem f49_51 (S : pm_S) (d : Nat) (L : List Value) (x : Int32) (r : List Value) (M : pm_M) : fr S (d) (49, 51, L, .int x :: r) M = if ¬ x = 0 then fr S d (49, 57, L, r) M else fr S d (49, 54, L, r) M := (fr_eq S (d) (49, 51, L, .int x :: r) M).trans (x_oc1ne _ _ 49 54 57 L r x M)
theorem f49_54 (S : pm_S) (d : Nat) (L : List Value) (st : List Value) (M : pm_M) : fr S (d) (49, 54, L, st) M = match L.getD 2 pm_U with
  | .int x => if 2 < L.length ∧ ¬ pm_ty (L.getD (2 - 1) pm_U) = 1 then fr S d (49, 57, L.set 2 (.int (x + 1)), st) M else none
  | _ => none := (fr_eq S (d) (49, 54, L, st) M).trans (x_oinc _ _ 2 1 49 57 L st M)
theorem f49_57 (S : pm_S) (d : Nat) (L : List Value) (st : List Value) (M : pm_M) : fr S (d) (49, 57, L, st) M = match L.getD 3 pm_U with
  | .int x => if 3 < L.length ∧ ¬ pm_ty (L.getD (3 - 1) pm_U) = 1 then fr S d (49, 60, L.set 3 (.int (x + 1)), st) M else none
  | _ => none := (fr_eq S (d) (49, 57, L, st) M).trans (x_oinc _ _ 3 1 49 60 L st M)
theorem f49_60 (S : pm_S) (d : Nat) (L : List Value) (st : List Value) (M : pm_M) : fr S (d) (49, 60, L, st) M = fr S d (49, 16, L, st) M := (fr_eq S (d) (49, 60, L, st) M).trans (x_ogo _ _ 49 16 L st M)
theorem f49_63 (S : pm_S) (d : Nat) (L : List Value) (st : List Value) (M : pm_M) : fr S (d) (49, 63, L, st) M = if pm_ty (L.getD 2 pm_U) = 0 then fr S d (49, 64, L, L.getD 2 pm_U :: st) M else none := (fr_eq S (d) (49, 63, L, st) M).trans (x_old _ _ 0 2 49 64 L st M)
theorem f49_64 (S : pm_S) (d : Nat) (L : List Value) (st : List Value) (M : pm_M) : fr S (d) (49, 64, L, st) M = fr S d (49, 65, L, .int 1 :: st) M := (fr_eq S (d) (49, 64, L, st) M).trans (x_ocs _ _ (.int 1) 49 65 L st M)
theorem f49_65 (S : pm_S) (d : Nat) (L : List Value) (x y : Int32) (r : List Value) (M : pm_M) : fr S (d) (49, 65, L, .int y :: .int x :: r) M = if ¬ x = y then fr S d (49, 72, L, r) M else fr S d (49, 68, L, r) M := (fr_eq S (d) (49, 65, L, .int y :: .int x :: r) M).trans (x_oc2ne _ _ 49 68 72 L r x y M)
theorem f49_68 (S : pm_S) (d : Nat) (L : List Value) (st : List Value) (M : pm_M) : fr S (d) (49, 68, L, st) M = fr S d (49, 69, L, .int 1 :: st) M := (fr_eq S (d) (49, 68, L, st) M).trans (x_ocs _ _ (.int 1) 49 69 L st M)
theorem f49_69 (S : pm_S) (d : Nat) (L : List Value) (st : List Value) (M : pm_M) : fr S (d) (49, 69, L, st) M = fr S d (49, 73, L, st) M := (fr_eq S (d) (49, 69, L, st) M).trans (x_ogo _ _ 49 73 L st M)
theorem f49_72 (S : pm_S) (d : Nat) (L : List Value) (st : List Value) (M : pm_M) : fr S (d) (49, 72, L, st) M = fr S d (49, 73, L, .int 0 :: st) M := (fr_eq S (d) (49, 72, L, st) M).trans (x_ocs _ _ (.int 0) 49 73 L st M)
theorem f49_73 (S : pm_S) (d : Nat) (L : List Value) (v : Value) (M : pm_M) : fr S (d) (49, 73, L, [v]) M = if pm_fit 3 v = true then some (.inl (some v), M) else none := (fr_eq S (d) (49, 73, L, [v]) M).trans (x_ort _ _ 3 v M)
theorem f50_0 (S : pm_S) (d : Nat) (L : List Value) (st : List Value) (M : pm_M) : fr S (d) (50, 0, L, st) M = fr S d (50, 1, L, .int 0 :: st) M := (fr_eq S (d) (50, 0, L, st) M).trans (x_ocs _ _ (.int 0) 50 1 L st M)
theorem f50_1 (S : pm_S) (d : Nat) (L : List Value) (v : Value) (r : List Value) (M : pm_M) : fr S (d) (50, 1, L, v :: r) M = if pm_ty v = 0 ∧ 2 < L.length ∧ ¬ pm_ty (L.getD (2 - 1) pm_U) = 1 then fr S d (50, 2, L.set 2 v, r) M else none := (fr_eq S (d) (50, 1, L, v :: r) M).trans (x_ost _ _ 0 2 50 2 L r v M)
theorem f50_2 (S : pm_S) (d : Nat) (L : List Value) (st : List Value) (M : pm_M) : fr S (d) (50, 2, L, st) M = fr S d (50, 3, L, .int 0 :: st) M := (fr_eq S (d) (50, 2, L, st) M).trans (x_ocs _ _ (.int 0) 50 3 L st M)
theorem f50_3 (S : pm_S) (d : Nat) (L : List Value) (v : Value) (r : List Value) (M : pm_M) : fr S (d) (50, 3, L, v :: r) M = if pm_ty v = 0 ∧ 3 < L.length ∧ ¬ pm_ty (L.getD (3 - 1) pm_U) = 1 then fr S d (50, 4, L.set 3 v, r) M else none := (fr_eq S (d) (50, 3, L, v :: r) M).trans (x_ost _ _ 0 3 50 4 L r v M)
theorem f50_4 (S : pm_S) (d : Nat) (L : List Value) (st : List Value) (M : pm_M) : fr S (d) (50, 4, L, st) M = if pm_ty (L.getD 3 pm_U) = 0 then fr S d (50, 5, L, L.getD 3 pm_U :: st) M else none := (fr_eq S (d) (50, 4, L, st) M).trans (x_old _ _ 0 3 50 5 L st M)
theorem f50_5 (S : pm_S) (d : Nat) (L : List Value) (st : List Value) (M : pm_M) : fr S (d) (50, 5, L, st) M = if pm_ty (L.getD 0 pm_U) = 2 then fr S d (50, 6, L, L.getD 0 pm_U :: st) M else none := (fr_eq S (d) (50, 5, L, st) M).trans (x_old _ _ 2 0 50 6 L st M)
theorem f50_6 (S : pm_S) (d : Nat) (L : List Value) (q : Nat) (r : List Value) (M : pm_M) : fr S (d) (50, 6, L, .ref q :: r) M = match pm_get M q with
  | some (.inr (c, fs)) => if c = 0 ∧ 4 < fs.length then fr S d (50, 9, L, fs.getD 4 pm_U :: r) M else none
  | _ => none := (fr_eq S (d) (50, 6, L, .ref q :: r) M).trans (x_ogf _ _ 0 4 50 9 L r q M)
theorem f50_9 (S : pm_S) (d : Nat) (L : List Value) (x y : Int32) (r : List Value) (M : pm_M) : fr S (d) (50, 9, L, .int y :: .int x :: r) M = if y ≤ x then fr S d (50, 42, L, r) M else fr S d (50, 12, L, r) M := (fr_eq S (d) (50, 9, L, .int y :: .int x :: r) M).trans (x_oc2ge _ _ 50 12 42 L r x y M)
theorem f50_12 (S : pm_S) (d : Nat) (L : List Value) (st : List Value) (M : pm_M) : fr S (d) (50, 12, L, st) M = if pm_ty (L.getD 0 pm_U) = 2 then fr S d (50, 13, L, L.getD 0 pm_U :: st) M else none := (fr_eq S (d) (50, 12, L, st) M).trans (x_old _ _ 2 0 50 13 L st M)
theorem f50_13 (S : pm_S) (d : Nat) (L : List Value) (st : List Value) (M : pm_M) : fr S (d) (50, 13, L, st) M = if pm_ty (L.getD 3 pm_U) = 0 then fr S d (50, 14, L, L.getD 3 pm_U :: st) M else none := (fr_eq S (d) (50, 13, L, st) M).trans (x_old _ _ 0 3 50 14 L st M)
theorem f50_14 (S : pm_S) (d : Nat) (L : List Value) (st : List Value) (M : pm_M) : fr S (d + 1) (50, 14, L, st) M = match pm_ag 2 [] st with
  | some (a, r) => if r.length ≤ 4 ∧ (1 = 0 ∨ pm_obj M 0 (a.headD pm_U) = true) then (match fr S d (30, 0, a ++ [], []) M with
    | none => none
    | some (.inl v, M') => fr S (d + 1) (50, 17, L, v.toList ++ r) M'
    | some (.inr E, M') => some (.inr E, M')) else none
  | none => none := (fr_eq S (d + 1) (50, 14, L, st) M).trans (x_ocl _ _ 1 30 2 0 [] 50 17 L st M)
theorem f50_17 (S : pm_S) (d : Nat) (L : List Value) (v : Value) (r : List Value) (M : pm_M) : fr S (d) (50, 17, L, v :: r) M = if pm_ty v = 2 ∧ 4 < L.length ∧ ¬ pm_ty (L.getD (4 - 1) pm_U) = 1 then fr S d (50, 19, L.set 4 v, r) M else none := (fr_eq S (d) (50, 17, L, v :: r) M).trans (x_ost _ _ 2 4 50 19 L r v M)
theorem f50_19 (S : pm_S) (d : Nat) (L : List Value) (st : List Value) (M : pm_M) : fr S (d) (50, 19, L, st) M = if pm_ty (L.getD 4 pm_U) = 2 then fr S d (50, 21, L, L.getD 4 pm_U :: st) M else none := (fr_eq S (d) (50, 19, L, st) M).trans (x_old _ _ 2 4 50 21 L st M)
theorem f50_21 (S : pm_S) (d : Nat) (L : List Value) (v : Value) (r : List Value) (M : pm_M) : fr S (d) (50, 21, L, v :: r) M = if pm_ty v = 2 then (if v = .null then fr S d (50, 36, L, r) M else fr S d (50, 24, L, r) M) else none := (fr_eq S (d) (50, 21, L, v :: r) M).trans (x_onu _ _ 36 24 50 L r v M)
theorem f50_24 (S : pm_S) (d : Nat) (L : List Value) (st : List Value) (M : pm_M) : fr S (d) (50, 24, L, st) M = if pm_ty (L.getD 4 pm_U) = 2 then fr S d (50, 26, L, L.getD 4 pm_U :: st) M else none := (fr_eq S (d) (50, 24, L, st) M).trans (x_old _ _ 2 4 50 26 L st M)
theorem f50_26 (S : pm_S) (d : Nat) (L : List Value) (st : List Value) (M : pm_M) : fr S (d) (50, 26, L, st) M = if pm_ty (L.getD 1 pm_U) = 2 then fr S d (50, 27, L, L.getD 1 pm_U :: st) M else none := (fr_eq S (d) (50, 26, L, st) M).trans (x_old _ _ 2 1 50 27 L st M)
theorem f50_27 (S : pm_S) (d : Nat) (L : List Value) (st : List Value) (M : pm_M) : fr S (d + 1) (50, 27, L, st) M = match pm_ag 2 [] st with
  | some (a, r) => if r.length ≤ 4 ∧ (1 = 0 ∨ pm_obj M 1 (a.headD pm_U) = true) then (match fr S d (69, 0, a ++ [], []) M with
    | none => none
    | some (.inl v, M') => fr S (d + 1) (50, 30, L, v.toList ++ r) M'
    | some (.inr E, M') => some (.inr E, M')) else none
  | none => none := (fr_eq S (d + 1) (50, 27, L, st) M).trans (x_ocl _ _ 1 69 2 1 [] 50 30 L st M)
theorem f50_30 (S : pm_S) (d : Nat) (L : List Value) (x : Int32) (r : List Value) (M : pm_M) : fr S (d) (50, 30, L, .int x :: r) M = if x = 0 then fr S d (50, 36, L, r) M else fr S d (50, 33, L, r) M := (fr_eq S (d) (50, 30, L, .int x :: r) M).trans (x_oc1eq _ _ 50 33 36 L r x M)
theorem f50_33 (S : pm_S) (d : Nat) (L : List Value) (st : List Value) (M : pm_M) : fr S (d) (50, 33, L, st) M = match L.getD 2 pm_U with
  | .int x => if 2 < L.length ∧ ¬ pm_ty (L.getD (2 - 1) pm_U) = 1 then fr S d (50, 36, L.set 2 (.int (x + 1)), st) M else none
  | _ => none := (fr_eq S (d) (50, 33, L, st) M).trans (x_oinc _ _ 2 1 50 36 L st M)
theorem f50_36 (S : pm_S) (d : Nat) (L : List Value) (st : List Value) (M : pm_M) : fr S (d) (50, 36, L, st) M = match L.getD 3 pm_U with
  | .int x => if 3 < L.length ∧ ¬ pm_ty (L.getD (3 - 1) pm_U) = 1 then fr S d (50, 39, L.set 3 (.int (x + 1)), st) M else none
  | _ => none := (fr_eq S (d) (50, 36, L, st) M).trans (x_oinc _ _ 3 1 50 39 L st M)
theorem f50_39 (S : pm_S) (d : Nat) (L : List Value) (st : List Value) (M : pm_M) : fr S (d) (50, 39, L, st) M = fr S d (50, 4, L, st) M := (fr_eq S (d) (50, 39, L, st) M).trans (x_ogo _ _ 50 4 L st M)
theorem f50_42 (S : pm_S) (d : Nat) (L : List Value) (st : List Value) (M : pm_M) : fr S (d) (50, 42, L, st) M = if pm_ty (L.getD 2 pm_U) = 0 then fr S d (50, 43, L, L.getD 2 pm_U :: st) M else none := (fr_eq S (d) (50, 42, L, st) M).trans (x_old _ _ 0 2 50 43 L st M)
theorem f50_43 (S : pm_S) (d : Nat) (L : List Value) (v : Value) (M : pm_M) : fr S (d) (50, 43, L, [v]) M = if pm_fit 0 v = true then some (.inl (some v), M) else none := (fr_eq S (d) (50, 43, L, [v]) M).trans (x_ort _ _ 0 v M)
theorem f51_0 (S : pm_S) (d : Nat) (L : List Value) (st : List Value) (M : pm_M) : fr S (d) (51, 0, L, st) M = fr S d (51, 1, L, .int 0 :: st) M := (fr_eq S (d) (51, 0, L, st) M).trans (x_ocs _ _ (.int 0) 51 1 L st M)
theorem f51_1 (S : pm_S) (d : Nat) (L : List Value) (v : Value) (r : List Value) (M : pm_M) : fr S (d) (51, 1, L, v :: r) M = if pm_ty v = 0 ∧ 2 < L.length ∧ ¬ pm_ty (L.getD (2 - 1) pm_U) = 1 then fr S d (51, 2, L.set 2 v, r) M else none := (fr_eq S (d) (51, 1, L, v :: r) M).trans (x_ost _ _ 0 2 51 2 L r v M)
theorem f51_2 (S : pm_S) (d : Nat) (L : List Value) (st : List Value) (M : pm_M) : fr S (d) (51, 2, L, st) M = fr S d (51, 3, L, .int 0 :: st) M := (fr_eq S (d) (51, 2, L, st) M).trans (x_ocs _ _ (.int 0) 51 3 L st M)
theorem f51_3 (S : pm_S) (d : Nat) (L : List Value) (v : Value) (r : List Value) (M : pm_M) : fr S (d) (51, 3, L, v :: r) M = if pm_ty v = 0 ∧ 3 < L.length ∧ ¬ pm_ty (L.getD (3 - 1) pm_U) = 1 then fr S d (51, 4, L.set 3 v, r) M else none := (fr_eq S (d) (51, 3, L, v :: r) M).trans (x_ost _ _ 0 3 51 4 L r v M)
theorem f51_4 (S : pm_S) (d : Nat) (L : List Value) (st : List Value) (M : pm_M) : fr S (d) (51, 4, L, st) M = if pm_ty (L.getD 3 pm_U) = 0 then fr S d (51, 5, L, L.getD 3 pm_U :: st) M else none := (fr_eq S (d) (51, 4, L, st) M).trans (x_old _ _ 0 3 51 5 L st M)
theorem f51_5 (S : pm_S) (d : Nat) (L : List Value) (st : List Value) (M : pm_M) : fr S (d) (51, 5, L, st) M = if pm_ty (L.getD 1 pm_U) = 2 then fr S d (51, 6, L, L.getD 1 pm_U :: st) M else none := (fr_eq S (d) (51, 5, L, st) M).trans (x_old _ _ 2 1 51 6 L st M)
theorem f51_6 (S : pm_S) (d : Nat) (L : List Value) (q : Nat) (r : List Value) (M : pm_M) : fr S (d) (51, 6, L, .ref q :: r) M = match pm_get M q with
  | some (.inr (c, fs)) => if c = 1 ∧ 7 < fs.length then fr S d (51, 9, L, fs.getD 7 pm_U :: r) M else none
  | _ => none := (fr_eq S (d) (51, 6, L, .ref q :: r) M).trans (x_ogf _ _ 1 7 51 9 L r q M)
theorem f51_9 (S : pm_S) (d : Nat) (L : List Value) (x y : Int32) (r : List Value) (M : pm_M) : fr S (d) (51, 9, L, .int y :: .int x :: r) M = if y ≤ x then fr S d (51, 50, L, r) M else fr S d (51, 12, L, r) M := (fr_eq S (d) (51, 9, L, .int y :: .int x :: r) M).trans (x_oc2ge _ _ 51 12 50 L r x y M)
theorem f51_12 (S : pm_S) (d : Nat) (L : List Value) (st : List Value) (M : pm_M) : fr S (d) (51, 12, L, st) M = if pm_ty (L.getD 0 pm_U) = 2 then fr S d (51, 13, L, L.getD 0 pm_U :: st) M else none := (fr_eq S (d) (51, 12, L, st) M).trans (x_old _ _ 2 0 51 13 L st M)
theorem f51_13 (S : pm_S) (d : Nat) (L : List Value) (st : List Value) (M : pm_M) : fr S (d) (51, 13, L, st) M = if pm_ty (L.getD 1 pm_U) = 2 then fr S d (51, 14, L, L.getD 1 pm_U :: st) M else none := (fr_eq S (d) (51, 13, L, st) M).trans (x_old _ _ 2 1 51 14 L st M)
theorem f51_14 (S : pm_S) (d : Nat) (L : List Value) (q : Nat) (r : List Value) (M : pm_M) : fr S (d) (51, 14, L, .ref q :: r) M = match pm_get M q with
  | some (.inr (c, fs)) => if c = 1 ∧ 5 < fs.length then fr S d (51, 17, L, fs.getD 5 pm_U :: r) M else none
  | _ => none := (fr_eq S (d) (51, 14, L, .ref q :: r) M).trans (x_ogf _ _ 1 5 51 17 L r q M)
theorem f51_17 (S : pm_S) (d : Nat) (L : List Value) (st : List Value) (M : pm_M) : fr S (d) (51, 17, L, st) M = if pm_ty (L.getD 1 pm_U) = 2 then fr S d (51, 18, L, L.getD 1 pm_U :: st) M else none := (fr_eq S (d) (51, 17, L, st) M).trans (x_old _ _ 2 1 51 18 L st M)
theorem f51_18 (S : pm_S) (d : Nat) (L : List Value) (q : Nat) (r : List Value) (M : pm_M) : fr S (d) (51, 18, L, .ref q :: r) M = match pm_get M q with
  | some (.inr (c, fs)) => if c = 1 ∧ 6 < fs.length then fr S d (51, 21, L, fs.getD 6 pm_U :: r) M else none
  | _ => none := (fr_eq S (d) (51, 18, L, .ref q :: r) M).trans (x_ogf _ _ 1 6 51 21 L r q M)
theorem f51_21 (S : pm_S) (d : Nat) (L : List Value) (st : List Value) (M : pm_M) : fr S (d) (51, 21, L, st) M = if pm_ty (L.getD 3 pm_U) = 0 then fr S d (51, 22, L, L.getD 3 pm_U :: st) M else none := (fr_eq S (d) (51, 21, L, st) M).trans (x_old _ _ 0 3 51 22 L st M)
theorem f51_22 (S : pm_S) (d : Nat) (L : List Value) (st : List Value) (M : pm_M) : fr S (d + 1) (51, 22, L, st) M = match pm_ag 4 [] st with
  | some (a, r) => if r.length ≤ 4 ∧ (1 = 0 ∨ pm_obj M 0 (a.headD pm_U) = true) then (match fr S d (31, 0, a ++ [pm_U], []) M with
    | none => none
    | some (.inl v, M') => fr S (d + 1) (51, 25, L, v.toList ++ r) M'
    | some (.inr E, M') => some (.inr E, M')) else none
  | none => none := (fr_eq S (d + 1) (51, 22, L, st) M).trans (x_ocl _ _ 1 31 4 0 [pm_U] 51 25 L st M)
theorem f51_25 (S : pm_S) (d : Nat) (L : List Value) (v : Value) (r : List Value) (M : pm_M) : fr S (d) (51, 25, L, v :: r) M = if pm_ty v = 2 ∧ 4 < L.length ∧ ¬ pm_ty (L.getD (4 - 1) pm_U) = 1 then fr S d (51, 27, L.set 4 v, r) M else none := (fr_eq S (d) (51, 25, L, v :: r) M).trans (x_ost _ _ 2 4 51 27 L r v M)
theorem f51_27 (S : pm_S) (d : Nat) (L : List Value) (st : List Value) (M : pm_M) : fr S (d) (51, 27, L, st) M = if pm_ty (L.getD 4 pm_U) = 2 then fr S d (51, 29, L, L.getD 4 pm_U :: st) M else none := (fr_eq S (d) (51, 27, L, st) M).trans (x_old _ _ 2 4 51 29 L st M)
theorem f51_29 (S : pm_S) (d : Nat) (L : List Value) (v : Value) (r : List Value) (M : pm_M) : fr S (d) (51, 29, L, v :: r) M = if pm_ty v = 2 then (if v = .null then fr S d (51, 44, L, r) M else fr S d (51, 32, L, r) M) else none := (fr_eq S (d) (51, 29, L, v :: r) M).trans (x_onu _ _ 44 32 51 L r v M)
theorem f51_32 (S : pm_S) (d : Nat) (L : List Value) (st : List Value) (M : pm_M) : fr S (d) (51, 32, L, st) M = if pm_ty (L.getD 1 pm_U) = 2 then fr S d (51, 33, L, L.getD 1 pm_U :: st) M else none := (fr_eq S (d) (51, 32, L, st) M).trans (x_old _ _ 2 1 51 33 L st M)
theorem f51_33 (S : pm_S) (d : Nat) (L : List Value) (st : List Value) (M : pm_M) : fr S (d) (51, 33, L, st) M = if pm_ty (L.getD 4 pm_U) = 2 then fr S d (51, 35, L, L.getD 4 pm_U :: st) M else none := (fr_eq S (d) (51, 33, L, st) M).trans (x_old _ _ 2 4 51 35 L st M)
theorem f51_35 (S : pm_S) (d : Nat) (L : List Value) (st : List Value) (M : pm_M) : fr S (d + 1) (51, 35, L, st) M = match pm_ag 2 [] st with
  | some (a, r) => if r.length ≤ 4 ∧ (1 = 0 ∨ pm_obj M 1 (a.headD pm_U) = true) then (match fr S d (69, 0, a ++ [], []) M with
    | none => none
    | some (.inl v, M') => fr S (d + 1) (51, 38, L, v.toList ++ r) M'
    | some (.inr E, M') => some (.inr E, M')) else none
  | none => none := (fr_eq S (d + 1) (51, 35, L, st) M).trans (x_ocl _ _ 1 69 2 1 [] 51 38 L st M)
theorem f51_38 (S : pm_S) (d : Nat) (L : List Value) (x : Int32) (r : List Value) (M : pm_M) : fr S (d) (51, 38, L, .int x :: r) M = if x = 0 then fr S d (51, 44, L, r) M else fr S d (51, 41, L, r) M := (fr_eq S (d) (51, 38, L, .int x :: r) M).trans (x_oc1eq _ _ 51 41 44 L r x M)
theorem f51_41 (S : pm_S) (d : Nat) (L : List Value) (st : List Value) (M : pm_M) : fr S (d) (51, 41, L, st) M = match L.getD 2 pm_U with
  | .int x => if 2 < L.length ∧ ¬ pm_ty (L.getD (2 - 1) pm_U) = 1 then fr S d (51, 44, L.set 2 (.int (x + 1)), st) M else none
  | _ => none := (fr_eq S (d) (51, 41, L, st) M).trans (x_oinc _ _ 2 1 51 44 L st M)
theorem f51_44 (S : pm_S) (d : Nat) (L : List Value) (st : List Value) (M : pm_M) : fr S (d) (51, 44, L, st) M = match L.getD 3 pm_U with
  | .int x => if 3 < L.length ∧ ¬ pm_ty (L.getD (3 - 1) pm_U) = 1 then fr S d (51, 47, L.set 3 (.int (x + 1)), st) M else none
  | _ => none := (fr_eq S (d) (51, 44, L, st) M).trans (x_oinc _ _ 3 1 51 47 L st M)
theorem f51_47 (S : pm_S) (d : Nat) (L : List Value) (st : List Value) (M : pm_M) : fr S (d) (51, 47, L, st) M = fr S d (51, 4, L, st) M := (fr_eq S (d) (51, 47, L, st) M).trans (x_ogo _ _ 51 4 L st M)
theorem f51_50 (S : pm_S) (d : Nat) (L : List Value) (st : List Value) (M : pm_M) : fr S (d) (51, 50, L, st) M = if pm_ty (L.getD 2 pm_U) = 0 then fr S d (51, 51, L, L.getD 2 pm_U :: st) M else none := (fr_eq S (d) (51, 50, L, st) M).trans (x_old _ _ 0 2 51 51 L st M)
theorem f51_51 (S : pm_S) (d : Nat) (L : List Value) (v : Value) (M : pm_M) : fr S (d) (51, 51, L, [v]) M = if pm_fit 0 v = true then some (.inl (some v), M) else none := (fr_eq S (d) (51, 51, L, [v]) M).trans (x_ort _ _ 0 v M)
theorem f52_0 (S : pm_S) (d : Nat) (L : List Value) (st : List Value) (M : pm_M) : fr S (d) (52, 0, L, st) M = if pm_ty (L.getD 0 pm_U) = 2 then fr S d (52, 1, L, L.getD 0 pm_U :: st) M else none := (fr_eq S (d) (52, 0, L, st) M).trans (x_old _ _ 2 0 52 1 L st M)
theorem f52_1 (S : pm_S) (d : Nat) (L : List Value) (st : List Value) (M : pm_M) : fr S (d) (52, 1, L, st) M = fr S d (52, 2, L, .int 0 :: st) M := (fr_eq S (d) (52, 1, L, st) M).trans (x_ocs _ _ (.int 0) 52 2 L st M)
theorem f52_2 (S : pm_S) (d : Nat) (L : List Value) (v : Value) (q : Nat) (r : List Value) (M : pm_M) : fr S (d) (52, 2, L, v :: .ref q :: r) M = match pm_get M q with
  | some (.inr (c, fs)) => if c = 0 ∧ 9 < fs.length ∧ pm_fit 0 v = true then fr S d (52, 5, L, r) (pm_set M q (.inr (c, fs.set 9 v))) else none
  | _ => none := (fr_eq S (d) (52, 2, L, v :: .ref q :: r) M).trans (x_opf _ _ 0 9 0 52 5 L r q v M)
theorem f52_5 (S : pm_S) (d : Nat) (L : List Value) (st : List Value) (M : pm_M) : fr S (d) (52, 5, L, st) M = fr S d (52, 6, L, .int 0 :: st) M := (fr_eq S (d) (52, 5, L, st) M).trans (x_ocs _ _ (.int 0) 52 6 L st M)
theorem f52_6 (S : pm_S) (d : Nat) (L : List Value) (v : Value) (r : List Value) (M : pm_M) : fr S (d) (52, 6, L, v :: r) M = if pm_ty v = 0 ∧ 1 < L.length ∧ ¬ pm_ty (L.getD (1 - 1) pm_U) = 1 then fr S d (52, 7, L.set 1 v, r) M else none := (fr_eq S (d) (52, 6, L, v :: r) M).trans (x_ost _ _ 0 1 52 7 L r v M)
theorem f52_7 (S : pm_S) (d : Nat) (L : List Value) (st : List Value) (M : pm_M) : fr S (d) (52, 7, L, st) M = if pm_ty (L.getD 1 pm_U) = 0 then fr S d (52, 8, L, L.getD 1 pm_U :: st) M else none := (fr_eq S (d) (52, 7, L, st) M).trans (x_old _ _ 0 1 52 8 L st M)
theorem f52_8 (S : pm_S) (d : Nat) (L : List Value) (st : List Value) (M : pm_M) : fr S (d) (52, 8, L, st) M = if pm_ty (L.getD 0 pm_U) = 2 then fr S d (52, 9, L, L.getD 0 pm_U :: st) M else none := (fr_eq S (d) (52, 8, L, st) M).trans (x_old _ _ 2 0 52 9 L st M)
theorem f52_9 (S : pm_S) (d : Nat) (L : List Value) (q : Nat) (r : List Value) (M : pm_M) : fr S (d) (52, 9, L, .ref q :: r) M = match pm_get M q with
  | some (.inr (c, fs)) => if c = 0 ∧ 4 < fs.length then fr S d (52, 12, L, fs.getD 4 pm_U :: r) M else none
  | _ => none := (fr_eq S (d) (52, 9, L, .ref q :: r) M).trans (x_ogf _ _ 0 4 52 12 L r q M)
theorem f52_12 (S : pm_S) (d : Nat) (L : List Value) (x y : Int32) (r : List Value) (M : pm_M) : fr S (d) (52, 12, L, .int y :: .int x :: r) M = if y ≤ x then fr S d (52, 77, L, r) M else fr S d (52, 15, L, r) M := (fr_eq S (d) (52, 12, L, .int y :: .int x :: r) M).trans (x_oc2ge _ _ 52 15 77 L r x y M)
theorem f52_15 (S : pm_S) (d : Nat) (L : List Value) (st : List Value) (M : pm_M) : fr S (d) (52, 15, L, st) M = if pm_ty (L.getD 0 pm_U) = 2 then fr S d (52, 16, L, L.getD 0 pm_U :: st) M else none := (fr_eq S (d) (52, 15, L, st) M).trans (x_old _ _ 2 0 52 16 L st M)
theorem f52_16 (S : pm_S) (d : Nat) (L : List Value) (q : Nat) (r : List Value) (M : pm_M) : fr S (d) (52, 16, L, .ref q :: r) M = match pm_get M q with
  | some (.inr (c, fs)) => if c = 0 ∧ 9 < fs.length then fr S d (52, 19, L, fs.getD 9 pm_U :: r) M else none
  | _ => none := (fr_eq S (d) (52, 16, L, .ref q :: r) M).trans (x_ogf _ _ 0 9 52 19 L r q M)
theorem f52_19 (S : pm_S) (d : Nat) (L : List Value) (st : List Value) (M : pm_M) : fr S (d) (52, 19, L, st) M = if pm_ty (L.getD 0 pm_U) = 2 then fr S d (52, 20, L, L.getD 0 pm_U :: st) M else none := (fr_eq S (d) (52, 19, L, st) M).trans (x_old _ _ 2 0 52 20 L st M)
theorem f52_20 (S : pm_S) (d : Nat) (L : List Value) (q : Nat) (r : List Value) (M : pm_M) : fr S (d) (52, 20, L, .ref q :: r) M = match pm_get M q with
  | some (.inr (c, fs)) => if c = 0 ∧ 8 < fs.length then fr S d (52, 23, L, fs.getD 8 pm_U :: r) M else none
  | _ => none := (fr_eq S (d) (52, 20, L, .ref q :: r) M).trans (x_ogf _ _ 0 8 52 23 L r q M)
theorem f52_23 (S : pm_S) (d : Nat) (L : List Value) (q : Nat) (hq : ¬ q = 1) (r : List Value) (M : pm_M) : fr S (d) (52, 23, L, .ref q :: r) M = match pm_get M q with
  | some (.inl (_, (n, _))) => fr S d (52, 24, L, .int (Int32.ofNat n) :: r) M
  | _ => none := (fr_eq S (d) (52, 23, L, .ref q :: r) M).trans (x_oln _ _ S 52 24 L r q hq M)
theorem f52_24 (S : pm_S) (d : Nat) (L : List Value) (x y : Int32) (r : List Value) (M : pm_M) : fr S (d) (52, 24, L, .int y :: .int x :: r) M = if y ≤ x then fr S d (52, 77, L, r) M else fr S d (52, 27, L, r) M := (fr_eq S (d) (52, 24, L, .int y :: .int x :: r) M).trans (x_oc2ge _ _ 52 27 77 L r x y M)
theorem f52_27 (S : pm_S) (d : Nat) (L : List Value) (st : List Value) (M : pm_M) : fr S (d) (52, 27, L, st) M = if pm_ty (L.getD 0 pm_U) = 2 then fr S d (52, 28, L, L.getD 0 pm_U :: st) M else none := (fr_eq S (d) (52, 27, L, st) M).trans (x_old _ _ 2 0 52 28 L st M)
theorem f52_28 (S : pm_S) (d : Nat) (L : List Value) (st : List Value) (M : pm_M) : fr S (d) (52, 28, L, st) M = if pm_ty (L.getD 1 pm_U) = 0 then fr S d (52, 29, L, L.getD 1 pm_U :: st) M else none := (fr_eq S (d) (52, 28, L, st) M).trans (x_old _ _ 0 1 52 29 L st M)
theorem f52_29 (S : pm_S) (d : Nat) (L : List Value) (st : List Value) (M : pm_M) : fr S (d + 1) (52, 29, L, st) M = match pm_ag 2 [] st with
  | some (a, r) => if r.length ≤ 4 ∧ (1 = 0 ∨ pm_obj M 0 (a.headD pm_U) = true) then (match fr S d (30, 0, a ++ [], []) M with
    | none => none
    | some (.inl v, M') => fr S (d + 1) (52, 32, L, v.toList ++ r) M'
    | some (.inr E, M') => some (.inr E, M')) else none
  | none => none := (fr_eq S (d + 1) (52, 29, L, st) M).trans (x_ocl _ _ 1 30 2 0 [] 52 32 L st M)
theorem f52_32 (S : pm_S) (d : Nat) (L : List Value) (v : Value) (r : List Value) (M : pm_M) : fr S (d) (52, 32, L, v :: r) M = if pm_ty v = 2 ∧ 2 < L.length ∧ ¬ pm_ty (L.getD (2 - 1) pm_U) = 1 then fr S d (52, 33, L.set 2 v, r) M else none := (fr_eq S (d) (52, 32, L, v :: r) M).trans (x_ost _ _ 2 2 52 33 L r v M)
theorem f52_33 (S : pm_S) (d : Nat) (L : List Value) (st : List Value) (M : pm_M) : fr S (d) (52, 33, L, st) M = if pm_ty (L.getD 2 pm_U) = 2 then fr S d (52, 34, L, L.getD 2 pm_U :: st) M else none := (fr_eq S (d) (52, 33, L, st) M).trans (x_old _ _ 2 2 52 34 L st M)
theorem f52_34 (S : pm_S) (d : Nat) (L : List Value) (v : Value) (r : List Value) (M : pm_M) : fr S (d) (52, 34, L, v :: r) M = if pm_ty v = 2 then (if v = .null then fr S d (52, 71, L, r) M else fr S d (52, 37, L, r) M) else none := (fr_eq S (d) (52, 34, L, v :: r) M).trans (x_onu _ _ 71 37 52 L r v M)
theorem f52_37 (S : pm_S) (d : Nat) (L : List Value) (st : List Value) (M : pm_M) : fr S (d) (52, 37, L, st) M = if pm_ty (L.getD 2 pm_U) = 2 then fr S d (52, 38, L, L.getD 2 pm_U :: st) M else none := (fr_eq S (d) (52, 37, L, st) M).trans (x_old _ _ 2 2 52 38 L st M)
theorem f52_38 (S : pm_S) (d : Nat) (L : List Value) (st : List Value) (M : pm_M) : fr S (d + 1) (52, 38, L, st) M = match pm_ag 1 [] st with
  | some (a, r) => if r.length ≤ 4 ∧ (1 = 0 ∨ pm_obj M 1 (a.headD pm_U) = true) then (match fr S d (61, 0, a ++ [], []) M with
    | none => none
    | some (.inl v, M') => fr S (d + 1) (52, 41, L, v.toList ++ r) M'
    | some (.inr E, M') => some (.inr E, M')) else none
  | none => none := (fr_eq S (d + 1) (52, 38, L, st) M).trans (x_ocl _ _ 1 61 1 1 [] 52 41 L st M)
theorem f52_41 (S : pm_S) (d : Nat) (L : List Value) (x : Int32) (r : List Value) (M : pm_M) : fr S (d) (52, 41, L, .int x :: r) M = if ¬ x = 0 then fr S d (52, 71, L, r) M else fr S d (52, 44, L, r) M := (fr_eq S (d) (52, 41, L, .int x :: r) M).trans (x_oc1ne _ _ 52 44 71 L r x M)
theorem f52_44 (S : pm_S) (d : Nat) (L : List Value) (st : List Value) (M : pm_M) : fr S (d) (52, 44, L, st) M = if pm_ty (L.getD 2 pm_U) = 2 then fr S d (52, 45, L, L.getD 2 pm_U :: st) M else none := (fr_eq S (d) (52, 44, L, st) M).trans (x_old _ _ 2 2 52 45 L st M)
theorem f52_45 (S : pm_S) (d : Nat) (L : List Value) (st : List Value) (M : pm_M) : fr S (d + 1) (52, 45, L, st) M = match pm_ag 1 [] st with
  | some (a, r) => if r.length ≤ 4 ∧ (1 = 0 ∨ pm_obj M 1 (a.headD pm_U) = true) then (match fr S d (64, 0, a ++ [], []) M with
    | none => none
    | some (.inl v, M') => fr S (d + 1) (52, 48, L, v.toList ++ r) M'
    | some (.inr E, M') => some (.inr E, M')) else none
  | none => none := (fr_eq S (d + 1) (52, 45, L, st) M).trans (x_ocl _ _ 1 64 1 1 [] 52 48 L st M)
theorem f52_48 (S : pm_S) (d : Nat) (L : List Value) (x : Int32) (r : List Value) (M : pm_M) : fr S (d) (52, 48, L, .int x :: r) M = if ¬ x = 0 then fr S d (52, 71, L, r) M else fr S d (52, 51, L, r) M := (fr_eq S (d) (52, 48, L, .int x :: r) M).trans (x_oc1ne _ _ 52 51 71 L r x M)
theorem f52_51 (S : pm_S) (d : Nat) (L : List Value) (st : List Value) (M : pm_M) : fr S (d) (52, 51, L, st) M = if pm_ty (L.getD 0 pm_U) = 2 then fr S d (52, 52, L, L.getD 0 pm_U :: st) M else none := (fr_eq S (d) (52, 51, L, st) M).trans (x_old _ _ 2 0 52 52 L st M)
theorem f52_52 (S : pm_S) (d : Nat) (L : List Value) (q : Nat) (r : List Value) (M : pm_M) : fr S (d) (52, 52, L, .ref q :: r) M = match pm_get M q with
  | some (.inr (c, fs)) => if c = 0 ∧ 8 < fs.length then fr S d (52, 55, L, fs.getD 8 pm_U :: r) M else none
  | _ => none := (fr_eq S (d) (52, 52, L, .ref q :: r) M).trans (x_ogf _ _ 0 8 52 55 L r q M)
theorem f52_55 (S : pm_S) (d : Nat) (L : List Value) (st : List Value) (M : pm_M) : fr S (d) (52, 55, L, st) M = if pm_ty (L.getD 0 pm_U) = 2 then fr S d (52, 56, L, L.getD 0 pm_U :: st) M else none := (fr_eq S (d) (52, 55, L, st) M).trans (x_old _ _ 2 0 52 56 L st M)
theorem f52_56 (S : pm_S) (d : Nat) (L : List Value) (q : Nat) (r : List Value) (M : pm_M) : fr S (d) (52, 56, L, .ref q :: r) M = match pm_get M q with
  | some (.inr (c, fs)) => if c = 0 ∧ 9 < fs.length then fr S d (52, 59, L, fs.getD 9 pm_U :: r) M else none
  | _ => none := (fr_eq S (d) (52, 56, L, .ref q :: r) M).trans (x_ogf _ _ 0 9 52 59 L r q M)
theorem f52_59 (S : pm_S) (d : Nat) (L : List Value) (st : List Value) (M : pm_M) : fr S (d) (52, 59, L, st) M = if pm_ty (L.getD 2 pm_U) = 2 then fr S d (52, 60, L, L.getD 2 pm_U :: st) M else none := (fr_eq S (d) (52, 59, L, st) M).trans (x_old _ _ 2 2 52 60 L st M)
theorem f52_60 (S : pm_S) (d : Nat) (L : List Value) (v : Value) (i : Int32) (q : Nat) (r : List Value) (M : pm_M) : fr S (d) (52, 60, L, v :: .int i :: .ref q :: r) M = if pm_sq M 1 v = true then (match (pm_get M q).bind (fun c => pm_ev 2 3 c i v) with
  | some c => fr S d (52, 61, L, r) (pm_set M q c)
  | none => none) else none := (fr_eq S (d) (52, 60, L, v :: .int i :: .ref q :: r) M).trans (x_oas _ _ 2 3 1 52 61 L r v i q M)
theorem f52_61 (S : pm_S) (d : Nat) (L : List Value) (st : List Value) (M : pm_M) : fr S (d) (52, 61, L, st) M = if pm_ty (L.getD 0 pm_U) = 2 then fr S d (52, 62, L, L.getD 0 pm_U :: st) M else none := (fr_eq S (d) (52, 61, L, st) M).trans (x_old _ _ 2 0 52 62 L st M)
theorem f52_62 (S : pm_S) (d : Nat) (L : List Value) (v : Value) (r : List Value) (M : pm_M) : fr S (d) (52, 62, L, v :: r) M = if ¬ pm_ty v = 1 ∧ ¬ pm_ty v = 9 then fr S d (52, 63, L, v :: v :: r) M else none := (fr_eq S (d) (52, 62, L, v :: r) M).trans (x_odup _ _ 52 63 L r v M)
theorem f52_63 (S : pm_S) (d : Nat) (L : List Value) (q : Nat) (r : List Value) (M : pm_M) : fr S (d) (52, 63, L, .ref q :: r) M = match pm_get M q with
  | some (.inr (c, fs)) => if c = 0 ∧ 9 < fs.length then fr S d (52, 66, L, fs.getD 9 pm_U :: r) M else none
  | _ => none := (fr_eq S (d) (52, 63, L, .ref q :: r) M).trans (x_ogf _ _ 0 9 52 66 L r q M)
theorem f52_66 (S : pm_S) (d : Nat) (L : List Value) (st : List Value) (M : pm_M) : fr S (d) (52, 66, L, st) M = fr S d (52, 67, L, .int 1 :: st) M := (fr_eq S (d) (52, 66, L, st) M).trans (x_ocs _ _ (.int 1) 52 67 L st M)
theorem f52_67 (S : pm_S) (d : Nat) (L : List Value) (x y : Int32) (r : List Value) (M : pm_M) : fr S (d) (52, 67, L, .int y :: .int x :: r) M = fr S d (52, 68, L, .int (x + y) :: r) M := (fr_eq S (d) (52, 67, L, .int y :: .int x :: r) M).trans (x_oii _ _ (fun x y => x + y) 52 68 L r x y M)
theorem f52_68 (S : pm_S) (d : Nat) (L : List Value) (v : Value) (q : Nat) (r : List Value) (M : pm_M) : fr S (d) (52, 68, L, v :: .ref q :: r) M = match pm_get M q with
  | some (.inr (c, fs)) => if c = 0 ∧ 9 < fs.length ∧ pm_fit 0 v = true then fr S d (52, 71, L, r) (pm_set M q (.inr (c, fs.set 9 v))) else none
  | _ => none := (fr_eq S (d) (52, 68, L, v :: .ref q :: r) M).trans (x_opf _ _ 0 9 0 52 71 L r q v M)
theorem f52_71 (S : pm_S) (d : Nat) (L : List Value) (st : List Value) (M : pm_M) : fr S (d) (52, 71, L, st) M = match L.getD 1 pm_U with
  | .int x => if 1 < L.length ∧ ¬ pm_ty (L.getD (1 - 1) pm_U) = 1 then fr S d (52, 74, L.set 1 (.int (x + 1)), st) M else none
  | _ => none := (fr_eq S (d) (52, 71, L, st) M).trans (x_oinc _ _ 1 1 52 74 L st M)
theorem f52_74 (S : pm_S) (d : Nat) (L : List Value) (st : List Value) (M : pm_M) : fr S (d) (52, 74, L, st) M = fr S d (52, 7, L, st) M := (fr_eq S (d) (52, 74, L, st) M).trans (x_ogo _ _ 52 7 L st M)
theorem f52_77 (S : pm_S) (d : Nat) (L : List Value)  (M : pm_M) : fr S (d) (52, 77, L, []) M = some (.inl none, M) := (fr_eq S (d) (52, 77, L, []) M).trans (x_orv _ _ M)
theorem f53_0 (S : pm_S) (d : Nat) (L : List Value) (st : List Value) (M : pm_M) : fr S (d) (53, 0, L, st) M = if pm_ty (L.getD 0 pm_U) = 2 then fr S d (53, 1, L, L.getD 0 pm_U :: st) M else none := (fr_eq S (d) (53, 0, L, st) M).trans (x_old _ _ 2 0 53 1 L st M)
theorem f53_1 (S : pm_S) (d : Nat) (L : List Value) (q : Nat) (r : List Value) (M : pm_M) : fr S (d) (53, 1, L, .ref q :: r) M = match pm_get M q with
  | some (.inr (c, fs)) => if c = 0 ∧ 10 < fs.length then fr S d (53, 4, L, fs.getD 10 pm_U :: r) M else none
  | _ => none := (fr_eq S (d) (53, 1, L, .ref q :: r) M).trans (x_ogf _ _ 0 10 53 4 L r q M)
theorem f53_4 (S : pm_S) (d : Nat) (L : List Value) (st : List Value) (M : pm_M) : fr S (d) (53, 4, L, st) M = if pm_ty (L.getD 0 pm_U) = 2 then fr S d (53, 5, L, L.getD 0 pm_U :: st) M else none := (fr_eq S (d) (53, 4, L, st) M).trans (x_old _ _ 2 0 53 5 L st M)
theorem f53_5 (S : pm_S) (d : Nat) (L : List Value) (q : Nat) (r : List Value) (M : pm_M) : fr S (d) (53, 5, L, .ref q :: r) M = match pm_get M q with
  | some (.inr (c, fs)) => if c = 0 ∧ 11 < fs.length then fr S d (53, 8, L, fs.getD 11 pm_U :: r) M else none
  | _ => none := (fr_eq S (d) (53, 5, L, .ref q :: r) M).trans (x_ogf _ _ 0 11 53 8 L r q M)
theorem f53_8 (S : pm_S) (d : Nat) (L : List Value) (st : List Value) (M : pm_M) : fr S (d + 1) (53, 8, L, st) M = match pm_ag 2 [] st with
  | some (a, r) => if r.length ≤ 4 ∧ (1 = 0 ∨ pm_obj M 2 (a.headD pm_U) = true) then (match fr S d (81, 0, a ++ [], []) M with
    | none => none
    | some (.inl v, M') => fr S (d + 1) (53, 11, L, v.toList ++ r) M'
    | some (.inr E, M') => some (.inr E, M')) else none
  | none => none := (fr_eq S (d + 1) (53, 8, L, st) M).trans (x_ocl _ _ 1 81 2 2 [] 53 11 L st M)
theorem f53_11 (S : pm_S) (d : Nat) (L : List Value) (x : Int32) (r : List Value) (M : pm_M) : fr S (d) (53, 11, L, .int x :: r) M = if x = 0 then fr S d (53, 25, L, r) M else fr S d (53, 14, L, r) M := (fr_eq S (d) (53, 11, L, .int x :: r) M).trans (x_oc1eq _ _ 53 14 25 L r x M)
theorem f53_14 (S : pm_S) (d : Nat) (L : List Value) (st : List Value) (M : pm_M) : fr S (d) (53, 14, L, st) M = if pm_ty (L.getD 0 pm_U) = 2 then fr S d (53, 15, L, L.getD 0 pm_U :: st) M else none := (fr_eq S (d) (53, 14, L, st) M).trans (x_old _ _ 2 0 53 15 L st M)
theorem f53_15 (S : pm_S) (d : Nat) (L : List Value) (q : Nat) (r : List Value) (M : pm_M) : fr S (d) (53, 15, L, .ref q :: r) M = match pm_get M q with
  | some (.inr (c, fs)) => if c = 0 ∧ 11 < fs.length then fr S d (53, 18, L, fs.getD 11 pm_U :: r) M else none
  | _ => none := (fr_eq S (d) (53, 15, L, .ref q :: r) M).trans (x_ogf _ _ 0 11 53 18 L r q M)
theorem f53_18 (S : pm_S) (d : Nat) (L : List Value) (st : List Value) (M : pm_M) : fr S (d) (53, 18, L, st) M = if pm_ty (L.getD 0 pm_U) = 2 then fr S d (53, 19, L, L.getD 0 pm_U :: st) M else none := (fr_eq S (d) (53, 18, L, st) M).trans (x_old _ _ 2 0 53 19 L st M)
theorem f53_19 (S : pm_S) (d : Nat) (L : List Value) (q : Nat) (r : List Value) (M : pm_M) : fr S (d) (53, 19, L, .ref q :: r) M = match pm_get M q with
  | some (.inr (c, fs)) => if c = 0 ∧ 10 < fs.length then fr S d (53, 22, L, fs.getD 10 pm_U :: r) M else none
  | _ => none := (fr_eq S (d) (53, 19, L, .ref q :: r) M).trans (x_ogf _ _ 0 10 53 22 L r q M)
theorem f53_22 (S : pm_S) (d : Nat) (L : List Value) (st : List Value) (M : pm_M) : fr S (d + 1) (53, 22, L, st) M = match pm_ag 2 [] st with
  | some (a, r) => if r.length ≤ 4 ∧ (1 = 0 ∨ pm_obj M 2 (a.headD pm_U) = true) then (match fr S d (82, 0, a ++ [pm_U], []) M with
    | none => none
    | some (.inl v, M') => fr S (d + 1) (53, 25, L, v.toList ++ r) M'
    | some (.inr E, M') => some (.inr E, M')) else none
  | none => none := (fr_eq S (d + 1) (53, 22, L, st) M).trans (x_ocl _ _ 1 82 2 2 [pm_U] 53 25 L st M)
theorem f53_25 (S : pm_S) (d : Nat) (L : List Value) (st : List Value) (M : pm_M) : fr S (d) (53, 25, L, st) M = if pm_ty (L.getD 2 pm_U) = 0 then fr S d (53, 26, L, L.getD 2 pm_U :: st) M else none := (fr_eq S (d) (53, 25, L, st) M).trans (x_old _ _ 0 2 53 26 L st M)
