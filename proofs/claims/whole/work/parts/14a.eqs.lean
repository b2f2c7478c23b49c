theorem f0_0 (S : pm_S) (d : Nat) (L : List Value) (st : List Value) (M : pm_M) : fr S (d) (0, 0, L, st) M = if pm_ty (L.getD 1 pm_U) = 0 then fr S d (0, 1, L, L.getD 1 pm_U :: st) M else none := (fr_eq S (d) (0, 0, L, st) M).trans (x_old _ _ 0 1 0 1 L st M)
theorem f0_1 (S : pm_S) (d : Nat) (L : List Value) (st : List Value) (M : pm_M) : fr S (d) (0, 1, L, st) M = if pm_ty (L.getD 0 pm_U) = 2 then fr S d (0, 2, L, L.getD 0 pm_U :: st) M else none := (fr_eq S (d) (0, 1, L, st) M).trans (x_old _ _ 2 0 0 2 L st M)
theorem f0_2 (S : pm_S) (d : Nat) (L : List Value) (q : Nat) (hq : ¬ q = 1) (r : List Value) (M : pm_M) : fr S (d) (0, 2, L, .ref q :: r) M = match pm_get M q with
  | some (.inl (_, (n, _))) => fr S d (0, 3, L, .int (Int32.ofNat n) :: r) M
  | _ => none := (fr_eq S (d) (0, 2, L, .ref q :: r) M).trans (x_oln _ _ S 0 3 L r q hq M)
theorem f0_3 (S : pm_S) (d : Nat) (L : List Value) (x y : Int32) (r : List Value) (M : pm_M) : fr S (d) (0, 3, L, .int y :: .int x :: r) M = if y ≤ x then fr S d (0, 12, L, r) M else fr S d (0, 6, L, r) M := (fr_eq S (d) (0, 3, L, .int y :: .int x :: r) M).trans (x_oc2ge _ _ 0 6 12 L r x y M)
theorem f0_6 (S : pm_S) (d : Nat) (L : List Value) (st : List Value) (M : pm_M) : fr S (d) (0, 6, L, st) M = if pm_ty (L.getD 0 pm_U) = 2 then fr S d (0, 7, L, L.getD 0 pm_U :: st) M else none := (fr_eq S (d) (0, 6, L, st) M).trans (x_old _ _ 2 0 0 7 L st M)
theorem f0_7 (S : pm_S) (d : Nat) (L : List Value) (st : List Value) (M : pm_M) : fr S (d) (0, 7, L, st) M = if pm_ty (L.getD 1 pm_U) = 0 then fr S d (0, 8, L, L.getD 1 pm_U :: st) M else none := (fr_eq S (d) (0, 7, L, st) M).trans (x_old _ _ 0 1 0 8 L st M)
theorem f0_8 (S : pm_S) (d : Nat) (L : List Value) (i : Int32) (q : Nat) (hq : ¬ q = 1) (r : List Value) (M : pm_M) : fr S (d) (0, 8, L, .int i :: .ref q :: r) M = match (pm_get M q).bind (fun c => pm_el 0 c i) with
  | some v => fr S d (0, 9, L, v :: r) M
  | none => none := (fr_eq S (d) (0, 8, L, .int i :: .ref q :: r) M).trans (x_oal _ _ S 0 0 9 L r i q hq M)
theorem f0_9 (S : pm_S) (d : Nat) (L : List Value) (st : List Value) (M : pm_M) : fr S (d) (0, 9, L, st) M = fr S d (0, 13, L, st) M := (fr_eq S (d) (0, 9, L, st) M).trans (x_ogo _ _ 0 13 L st M)
theorem f0_12 (S : pm_S) (d : Nat) (L : List Value) (st : List Value) (M : pm_M) : fr S (d) (0, 12, L, st) M = fr S d (0, 13, L, .int 0 :: st) M := (fr_eq S (d) (0, 12, L, st) M).trans (x_ocs _ _ (.int 0) 0 13 L st M)
theorem f0_13 (S : pm_S) (d : Nat) (L : List Value) (v : Value) (M : pm_M) : fr S (d) (0, 13, L, [v]) M = if pm_fit 0 v = true then some (.inl (some v), M) else none := (fr_eq S (d) (0, 13, L, [v]) M).trans (x_ort _ _ 0 v M)
theorem f1_0 (S : pm_S) (d : Nat) (L : List Value) (st : List Value) (M : pm_M) : fr S (d) (1, 0, L, st) M = if pm_ty (L.getD 5 pm_U) = 2 then fr S d (1, 2, L, L.getD 5 pm_U :: st) M else none := (fr_eq S (d) (1, 0, L, st) M).trans (x_old _ _ 2 5 1 2 L st M)
theorem f1_2 (S : pm_S) (d : Nat) (L : List Value) (st : List Value) (M : pm_M) : fr S (d) (1, 2, L, st) M = fr S d (1, 3, L, .int 0 :: st) M := (fr_eq S (d) (1, 2, L, st) M).trans (x_ocs _ _ (.int 0) 1 3 L st M)
theorem f1_3 (S : pm_S) (d : Nat) (L : List Value) (st : List Value) (M : pm_M) : fr S (d) (1, 3, L, st) M = if pm_ty (L.getD 0 pm_U) = 2 then fr S d (1, 4, L, L.getD 0 pm_U :: st) M else none := (fr_eq S (d) (1, 3, L, st) M).trans (x_old _ _ 2 0 1 4 L st M)
theorem f1_4 (S : pm_S) (d : Nat) (L : List Value) (st : List Value) (M : pm_M) : fr S (d) (1, 4, L, st) M = if pm_ty (L.getD 1 pm_U) = 0 then fr S d (1, 5, L, L.getD 1 pm_U :: st) M else none := (fr_eq S (d) (1, 4, L, st) M).trans (x_old _ _ 0 1 1 5 L st M)
theorem f1_5 (S : pm_S) (d : Nat) (L : List Value) (st : List Value) (M : pm_M) : fr S (d) (1, 5, L, st) M = if pm_ty (L.getD 2 pm_U) = 0 then fr S d (1, 6, L, L.getD 2 pm_U :: st) M else none := (fr_eq S (d) (1, 5, L, st) M).trans (x_old _ _ 0 2 1 6 L st M)
theorem f1_6 (S : pm_S) (d : Nat) (L : List Value) (st : List Value) (M : pm_M) : fr S (d) (1, 6, L, st) M = if pm_ty (L.getD 3 pm_U) = 0 then fr S d (1, 7, L, L.getD 3 pm_U :: st) M else none := (fr_eq S (d) (1, 6, L, st) M).trans (x_old _ _ 0 3 1 7 L st M)
theorem f1_7 (S : pm_S) (d : Nat) (L : List Value) (st : List Value) (M : pm_M) : fr S (d) (1, 7, L, st) M = if pm_ty (L.getD 4 pm_U) = 0 then fr S d (1, 9, L, L.getD 4 pm_U :: st) M else none := (fr_eq S (d) (1, 7, L, st) M).trans (x_old _ _ 0 4 1 9 L st M)
theorem f1_9 (S : pm_S) (d : Nat) (L : List Value) (st : List Value) (M : pm_M) : fr S (d + 1) (1, 9, L, st) M = match pm_ag 5 [] st with
  | some (a, r) => if r.length ≤ 4 ∧ (1 = 0 ∨ pm_obj M 0 (a.headD pm_U) = true) ∧ ([("java/lang/IllegalArgumentException", (19, 6)), ("java/lang/IllegalStateException", (23, 6))] : List (String × Nat × Nat)).all (fun q => decide (q.2.2 < L.length) && !(pm_ty (L.getD (q.2.2 - 1) pm_U) == 1)) = true then (match fr S d (11, 0, a ++ [pm_U], []) M with
    | none => none
    | some (.inl v, M') => fr S (d + 1) (1, 12, L, v.toList ++ r) M'
    | some (.inr E, M') => (match ([("java/lang/IllegalArgumentException", (19, 6)), ("java/lang/IllegalStateException", (23, 6))] : List (String × Nat × Nat)).lookup E with
      | some q => fr S (d + 1) (1, q.1, L.set q.2 pm_U, []) M'
      | none => none)) else none
  | none => none := (fr_eq S (d + 1) (1, 9, L, st) M).trans (x_och _ _ 1 11 5 0 [pm_U] _ _ 1 12 L st M)
theorem f1_12 (S : pm_S) (d : Nat) (L : List Value) (x : Int32) (r : List Value) (M : pm_M) : fr S (d) (1, 12, L, .int x :: r) M = fr S d (1, 13, L, .long x.toInt64 :: r) M := (fr_eq S (d) (1, 12, L, .int x :: r) M).trans (x_oi1 _ _ (fun x => .long x.toInt64) 1 13 L r x M)
theorem f1_13 (S : pm_S) (d : Nat) (L : List Value) (v : Value) (i : Int32) (q : Nat) (r : List Value) (M : pm_M) : fr S (d) (1, 13, L, v :: .int i :: .ref q :: r) M = if pm_sq M 9 v = true then (match (pm_get M q).bind (fun c => pm_ev 1 2 c i v) with
  | some c => fr S d (1, 14, L, r) (pm_set M q c)
  | none => none) else none := (fr_eq S (d) (1, 13, L, v :: .int i :: .ref q :: r) M).trans (x_oas _ _ 1 2 9 1 14 L r v i q M)
theorem f1_14 (S : pm_S) (d : Nat) (L : List Value) (st : List Value) (M : pm_M) : fr S (d) (1, 14, L, st) M = fr S d (1, 25, L, st) M := (fr_eq S (d) (1, 14, L, st) M).trans (x_ogo _ _ 1 25 L st M)
theorem f1_17 (S : pm_S) (d : Nat) (L : List Value) (v : Value) (r : List Value) (M : pm_M) : fr S (d) (1, 17, L, v :: r) M = if pm_ty v = 2 ∧ 6 < L.length ∧ ¬ pm_ty (L.getD (6 - 1) pm_U) = 1 then fr S d (1, 19, L.set 6 v, r) M else none := (fr_eq S (d) (1, 17, L, v :: r) M).trans (x_ost _ _ 2 6 1 19 L r v M)
theorem f1_19 (S : pm_S) (d : Nat) (L : List Value) (st : List Value) (M : pm_M) : fr S (d) (1, 19, L, st) M = fr S d (1, 20, L, .int 1 :: st) M := (fr_eq S (d) (1, 19, L, st) M).trans (x_ocs _ _ (.int 1) 1 20 L st M)
theorem f1_20 (S : pm_S) (d : Nat) (L : List Value) (v : Value) (M : pm_M) : fr S (d) (1, 20, L, [v]) M = if pm_fit 0 v = true then some (.inl (some v), M) else none := (fr_eq S (d) (1, 20, L, [v]) M).trans (x_ort _ _ 0 v M)
theorem f1_21 (S : pm_S) (d : Nat) (L : List Value) (v : Value) (r : List Value) (M : pm_M) : fr S (d) (1, 21, L, v :: r) M = if pm_ty v = 2 ∧ 6 < L.length ∧ ¬ pm_ty (L.getD (6 - 1) pm_U) = 1 then fr S d (1, 23, L.set 6 v, r) M else none := (fr_eq S (d) (1, 21, L, v :: r) M).trans (x_ost _ _ 2 6 1 23 L r v M)
theorem f1_23 (S : pm_S) (d : Nat) (L : List Value) (st : List Value) (M : pm_M) : fr S (d) (1, 23, L, st) M = fr S d (1, 24, L, .int 2 :: st) M := (fr_eq S (d) (1, 23, L, st) M).trans (x_ocs _ _ (.int 2) 1 24 L st M)
theorem f1_24 (S : pm_S) (d : Nat) (L : List Value) (v : Value) (M : pm_M) : fr S (d) (1, 24, L, [v]) M = if pm_fit 0 v = true then some (.inl (some v), M) else none := (fr_eq S (d) (1, 24, L, [v]) M).trans (x_ort _ _ 0 v M)
theorem f1_25 (S : pm_S) (d : Nat) (L : List Value) (st : List Value) (M : pm_M) : fr S (d) (1, 25, L, st) M = fr S d (1, 26, L, .int 0 :: st) M := (fr_eq S (d) (1, 25, L, st) M).trans (x_ocs _ _ (.int 0) 1 26 L st M)
theorem f1_26 (S : pm_S) (d : Nat) (L : List Value) (v : Value) (M : pm_M) : fr S (d) (1, 26, L, [v]) M = if pm_fit 0 v = true then some (.inl (some v), M) else none := (fr_eq S (d) (1, 26, L, [v]) M).trans (x_ort _ _ 0 v M)
theorem f2_0 (S : pm_S) (d : Nat) (L : List Value) (st : List Value) (M : pm_M) : fr S (d) (2, 0, L, st) M = if pm_ty (L.getD 5 pm_U) = 2 then fr S d (2, 2, L, L.getD 5 pm_U :: st) M else none := (fr_eq S (d) (2, 0, L, st) M).trans (x_old _ _ 2 5 2 2 L st M)
theorem f2_2 (S : pm_S) (d : Nat) (L : List Value) (st : List Value) (M : pm_M) : fr S (d) (2, 2, L, st) M = fr S d (2, 3, L, .int 0 :: st) M := (fr_eq S (d) (2, 2, L, st) M).trans (x_ocs _ _ (.int 0) 2 3 L st M)
theorem f2_3 (S : pm_S) (d : Nat) (L : List Value) (st : List Value) (M : pm_M) : fr S (d) (2, 3, L, st) M = if pm_ty (L.getD 0 pm_U) = 2 then fr S d (2, 4, L, L.getD 0 pm_U :: st) M else none := (fr_eq S (d) (2, 3, L, st) M).trans (x_old _ _ 2 0 2 4 L st M)
theorem f2_4 (S : pm_S) (d : Nat) (L : List Value) (st : List Value) (M : pm_M) : fr S (d) (2, 4, L, st) M = if pm_ty (L.getD 1 pm_U) = 0 then fr S d (2, 5, L, L.getD 1 pm_U :: st) M else none := (fr_eq S (d) (2, 4, L, st) M).trans (x_old _ _ 0 1 2 5 L st M)
theorem f2_5 (S : pm_S) (d : Nat) (L : List Value) (st : List Value) (M : pm_M) : fr S (d) (2, 5, L, st) M = if pm_ty (L.getD 2 pm_U) = 0 then fr S d (2, 6, L, L.getD 2 pm_U :: st) M else none := (fr_eq S (d) (2, 5, L, st) M).trans (x_old _ _ 0 2 2 6 L st M)
theorem f2_6 (S : pm_S) (d : Nat) (L : List Value) (st : List Value) (M : pm_M) : fr S (d) (2, 6, L, st) M = if pm_ty (L.getD 3 pm_U) = 0 then fr S d (2, 7, L, L.getD 3 pm_U :: st) M else none := (fr_eq S (d) (2, 6, L, st) M).trans (x_old _ _ 0 3 2 7 L st M)
theorem f2_7 (S : pm_S) (d : Nat) (L : List Value) (st : List Value) (M : pm_M) : fr S (d) (2, 7, L, st) M = if pm_ty (L.getD 4 pm_U) = 0 then fr S d (2, 9, L, L.getD 4 pm_U :: st) M else none := (fr_eq S (d) (2, 7, L, st) M).trans (x_old _ _ 0 4 2 9 L st M)
theorem f2_9 (S : pm_S) (d : Nat) (L : List Value) (st : List Value) (M : pm_M) : fr S (d + 1) (2, 9, L, st) M = match pm_ag 5 [] st with
  | some (a, r) => if r.length ≤ 4 ∧ (1 = 0 ∨ pm_obj M 0 (a.headD pm_U) = true) ∧ ([("java/lang/IndexOutOfBoundsException", (26, 6))] : List (String × Nat × Nat)).all (fun q => decide (q.2.2 < L.length) && !(pm_ty (L.getD (q.2.2 - 1) pm_U) == 1)) = true then (match fr S d (12, 0, a ++ [pm_U], []) M with
    | none => none
    | some (.inl v, M') => fr S (d + 1) (2, 12, L, v.toList ++ r) M'
    | some (.inr E, M') => (match ([("java/lang/IndexOutOfBoundsException", (26, 6))] : List (String × Nat × Nat)).lookup E with
      | some q => fr S (d + 1) (2, q.1, L.set q.2 pm_U, []) M'
      | none => none)) else none
  | none => none := (fr_eq S (d + 1) (2, 9, L, st) M).trans (x_och _ _ 1 12 5 0 [pm_U] _ _ 2 12 L st M)
theorem f2_12 (S : pm_S) (d : Nat) (L : List Value) (x : Int32) (r : List Value) (M : pm_M) : fr S (d) (2, 12, L, .int x :: r) M = if x = 0 then fr S d (2, 19, L, r) M else fr S d (2, 15, L, r) M := (fr_eq S (d) (2, 12, L, .int x :: r) M).trans (x_oc1eq _ _ 2 15 19 L r x M)
theorem f2_15 (S : pm_S) (d : Nat) (L : List Value) (st : List Value) (M : pm_M) : fr S (d) (2, 15, L, st) M = fr S d (2, 16, L, .long 1 :: st) M := (fr_eq S (d) (2, 15, L, st) M).trans (x_ocs _ _ (.long 1) 2 16 L st M)
theorem f2_16 (S : pm_S) (d : Nat) (L : List Value) (st : List Value) (M : pm_M) : fr S (d) (2, 16, L, st) M = fr S d (2, 20, L, st) M := (fr_eq S (d) (2, 16, L, st) M).trans (x_ogo _ _ 2 20 L st M)
theorem f2_19 (S : pm_S) (d : Nat) (L : List Value) (st : List Value) (M : pm_M) : fr S (d) (2, 19, L, st) M = fr S d (2, 20, L, .long 0 :: st) M := (fr_eq S (d) (2, 19, L, st) M).trans (x_ocs _ _ (.long 0) 2 20 L st M)
theorem f2_20 (S : pm_S) (d : Nat) (L : List Value) (v : Value) (i : Int32) (q : Nat) (r : List Value) (M : pm_M) : fr S (d) (2, 20, L, v :: .int i :: .ref q :: r) M = if pm_sq M 9 v = true then (match (pm_get M q).bind (fun c => pm_ev 1 2 c i v) with
  | some c => fr S d (2, 21, L, r) (pm_set M q c)
  | none => none) else none := (fr_eq S (d) (2, 20, L, v :: .int i :: .ref q :: r) M).trans (x_oas _ _ 1 2 9 2 21 L r v i q M)
theorem f2_21 (S : pm_S) (d : Nat) (L : List Value) (st : List Value) (M : pm_M) : fr S (d) (2, 21, L, st) M = fr S d (2, 28, L, st) M := (fr_eq S (d) (2, 21, L, st) M).trans (x_ogo _ _ 2 28 L st M)
theorem f2_24 (S : pm_S) (d : Nat) (L : List Value) (v : Value) (r : List Value) (M : pm_M) : fr S (d) (2, 24, L, v :: r) M = if pm_ty v = 2 ∧ 6 < L.length ∧ ¬ pm_ty (L.getD (6 - 1) pm_U) = 1 then fr S d (2, 26, L.set 6 v, r) M else none := (fr_eq S (d) (2, 24, L, v :: r) M).trans (x_ost _ _ 2 6 2 26 L r v M)
theorem f2_26 (S : pm_S) (d : Nat) (L : List Value) (st : List Value) (M : pm_M) : fr S (d) (2, 26, L, st) M = fr S d (2, 27, L, .int 1 :: st) M := (fr_eq S (d) (2, 26, L, st) M).trans (x_ocs _ _ (.int 1) 2 27 L st M)
theorem f2_27 (S : pm_S) (d : Nat) (L : List Value) (v : Value) (M : pm_M) : fr S (d) (2, 27, L, [v]) M = if pm_fit 0 v = true then some (.inl (some v), M) else none := (fr_eq S (d) (2, 27, L, [v]) M).trans (x_ort _ _ 0 v M)
theorem f2_28 (S : pm_S) (d : Nat) (L : List Value) (st : List Value) (M : pm_M) : fr S (d) (2, 28, L, st) M = fr S d (2, 29, L, .int 0 :: st) M := (fr_eq S (d) (2, 28, L, st) M).trans (x_ocs _ _ (.int 0) 2 29 L st M)
theorem f2_29 (S : pm_S) (d : Nat) (L : List Value) (v : Value) (M : pm_M) : fr S (d) (2, 29, L, [v]) M = if pm_fit 0 v = true then some (.inl (some v), M) else none := (fr_eq S (d) (2, 29, L, [v]) M).trans (x_ort _ _ 0 v M)
theorem f3_0 (S : pm_S) (d : Nat) (L : List Value) (st : List Value) (M : pm_M) : fr S (d) (3, 0, L, st) M = if pm_ty (L.getD 5 pm_U) = 2 then fr S d (3, 2, L, L.getD 5 pm_U :: st) M else none := (fr_eq S (d) (3, 0, L, st) M).trans (x_old _ _ 2 5 3 2 L st M)
theorem f3_2 (S : pm_S) (d : Nat) (L : List Value) (st : List Value) (M : pm_M) : fr S (d) (3, 2, L, st) M = fr S d (3, 3, L, .int 0 :: st) M := (fr_eq S (d) (3, 2, L, st) M).trans (x_ocs _ _ (.int 0) 3 3 L st M)
theorem f3_3 (S : pm_S) (d : Nat) (L : List Value) (st : List Value) (M : pm_M) : fr S (d) (3, 3, L, st) M = if pm_ty (L.getD 0 pm_U) = 2 then fr S d (3, 4, L, L.getD 0 pm_U :: st) M else none := (fr_eq S (d) (3, 3, L, st) M).trans (x_old _ _ 2 0 3 4 L st M)
theorem f3_4 (S : pm_S) (d : Nat) (L : List Value) (st : List Value) (M : pm_M) : fr S (d) (3, 4, L, st) M = if pm_ty (L.getD 1 pm_U) = 0 then fr S d (3, 5, L, L.getD 1 pm_U :: st) M else none := (fr_eq S (d) (3, 4, L, st) M).trans (x_old _ _ 0 1 3 5 L st M)
theorem f3_5 (S : pm_S) (d : Nat) (L : List Value) (st : List Value) (M : pm_M) : fr S (d) (3, 5, L, st) M = if pm_ty (L.getD 2 pm_U) = 0 then fr S d (3, 6, L, L.getD 2 pm_U :: st) M else none := (fr_eq S (d) (3, 5, L, st) M).trans (x_old _ _ 0 2 3 6 L st M)
theorem f3_6 (S : pm_S) (d : Nat) (L : List Value) (st : List Value) (M : pm_M) : fr S (d) (3, 6, L, st) M = if pm_ty (L.getD 3 pm_U) = 0 then fr S d (3, 7, L, L.getD 3 pm_U :: st) M else none := (fr_eq S (d) (3, 6, L, st) M).trans (x_old _ _ 0 3 3 7 L st M)
theorem f3_7 (S : pm_S) (d : Nat) (L : List Value) (st : List Value) (M : pm_M) : fr S (d) (3, 7, L, st) M = if pm_ty (L.getD 4 pm_U) = 0 then fr S d (3, 9, L, L.getD 4 pm_U :: st) M else none := (fr_eq S (d) (3, 7, L, st) M).trans (x_old _ _ 0 4 3 9 L st M)
theorem f3_9 (S : pm_S) (d : Nat) (L : List Value) (st : List Value) (M : pm_M) : fr S (d + 1) (3, 9, L, st) M = match pm_ag 5 [] st with
  | some (a, r) => if r.length ≤ 4 ∧ (1 = 0 ∨ pm_obj M 0 (a.headD pm_U) = true) ∧ ([("java/lang/IndexOutOfBoundsException", (26, 6))] : List (String × Nat × Nat)).all (fun q => decide (q.2.2 < L.length) && !(pm_ty (L.getD (q.2.2 - 1) pm_U) == 1)) = true then (match fr S d (15, 0, a ++ [pm_U], []) M with
    | none => none
    | some (.inl v, M') => fr S (d + 1) (3, 12, L, v.toList ++ r) M'
    | some (.inr E, M') => (match ([("java/lang/IndexOutOfBoundsException", (26, 6))] : List (String × Nat × Nat)).lookup E with
      | some q => fr S (d + 1) (3, q.1, L.set q.2 pm_U, []) M'
      | none => none)) else none
  | none => none := (fr_eq S (d + 1) (3, 9, L, st) M).trans (x_och _ _ 1 15 5 0 [pm_U] _ _ 3 12 L st M)
theorem f3_12 (S : pm_S) (d : Nat) (L : List Value) (x : Int32) (r : List Value) (M : pm_M) : fr S (d) (3, 12, L, .int x :: r) M = if x = 0 then fr S d (3, 19, L, r) M else fr S d (3, 15, L, r) M := (fr_eq S (d) (3, 12, L, .int x :: r) M).trans (x_oc1eq _ _ 3 15 19 L r x M)
theorem f3_15 (S : pm_S) (d : Nat) (L : List Value) (st : List Value) (M : pm_M) : fr S (d) (3, 15, L, st) M = fr S d (3, 16, L, .long 1 :: st) M := (fr_eq S (d) (3, 15, L, st) M).trans (x_ocs _ _ (.long 1) 3 16 L st M)
theorem f3_16 (S : pm_S) (d : Nat) (L : List Value) (st : List Value) (M : pm_M) : fr S (d) (3, 16, L, st) M = fr S d (3, 20, L, st) M := (fr_eq S (d) (3, 16, L, st) M).trans (x_ogo _ _ 3 20 L st M)
theorem f3_19 (S : pm_S) (d : Nat) (L : List Value) (st : List Value) (M : pm_M) : fr S (d) (3, 19, L, st) M = fr S d (3, 20, L, .long 0 :: st) M := (fr_eq S (d) (3, 19, L, st) M).trans (x_ocs _ _ (.long 0) 3 20 L st M)
theorem f3_20 (S : pm_S) (d : Nat) (L : List Value) (v : Value) (i : Int32) (q : Nat) (r : List Value) (M : pm_M) : fr S (d) (3, 20, L, v :: .int i :: .ref q :: r) M = if pm_sq M 9 v = true then (match (pm_get M q).bind (fun c => pm_ev 1 2 c i v) with
  | some c => fr S d (3, 21, L, r) (pm_set M q c)
  | none => none) else none := (fr_eq S (d) (3, 20, L, v :: .int i :: .ref q :: r) M).trans (x_oas _ _ 1 2 9 3 21 L r v i q M)
theorem f3_21 (S : pm_S) (d : Nat) (L : List Value) (st : List Value) (M : pm_M) : fr S (d) (3, 21, L, st) M = fr S d (3, 28, L, st) M := (fr_eq S (d) (3, 21, L, st) M).trans (x_ogo _ _ 3 28 L st M)
theorem f3_24 (S : pm_S) (d : Nat) (L : List Value) (v : Value) (r : List Value) (M : pm_M) : fr S (d) (3, 24, L, v :: r) M = if pm_ty v = 2 ∧ 6 < L.length ∧ ¬ pm_ty (L.getD (6 - 1) pm_U) = 1 then fr S d (3, 26, L.set 6 v, r) M else none := (fr_eq S (d) (3, 24, L, v :: r) M).trans (x_ost _ _ 2 6 3 26 L r v M)
theorem f3_26 (S : pm_S) (d : Nat) (L : List Value) (st : List Value) (M : pm_M) : fr S (d) (3, 26, L, st) M = fr S d (3, 27, L, .int 1 :: st) M := (fr_eq S (d) (3, 26, L, st) M).trans (x_ocs _ _ (.int 1) 3 27 L st M)
theorem f3_27 (S : pm_S) (d : Nat) (L : List Value) (v : Value) (M : pm_M) : fr S (d) (3, 27, L, [v]) M = if pm_fit 0 v = true then some (.inl (some v), M) else none := (fr_eq S (d) (3, 27, L, [v]) M).trans (x_ort _ _ 0 v M)
theorem f3_28 (S : pm_S) (d : Nat) (L : List Value) (st : List Value) (M : pm_M) : fr S (d) (3, 28, L, st) M = fr S d (3, 29, L, .int 0 :: st) M := (fr_eq S (d) (3, 28, L, st) M).trans (x_ocs _ _ (.int 0) 3 29 L st M)
theorem f3_29 (S : pm_S) (d : Nat) (L : List Value) (v : Value) (M : pm_M) : fr S (d) (3, 29, L, [v]) M = if pm_fit 0 v = true then some (.inl (some v), M) else none := (fr_eq S (d) (3, 29, L, [v]) M).trans (x_ort _ _ 0 v M)
theorem f4_0 (S : pm_S) (d : Nat) (L : List Value) (st : List Value) (M : pm_M) : fr S (d) (4, 0, L, st) M = if pm_ty (L.getD 3 pm_U) = 2 then fr S d (4, 1, L, L.getD 3 pm_U :: st) M else none := (fr_eq S (d) (4, 0, L, st) M).trans (x_old _ _ 2 3 4 1 L st M)
theorem f4_1 (S : pm_S) (d : Nat) (L : List Value) (st : List Value) (M : pm_M) : fr S (d) (4, 1, L, st) M = fr S d (4, 2, L, .int 0 :: st) M := (fr_eq S (d) (4, 1, L, st) M).trans (x_ocs _ _ (.int 0) 4 2 L st M)
theorem f4_2 (S : pm_S) (d : Nat) (L : List Value) (st : List Value) (M : pm_M) : fr S (d) (4, 2, L, st) M = if pm_ty (L.getD 0 pm_U) = 2 then fr S d (4, 3, L, L.getD 0 pm_U :: st) M else none := (fr_eq S (d) (4, 2, L, st) M).trans (x_old _ _ 2 0 4 3 L st M)
theorem f4_3 (S : pm_S) (d : Nat) (L : List Value) (st : List Value) (M : pm_M) : fr S (d) (4, 3, L, st) M = if pm_ty (L.getD 1 pm_U) = 0 then fr S d (4, 4, L, L.getD 1 pm_U :: st) M else none := (fr_eq S (d) (4, 3, L, st) M).trans (x_old _ _ 0 1 4 4 L st M)
theorem f4_4 (S : pm_S) (d : Nat) (L : List Value) (st : List Value) (M : pm_M) : fr S (d) (4, 4, L, st) M = if pm_ty (L.getD 2 pm_U) = 0 then fr S d (4, 5, L, L.getD 2 pm_U :: st) M else none := (fr_eq S (d) (4, 4, L, st) M).trans (x_old _ _ 0 2 4 5 L st M)
theorem f4_5 (S : pm_S) (d : Nat) (L : List Value) (st : List Value) (M : pm_M) : fr S (d + 1) (4, 5, L, st) M = match pm_ag 3 [] st with
  | some (a, r) => if r.length ≤ 4 ∧ (1 = 0 ∨ pm_obj M 0 (a.headD pm_U) = true) ∧ ([("java/lang/IndexOutOfBoundsException", (15, 4))] : List (String × Nat × Nat)).all (fun q => decide (q.2.2 < L.length) && !(pm_ty (L.getD (q.2.2 - 1) pm_U) == 1)) = true then (match fr S d (18, 0, a ++ [pm_U, pm_U, pm_U, pm_U], []) M with
    | none => none
    | some (.inl v, M') => fr S (d + 1) (4, 8, L, v.toList ++ r) M'
    | some (.inr E, M') => (match ([("java/lang/IndexOutOfBoundsException", (15, 4))] : List (String × Nat × Nat)).lookup E with
      | some q => fr S (d + 1) (4, q.1, L.set q.2 pm_U, []) M'
      | none => none)) else none
  | none => none := (fr_eq S (d + 1) (4, 5, L, st) M).trans (x_och _ _ 1 18 3 0 [pm_U, pm_U, pm_U, pm_U] _ _ 4 8 L st M)
theorem f4_8 (S : pm_S) (d : Nat) (L : List Value) (x : Int32) (r : List Value) (M : pm_M) : fr S (d) (4, 8, L, .int x :: r) M = fr S d (4, 9, L, .long x.toInt64 :: r) M := (fr_eq S (d) (4, 8, L, .int x :: r) M).trans (x_oi1 _ _ (fun x => .long x.toInt64) 4 9 L r x M)
theorem f4_9 (S : pm_S) (d : Nat) (L : List Value) (v : Value) (i : Int32) (q : Nat) (r : List Value) (M : pm_M) : fr S (d) (4, 9, L, v :: .int i :: .ref q :: r) M = if pm_sq M 9 v = true then (match (pm_get M q).bind (fun c => pm_ev 1 2 c i v) with
  | some c => fr S d (4, 10, L, r) (pm_set M q c)
  | none => none) else none := (fr_eq S (d) (4, 9, L, v :: .int i :: .ref q :: r) M).trans (x_oas _ _ 1 2 9 4 10 L r v i q M)
theorem f4_10 (S : pm_S) (d : Nat) (L : List Value) (st : List Value) (M : pm_M) : fr S (d) (4, 10, L, st) M = fr S d (4, 17, L, st) M := (fr_eq S (d) (4, 10, L, st) M).trans (x_ogo _ _ 4 17 L st M)
theorem f4_13 (S : pm_S) (d : Nat) (L : List Value) (v : Value) (r : List Value) (M : pm_M) : fr S (d) (4, 13, L, v :: r) M = if pm_ty v = 2 ∧ 4 < L.length ∧ ¬ pm_ty (L.getD (4 - 1) pm_U) = 1 then fr S d (4, 15, L.set 4 v, r) M else none := (fr_eq S (d) (4, 13, L, v :: r) M).trans (x_ost _ _ 2 4 4 15 L r v M)
theorem f4_15 (S : pm_S) (d : Nat) (L : List Value) (st : List Value) (M : pm_M) : fr S (d) (4, 15, L, st) M = fr S d (4, 16, L, .int 1 :: st) M := (fr_eq S (d) (4, 15, L, st) M).trans (x_ocs _ _ (.int 1) 4 16 L st M)
theorem f4_16 (S : pm_S) (d : Nat) (L : List Value) (v : Value) (M : pm_M) : fr S (d) (4, 16, L, [v]) M = if pm_fit 0 v = true then some (.inl (some v), M) else none := (fr_eq S (d) (4, 16, L, [v]) M).trans (x_ort _ _ 0 v M)
theorem f4_17 (S : pm_S) (d : Nat) (L : List Value) (st : List Value) (M : pm_M) : fr S (d) (4, 17, L, st) M = fr S d (4, 18, L, .int 0 :: st) M := (fr_eq S (d) (4, 17, L, st) M).trans (x_ocs _ _ (.int 0) 4 18 L st M)
theorem f4_18 (S : pm_S) (d : Nat) (L : List Value) (v : Value) (M : pm_M) : fr S (d) (4, 18, L, [v]) M = if pm_fit 0 v = true then some (.inl (some v), M) else none := (fr_eq S (d) (4, 18, L, [v]) M).trans (x_ort _ _ 0 v M)
theorem f5_0 (S : pm_S) (d : Nat) (L : List Value) (st : List Value) (M : pm_M) : fr S (d) (5, 0, L, st) M = if pm_ty (L.getD 2 pm_U) = 2 then fr S d (5, 1, L, L.getD 2 pm_U :: st) M else none := (fr_eq S (d) (5, 0, L, st) M).trans (x_old _ _ 2 2 5 1 L st M)
theorem f5_1 (S : pm_S) (d : Nat) (L : List Value) (st : List Value) (M : pm_M) : fr S (d) (5, 1, L, st) M = fr S d (5, 2, L, .int 0 :: st) M := (fr_eq S (d) (5, 1, L, st) M).trans (x_ocs _ _ (.int 0) 5 2 L st M)
theorem f5_2 (S : pm_S) (d : Nat) (L : List Value) (st : List Value) (M : pm_M) : fr S (d) (5, 2, L, st) M = if pm_ty (L.getD 0 pm_U) = 2 then fr S d (5, 3, L, L.getD 0 pm_U :: st) M else none := (fr_eq S (d) (5, 2, L, st) M).trans (x_old _ _ 2 0 5 3 L st M)
theorem f5_3 (S : pm_S) (d : Nat) (L : List Value) (st : List Value) (M : pm_M) : fr S (d) (5, 3, L, st) M = if pm_ty (L.getD 1 pm_U) = 0 then fr S d (5, 4, L, L.getD 1 pm_U :: st) M else none := (fr_eq S (d) (5, 3, L, st) M).trans (x_old _ _ 0 1 5 4 L st M)
theorem f5_4 (S : pm_S) (d : Nat) (L : List Value) (st : List Value) (M : pm_M) : fr S (d + 1) (5, 4, L, st) M = match pm_ag 2 [] st with
  | some (a, r) => if r.length ≤ 4 ∧ (1 = 0 ∨ pm_obj M 0 (a.headD pm_U) = true) ∧ ([("java/lang/IllegalArgumentException", (13, 3))] : List (String × Nat × Nat)).all (fun q => decide (q.2.2 < L.length) && !(pm_ty (L.getD (q.2.2 - 1) pm_U) == 1)) = true then (match fr S d (19, 0, a ++ [pm_U, pm_U, pm_U], []) M with
    | none => none
    | some (.inl v, M') => fr S (d + 1) (5, 7, L, v.toList ++ r) M'
    | some (.inr E, M') => (match ([("java/lang/IllegalArgumentException", (13, 3))] : List (String × Nat × Nat)).lookup E with
      | some q => fr S (d + 1) (5, q.1, L.set q.2 pm_U, []) M'
      | none => none)) else none
  | none => none := (fr_eq S (d + 1) (5, 4, L, st) M).trans (x_och _ _ 1 19 2 0 [pm_U, pm_U, pm_U] _ _ 5 7 L st M)
theorem f5_7 (S : pm_S) (d : Nat) (L : List Value) (x : Int32) (r : List Value) (M : pm_M) : fr S (d) (5, 7, L, .int x :: r) M = fr S d (5, 8, L, .long x.toInt64 :: r) M := (fr_eq S (d) (5, 7, L, .int x :: r) M).trans (x_oi1 _ _ (fun x => .long x.toInt64) 5 8 L r x M)
theorem f5_8 (S : pm_S) (d : Nat) (L : List Value) (v : Value) (i : Int32) (q : Nat) (r : List Value) (M : pm_M) : fr S (d) (5, 8, L, v :: .int i :: .ref q :: r) M = if pm_sq M 9 v = true then (match (pm_get M q).bind (fun c => pm_ev 1 2 c i v) with
  | some c => fr S d (5, 9, L, r) (pm_set M q c)
  | none => none) else none := (fr_eq S (d) (5, 8, L, v :: .int i :: .ref q :: r) M).trans (x_oas _ _ 1 2 9 5 9 L r v i q M)
theorem f5_9 (S : pm_S) (d : Nat) (L : List Value) (st : List Value) (M : pm_M) : fr S (d) (5, 9, L, st) M = fr S d (5, 15, L, st) M := (fr_eq S (d) (5, 9, L, st) M).trans (x_ogo _ _ 5 15 L st M)
theorem f5_12 (S : pm_S) (d : Nat) (L : List Value) (v : Value) (r : List Value) (M : pm_M) : fr S (d) (5, 12, L, v :: r) M = if pm_ty v = 2 ∧ 3 < L.length ∧ ¬ pm_ty (L.getD (3 - 1) pm_U) = 1 then fr S d (5, 13, L.set 3 v, r) M else none := (fr_eq S (d) (5, 12, L, v :: r) M).trans (x_ost _ _ 2 3 5 13 L r v M)
theorem f5_13 (S : pm_S) (d : Nat) (L : List Value) (st : List Value) (M : pm_M) : fr S (d) (5, 13, L, st) M = fr S d (5, 14, L, .int 1 :: st) M := (fr_eq S (d) (5, 13, L, st) M).trans (x_ocs _ _ (.int 1) 5 14 L st M)
theorem f5_14 (S : pm_S) (d : Nat) (L : List Value) (v : Value) (M : pm_M) : fr S (d) (5, 14, L, [v]) M = if pm_fit 0 v = true then some (.inl (some v), M) else none := (fr_eq S (d) (5, 14, L, [v]) M).trans (x_ort _ _ 0 v M)
theorem f5_15 (S : pm_S) (d : Nat) (L : List Value) (st : List Value) (M : pm_M) : fr S (d) (5, 15, L, st) M = fr S d (5, 16, L, .int 0 :: st) M := (fr_eq S (d) (5, 15, L, st) M).trans (x_ocs _ _ (.int 0) 5 16 L st M)
theorem f5_16 (S : pm_S) (d : Nat) (L : List Value) (v : Value) (M : pm_M) : fr S (d) (5, 16, L, [v]) M = if pm_fit 0 v = true then some (.inl (some v), M) else none := (fr_eq S (d) (5, 16, L, [v]) M).trans (x_ort _ _ 0 v M)
theorem f6_0 (S : pm_S) (d : Nat) (L : List Value) (st : List Value) (M : pm_M) : fr S (d) (6, 0, L, st) M = if pm_ty (L.getD 2 pm_U) = 2 then fr S d (6, 1, L, L.getD 2 pm_U :: st) M else none := (fr_eq S (d) (6, 0, L, st) M).trans (x_old _ _ 2 2 6 1 L st M)
theorem f6_1 (S : pm_S) (d : Nat) (L : List Value) (st : List Value) (M : pm_M) : fr S (d) (6, 1, L, st) M = fr S d (6, 2, L, .int 0 :: st) M := (fr_eq S (d) (6, 1, L, st) M).trans (x_ocs _ _ (.int 0) 6 2 L st M)
theorem f6_2 (S : pm_S) (d : Nat) (L : List Value) (st : List Value) (M : pm_M) : fr S (d) (6, 2, L, st) M = if pm_ty (L.getD 0 pm_U) = 2 then fr S d (6, 3, L, L.getD 0 pm_U :: st) M else none := (fr_eq S (d) (6, 2, L, st) M).trans (x_old _ _ 2 0 6 3 L st M)
theorem f6_3 (S : pm_S) (d : Nat) (L : List Value) (st : List Value) (M : pm_M) : fr S (d) (6, 3, L, st) M = if pm_ty (L.getD 1 pm_U) = 0 then fr S d (6, 4, L, L.getD 1 pm_U :: st) M else none := (fr_eq S (d) (6, 3, L, st) M).trans (x_old _ _ 0 1 6 4 L st M)
theorem f6_4 (S : pm_S) (d : Nat) (L : List Value) (st : List Value) (M : pm_M) : fr S (d + 1) (6, 4, L, st) M = match pm_ag 2 [] st with
  | some (a, r) => if r.length ≤ 4 ∧ (1 = 0 ∨ pm_obj M 0 (a.headD pm_U) = true) ∧ ([("java/lang/IndexOutOfBoundsException", (13, 3))] : List (String × Nat × Nat)).all (fun q => decide (q.2.2 < L.length) && !(pm_ty (L.getD (q.2.2 - 1) pm_U) == 1)) = true then (match fr S d (20, 0, a ++ [pm_U], []) M with
    | none => none
    | some (.inl v, M') => fr S (d + 1) (6, 7, L, v.toList ++ r) M'
    | some (.inr E, M') => (match ([("java/lang/IndexOutOfBoundsException", (13, 3))] : List (String × Nat × Nat)).lookup E with
      | some q => fr S (d + 1) (6, q.1, L.set q.2 pm_U, []) M'
      | none => none)) else none
  | none => none := (fr_eq S (d + 1) (6, 4, L, st) M).trans (x_och _ _ 1 20 2 0 [pm_U] _ _ 6 7 L st M)
theorem f6_7 (S : pm_S) (d : Nat) (L : List Value) (x : Int32) (r : List Value) (M : pm_M) : fr S (d) (6, 7, L, .int x :: r) M = fr S d (6, 8, L, .long x.toInt64 :: r) M := (fr_eq S (d) (6, 7, L, .int x :: r) M).trans (x_oi1 _ _ (fun x => .long x.toInt64) 6 8 L r x M)
theorem f6_8 (S : pm_S) (d : Nat) (L : List Value) (v : Value) (i : Int32) (q : Nat) (r : List Value) (M : pm_M) : fr S (d) (6, 8, L, v :: .int i :: .ref q :: r) M = if pm_sq M 9 v = true then (match (pm_get M q).bind (fun c => pm_ev 1 2 c i v) with
  | some c => fr S d (6, 9, L, r) (pm_set M q c)
  | none => none) else none := (fr_eq S (d) (6, 8, L, v :: .int i :: .ref q :: r) M).trans (x_oas _ _ 1 2 9 6 9 L r v i q M)
theorem f6_9 (S : pm_S) (d : Nat) (L : List Value) (st : List Value) (M : pm_M) : fr S (d) (6, 9, L, st) M = fr S d (6, 15, L, st) M := (fr_eq S (d) (6, 9, L, st) M).trans (x_ogo _ _ 6 15 L st M)
theorem f6_12 (S : pm_S) (d : Nat) (L : List Value) (v : Value) (r : List Value) (M : pm_M) : fr S (d) (6, 12, L, v :: r) M = if pm_ty v = 2 ∧ 3 < L.length ∧ ¬ pm_ty (L.getD (3 - 1) pm_U) = 1 then fr S d (6, 13, L.set 3 v, r) M else none := (fr_eq S (d) (6, 12, L, v :: r) M).trans (x_ost _ _ 2 3 6 13 L r v M)
theorem f6_13 (S : pm_S) (d : Nat) (L : List Value) (st : List Value) (M : pm_M) : fr S (d) (6, 13, L, st) M = fr S d (6, 14, L, .int 1 :: st) M := (fr_eq S (d) (6, 13, L, st) M).trans (x_ocs _ _ (.int 1) 6 14 L st M)
theorem f6_14 (S : pm_S) (d : Nat) (L : List Value) (v : Value) (M : pm_M) : fr S (d) (6, 14, L, [v]) M = if pm_fit 0 v = true then some (.inl (some v), M) else none := (fr_eq S (d) (6, 14, L, [v]) M).trans (x_ort _ _ 0 v M)
theorem f6_15 (S : pm_S) (d : Nat) (L : List Value) (st : List Value) (M : pm_M) : fr S (d) (6, 15, L, st) M = fr S d (6, 16, L, .int 0 :: st) M := (fr_eq S (d) (6, 15, L, st) M).trans (x_ocs _ _ (.int 0) 6 16 L st M)
theorem f6_16 (S : pm_S) (d : Nat) (L : List Value) (v : Value) (M : pm_M) : fr S (d) (6, 16, L, [v]) M = if pm_fit 0 v = true then some (.inl (some v), M) else none := (fr_eq S (d) (6, 16, L, [v]) M).trans (x_ort _ _ 0 v M)
theorem f7_0 (S : pm_S) (d : Nat) (L : List Value) (st : List Value) (M : pm_M) : fr S (d) (7, 0, L, st) M = if pm_ty (L.getD 4 pm_U) = 2 then fr S d (7, 2, L, L.getD 4 pm_U :: st) M else none := (fr_eq S (d) (7, 0, L, st) M).trans (x_old _ _ 2 4 7 2 L st M)
theorem f7_2 (S : pm_S) (d : Nat) (L : List Value) (st : List Value) (M : pm_M) : fr S (d) (7, 2, L, st) M = fr S d (7, 3, L, .int 0 :: st) M := (fr_eq S (d) (7, 2, L, st) M).trans (x_ocs _ _ (.int 0) 7 3 L st M)
theorem f7_3 (S : pm_S) (d : Nat) (L : List Value) (st : List Value) (M : pm_M) : fr S (d) (7, 3, L, st) M = if pm_ty (L.getD 0 pm_U) = 2 then fr S d (7, 4, L, L.getD 0 pm_U :: st) M else none := (fr_eq S (d) (7, 3, L, st) M).trans (x_old _ _ 2 0 7 4 L st M)
theorem f7_4 (S : pm_S) (d : Nat) (L : List Value) (st : List Value) (M : pm_M) : fr S (d) (7, 4, L, st) M = if pm_ty (L.getD 1 pm_U) = 0 then fr S d (7, 5, L, L.getD 1 pm_U :: st) M else none := (fr_eq S (d) (7, 4, L, st) M).trans (x_old _ _ 0 1 7 5 L st M)
theorem f7_5 (S : pm_S) (d : Nat) (L : List Value) (st : List Value) (M : pm_M) : fr S (d) (7, 5, L, st) M = if pm_ty (L.getD 2 pm_U) = 0 then fr S d (7, 6, L, L.getD 2 pm_U :: st) M else none := (fr_eq S (d) (7, 5, L, st) M).trans (x_old _ _ 0 2 7 6 L st M)
theorem f7_6 (S : pm_S) (d : Nat) (L : List Value) (st : List Value) (M : pm_M) : fr S (d) (7, 6, L, st) M = if pm_ty (L.getD 3 pm_U) = 0 then fr S d (7, 7, L, L.getD 3 pm_U :: st) M else none := (fr_eq S (d) (7, 6, L, st) M).trans (x_old _ _ 0 3 7 7 L st M)
theorem f7_7 (S : pm_S) (d : Nat) (L : List Value) (st : List Value) (M : pm_M) : fr S (d + 1) (7, 7, L, st) M = match pm_ag 4 [] st with
  | some (a, r) => if r.length ≤ 4 ∧ (1 = 0 ∨ pm_obj M 0 (a.headD pm_U) = true) ∧ ([("java/lang/IndexOutOfBoundsException", (17, 5))] : List (String × Nat × Nat)).all (fun q => decide (q.2.2 < L.length) && !(pm_ty (L.getD (q.2.2 - 1) pm_U) == 1)) = true then (match fr S d (21, 0, a ++ [pm_U], []) M with
    | none => none
    | some (.inl v, M') => fr S (d + 1) (7, 10, L, v.toList ++ r) M'
    | some (.inr E, M') => (match ([("java/lang/IndexOutOfBoundsException", (17, 5))] : List (String × Nat × Nat)).lookup E with
      | some q => fr S (d + 1) (7, q.1, L.set q.2 pm_U, []) M'
      | none => none)) else none
  | none => none := (fr_eq S (d + 1) (7, 7, L, st) M).trans (x_och _ _ 1 21 4 0 [pm_U] _ _ 7 10 L st M)
theorem f7_10 (S : pm_S) (d : Nat) (L : List Value) (x : Int32) (r : List Value) (M : pm_M) : fr S (d) (7, 10, L, .int x :: r) M = fr S d (7, 11, L, .long x.toInt64 :: r) M := (fr_eq S (d) (7, 10, L, .int x :: r) M).trans (x_oi1 _ _ (fun x => .long x.toInt64) 7 11 L r x M)
theorem f7_11 (S : pm_S) (d : Nat) (L : List Value) (v : Value) (i : Int32) (q : Nat) (r : List Value) (M : pm_M) : fr S (d) (7, 11, L, v :: .int i :: .ref q :: r) M = if pm_sq M 9 v = true then (match (pm_get M q).bind (fun c => pm_ev 1 2 c i v) with
  | some c => fr S d (7, 12, L, r) (pm_set M q c)
  | none => none) else none := (fr_eq S (d) (7, 11, L, v :: .int i :: .ref q :: r) M).trans (x_oas _ _ 1 2 9 7 12 L r v i q M)
theorem f7_12 (S : pm_S) (d : Nat) (L : List Value) (st : List Value) (M : pm_M) : fr S (d) (7, 12, L, st) M = fr S d (7, 19, L, st) M := (fr_eq S (d) (7, 12, L, st) M).trans (x_ogo _ _ 7 19 L st M)
theorem f7_15 (S : pm_S) (d : Nat) (L : List Value) (v : Value) (r : List Value) (M : pm_M) : fr S (d) (7, 15, L, v :: r) M = if pm_ty v = 2 ∧ 5 < L.length ∧ ¬ pm_ty (L.getD (5 - 1) pm_U) = 1 then fr S d (7, 17, L.set 5 v, r) M else none := (fr_eq S (d) (7, 15, L, v :: r) M).trans (x_ost _ _ 2 5 7 17 L r v M)
theorem f7_17 (S : pm_S) (d : Nat) (L : List Value) (st : List Value) (M : pm_M) : fr S (d) (7, 17, L, st) M = fr S d (7, 18, L, .int 1 :: st) M := (fr_eq S (d) (7, 17, L, st) M).trans (x_ocs _ _ (.int 1) 7 18 L st M)
theorem f7_18 (S : pm_S) (d : Nat) (L : List Value) (v : Value) (M : pm_M) : fr S (d) (7, 18, L, [v]) M = if pm_fit 0 v = true then some (.inl (some v), M) else none := (fr_eq S (d) (7, 18, L, [v]) M).trans (x_ort _ _ 0 v M)
theorem f7_19 (S : pm_S) (d : Nat) (L : List Value) (st : List Value) (M : pm_M) : fr S (d) (7, 19, L, st) M = fr S d (7, 20, L, .int 0 :: st) M := (fr_eq S (d) (7, 19, L, st) M).trans (x_ocs _ _ (.int 0) 7 20 L st M)
theorem f7_20 (S : pm_S) (d : Nat) (L : List Value) (v : Value) (M : pm_M) : fr S (d) (7, 20, L, [v]) M = if pm_fit 0 v = true then some (.inl (some v), M) else none := (fr_eq S (d) (7, 20, L, [v]) M).trans (x_ort _ _ 0 v M)
theorem f8_0 (S : pm_S) (d : Nat) (L : List Value) (st : List Value) (M : pm_M) : fr S (d) (8, 0, L, st) M = if pm_ty (L.getD 3 pm_U) = 2 then fr S d (8, 1, L, L.getD 3 pm_U :: st) M else none := (fr_eq S (d) (8, 0, L, st) M).trans (x_old _ _ 2 3 8 1 L st M)
theorem f8_1 (S : pm_S) (d : Nat) (L : List Value) (st : List Value) (M : pm_M) : fr S (d) (8, 1, L, st) M = fr S d (8, 2, L, .int 0 :: st) M := (fr_eq S (d) (8, 1, L, st) M).trans (x_ocs _ _ (.int 0) 8 2 L st M)
theorem f8_2 (S : pm_S) (d : Nat) (L : List Value) (st : List Value) (M : pm_M) : fr S (d) (8, 2, L, st) M = if pm_ty (L.getD 0 pm_U) = 2 then fr S d (8, 3, L, L.getD 0 pm_U :: st) M else none := (fr_eq S (d) (8, 2, L, st) M).trans (x_old _ _ 2 0 8 3 L st M)
theorem f8_3 (S : pm_S) (d : Nat) (L : List Value) (st : List Value) (M : pm_M) : fr S (d) (8, 3, L, st) M = if pm_ty (L.getD 1 pm_U) = 0 then fr S d (8, 4, L, L.getD 1 pm_U :: st) M else none := (fr_eq S (d) (8, 3, L, st) M).trans (x_old _ _ 0 1 8 4 L st M)
theorem f8_4 (S : pm_S) (d : Nat) (L : List Value) (st : List Value) (M : pm_M) : fr S (d) (8, 4, L, st) M = if pm_ty (L.getD 2 pm_U) = 0 then fr S d (8, 5, L, L.getD 2 pm_U :: st) M else none := (fr_eq S (d) (8, 4, L, st) M).trans (x_old _ _ 0 2 8 5 L st M)
theorem f8_5 (S : pm_S) (d : Nat) (L : List Value) (st : List Value) (M : pm_M) : fr S (d + 1) (8, 5, L, st) M = match pm_ag 3 [] st with
  | some (a, r) => if r.length ≤ 4 ∧ (1 = 0 ∨ pm_obj M 0 (a.headD pm_U) = true) ∧ ([("java/lang/IndexOutOfBoundsException", (15, 4))] : List (String × Nat × Nat)).all (fun q => decide (q.2.2 < L.length) && !(pm_ty (L.getD (q.2.2 - 1) pm_U) == 1)) = true then (match fr S d (22, 0, a ++ [pm_U], []) M with
    | none => none
    | some (.inl v, M') => fr S (d + 1) (8, 8, L, v.toList ++ r) M'
    | some (.inr E, M') => (match ([("java/lang/IndexOutOfBoundsException", (15, 4))] : List (String × Nat × Nat)).lookup E with
      | some q => fr S (d + 1) (8, q.1, L.set q.2 pm_U, []) M'
      | none => none)) else none
  | none => none := (fr_eq S (d + 1) (8, 5, L, st) M).trans (x_och _ _ 1 22 3 0 [pm_U] _ _ 8 8 L st M)
theorem f8_8 (S : pm_S) (d : Nat) (L : List Value) (x : Int32) (r : List Value) (M : pm_M) : fr S (d) (8, 8, L, .int x :: r) M = fr S d (8, 9, L, .long x.toInt64 :: r) M := (fr_eq S (d) (8, 8, L, .int x :: r) M).trans (x_oi1 _ _ (fun x => .long x.toInt64) 8 9 L r x M)
theorem f8_9 (S : pm_S) (d : Nat) (L : List Value) (v : Value) (i : Int32) (q : Nat) (r : List Value) (M : pm_M) : fr S (d) (8, 9, L, v :: .int i :: .ref q :: r) M = if pm_sq M 9 v = true then (match (pm_get M q).bind (fun c => pm_ev 1 2 c i v) with
  | some c => fr S d (8, 10, L, r) (pm_set M q c)
  | none => none) else none := (fr_eq S (d) (8, 9, L, v :: .int i :: .ref q :: r) M).trans (x_oas _ _ 1 2 9 8 10 L r v i q M)
theorem f8_10 (S : pm_S) (d : Nat) (L : List Value) (st : List Value) (M : pm_M) : fr S (d) (8, 10, L, st) M = fr S d (8, 17, L, st) M := (fr_eq S (d) (8, 10, L, st) M).trans (x_ogo _ _ 8 17 L st M)
theorem f8_13 (S : pm_S) (d : Nat) (L : List Value) (v : Value) (r : List Value) (M : pm_M) : fr S (d) (8, 13, L, v :: r) M = if pm_ty v = 2 ∧ 4 < L.length ∧ ¬ pm_ty (L.getD (4 - 1) pm_U) = 1 then fr S d (8, 15, L.set 4 v, r) M else none := (fr_eq S (d) (8, 13, L, v :: r) M).trans (x_ost _ _ 2 4 8 15 L r v M)
theorem f8_15 (S : pm_S) (d : Nat) (L : List Value) (st : List Value) (M : pm_M) : fr S (d) (8, 15, L, st) M = fr S d (8, 16, L, .int 1 :: st) M := (fr_eq S (d) (8, 15, L, st) M).trans (x_ocs _ _ (.int 1) 8 16 L st M)
theorem f8_16 (S : pm_S) (d : Nat) (L : List Value) (v : Value) (M : pm_M) : fr S (d) (8, 16, L, [v]) M = if pm_fit 0 v = true then some (.inl (some v), M) else none := (fr_eq S (d) (8, 16, L, [v]) M).trans (x_ort _ _ 0 v M)
theorem f8_17 (S : pm_S) (d : Nat) (L : List Value) (st : List Value) (M : pm_M) : fr S (d) (8, 17, L, st) M = fr S d (8, 18, L, .int 0 :: st) M := (fr_eq S (d) (8, 17, L, st) M).trans (x_ocs _ _ (.int 0) 8 18 L st M)
theorem f8_18 (S : pm_S) (d : Nat) (L : List Value) (v : Value) (M : pm_M) : fr S (d) (8, 18, L, [v]) M = if pm_fit 0 v = true then some (.inl (some v), M) else none := (fr_eq S (d) (8, 18, L, [v]) M).trans (x_ort _ _ 0 v M)
set_option maxRecDepth 20000 in
theorem f9_0 (S : pm_S) (d : Nat) (L : List Value) (st : List Value) (M : pm_M) : fr S (d) (9, 0, L, st) M = fr S d (9, 3, L, .ref (pm_at M false) :: st) (pm_new M false (.inr (0, [.int 0, .int 0, .int 0, .null, .int 0, .null, .null, .null, .null, .int 0, .null, .null])) 12) := (fr_eq S (d) (9, 0, L, st) M).trans (x_one _ _ 0 [.int 0, .int 0, .int 0, .null, .int 0, .null, .null, .null, .null, .int 0, .null, .null] false 9 3 L st M)
set_option maxRecDepth 20000 in
theorem f9_3 (S : pm_S) (d : Nat) (L : List Value) (v : Value) (r : List Value) (M : pm_M) : fr S (d) (9, 3, L, v :: r) M = if ¬ pm_ty v = 1 ∧ ¬ pm_ty v = 9 then fr S d (9, 4, L, v :: v :: r) M else none := (fr_eq S (d) (9, 3, L, v :: r) M).trans (x_odup _ _ 9 4 L r v M)
set_option maxRecDepth 20000 in
theorem f9_4 (S : pm_S) (d : Nat) (L : List Value) (st : List Value) (M : pm_M) : fr S (d) (9, 4, L, st) M = if pm_ty (L.getD 0 pm_U) = 2 then fr S d (9, 5, L, L.getD 0 pm_U :: st) M else none := (fr_eq S (d) (9, 4, L, st) M).trans (x_old _ _ 2 0 9 5 L st M)
set_option maxRecDepth 20000 in
theorem f9_5 (S : pm_S) (d : Nat) (L : List Value) (st : List Value) (M : pm_M) : fr S (d) (9, 5, L, st) M = fr S d (9, 6, L, .int 0 :: st) M := (fr_eq S (d) (9, 5, L, st) M).trans (x_ocs _ _ (.int 0) 9 6 L st M)
set_option maxRecDepth 20000 in
theorem f9_6 (S : pm_S) (d : Nat) (L : List Value) (st : List Value) (M : pm_M) : fr S (d + 1) (9, 6, L, st) M = match pm_ag 2 [] st with
  | some (a, r) => if r.length ≤ 4 ∧ (0 = 0 ∨ pm_obj M 4 (a.headD pm_U) = true) then (match fr S d (0, 0, a ++ [], []) M with
    | none => none
    | some (.inl v, M') => fr S (d + 1) (9, 9, L, v.toList ++ r) M'
    | some (.inr E, M') => some (.inr E, M')) else none
  | none => none := (fr_eq S (d + 1) (9, 6, L, st) M).trans (x_ocl _ _ 0 0 2 4 [] 9 9 L st M)
set_option maxRecDepth 20000 in
theorem f9_9 (S : pm_S) (d : Nat) (L : List Value) (st : List Value) (M : pm_M) : fr S (d) (9, 9, L, st) M = if pm_ty (L.getD 0 pm_U) = 2 then fr S d (9, 10, L, L.getD 0 pm_U :: st) M else none := (fr_eq S (d) (9, 9, L, st) M).trans (x_old _ _ 2 0 9 10 L st M)
set_option maxRecDepth 20000 in
theorem f9_10 (S : pm_S) (d : Nat) (L : List Value) (st : List Value) (M : pm_M) : fr S (d) (9, 10, L, st) M = fr S d (9, 11, L, .int 1 :: st) M := (fr_eq S (d) (9, 10, L, st) M).trans (x_ocs _ _ (.int 1) 9 11 L st M)
set_option maxRecDepth 20000 in
theorem f9_11 (S : pm_S) (d : Nat) (L : List Value) (st : List Value) (M : pm_M) : fr S (d + 1) (9, 11, L, st) M = match pm_ag 2 [] st with
  | some (a, r) => if r.length ≤ 4 ∧ (0 = 0 ∨ pm_obj M 4 (a.headD pm_U) = true) then (match fr S d (0, 0, a ++ [], []) M with
    | none => none
    | some (.inl v, M') => fr S (d + 1) (9, 14, L, v.toList ++ r) M'
    | some (.inr E, M') => some (.inr E, M')) else none
  | none => none := (fr_eq S (d + 1) (9, 11, L, st) M).trans (x_ocl _ _ 0 0 2 4 [] 9 14 L st M)
set_option maxRecDepth 20000 in
theorem f9_14 (S : pm_S) (d : Nat) (L : List Value) (st : List Value) (M : pm_M) : fr S (d) (9, 14, L, st) M = if pm_ty (L.getD 0 pm_U) = 2 then fr S d (9, 15, L, L.getD 0 pm_U :: st) M else none := (fr_eq S (d) (9, 14, L, st) M).trans (x_old _ _ 2 0 9 15 L st M)
set_option maxRecDepth 20000 in
theorem f9_15 (S : pm_S) (d : Nat) (L : List Value) (st : List Value) (M : pm_M) : fr S (d) (9, 15, L, st) M = fr S d (9, 16, L, .int 2 :: st) M := (fr_eq S (d) (9, 15, L, st) M).trans (x_ocs _ _ (.int 2) 9 16 L st M)
set_option maxRecDepth 20000 in
theorem f9_16 (S : pm_S) (d : Nat) (L : List Value) (st : List Value) (M : pm_M) : fr S (d + 1) (9, 16, L, st) M = match pm_ag 2 [] st with
  | some (a, r) => if r.length ≤ 4 ∧ (0 = 0 ∨ pm_obj M 4 (a.headD pm_U) = true) then (match fr S d (0, 0, a ++ [], []) M with
    | none => none
    | some (.inl v, M') => fr S (d + 1) (9, 19, L, v.toList ++ r) M'
    | some (.inr E, M') => some (.inr E, M')) else none
  | none => none := (fr_eq S (d + 1) (9, 16, L, st) M).trans (x_ocl _ _ 0 0 2 4 [] 9 19 L st M)
set_option maxRecDepth 20000 in
theorem f9_19 (S : pm_S) (d : Nat) (L : List Value) (st : List Value) (M : pm_M) : fr S (d + 1) (9, 19, L, st) M = match pm_ag 4 [] st with
  | some (a, r) => if r.length ≤ 4 ∧ (2 = 0 ∨ pm_obj M 0 (a.headD pm_U) = true) then (match fr S d (10, 0, a ++ [pm_U, pm_U], []) M with
    | none => none
    | some (.inl v, M') => fr S (d + 1) (9, 22, L, v.toList ++ r) M'
    | some (.inr E, M') => some (.inr E, M')) else none
  | none => none := (fr_eq S (d + 1) (9, 19, L, st) M).trans (x_ocl _ _ 2 10 4 0 [pm_U, pm_U] 9 22 L st M)
set_option maxRecDepth 20000 in
theorem f9_22 (S : pm_S) (d : Nat) (L : List Value) (v : Value) (r : List Value) (M : pm_M) : fr S (d) (9, 22, L, v :: r) M = if pm_ty v = 2 ∧ 1 < L.length ∧ ¬ pm_ty (L.getD (1 - 1) pm_U) = 1 then fr S d (9, 23, L.set 1 v, r) M else none := (fr_eq S (d) (9, 22, L, v :: r) M).trans (x_ost _ _ 2 1 9 23 L r v M)
set_option maxRecDepth 20000 in
theorem f9_23 (S : pm_S) (d : Nat) (L : List Value) (st : List Value) (M : pm_M) : fr S (d) (9, 23, L, st) M = fr S d (9, 26, L, .ref (pm_at M true) :: st) (pm_new M true (.inr (3, [.int 0, .int 0, .int 0, .int 0, .int 0, .null, .null, .null, .null, .null, .null, .null, .null, .null, .null, .int 0, .null])) 17) := (fr_eq S (d) (9, 23, L, st) M).trans (x_one _ _ 3 [.int 0, .int 0, .int 0, .int 0, .int 0, .null, .null, .null, .null, .null, .null, .null, .null, .null, .null, .int 0, .null] true 9 26 L st M)
set_option maxRecDepth 20000 in
theorem f9_26 (S : pm_S) (d : Nat) (L : List Value) (v : Value) (r : List Value) (M : pm_M) : fr S (d) (9, 26, L, v :: r) M = if ¬ pm_ty v = 1 ∧ ¬ pm_ty v = 9 then fr S d (9, 27, L, v :: v :: r) M else none := (fr_eq S (d) (9, 26, L, v :: r) M).trans (x_odup _ _ 9 27 L r v M)
set_option maxRecDepth 20000 in
theorem f9_27 (S : pm_S) (d : Nat) (L : List Value) (st : List Value) (M : pm_M) : fr S (d) (9, 27, L, st) M = if pm_ty (L.getD 0 pm_U) = 2 then fr S d (9, 28, L, L.getD 0 pm_U :: st) M else none := (fr_eq S (d) (9, 27, L, st) M).trans (x_old _ _ 2 0 9 28 L st M)
set_option maxRecDepth 20000 in
theorem f9_28 (S : pm_S) (d : Nat) (L : List Value) (st : List Value) (M : pm_M) : fr S (d) (9, 28, L, st) M = fr S d (9, 29, L, .int 0 :: st) M := (fr_eq S (d) (9, 28, L, st) M).trans (x_ocs _ _ (.int 0) 9 29 L st M)
set_option maxRecDepth 20000 in
theorem f9_29 (S : pm_S) (d : Nat) (L : List Value) (st : List Value) (M : pm_M) : fr S (d + 1) (9, 29, L, st) M = match pm_ag 2 [] st with
  | some (a, r) => if r.length ≤ 4 ∧ (0 = 0 ∨ pm_obj M 4 (a.headD pm_U) = true) then (match fr S d (0, 0, a ++ [], []) M with
    | none => none
    | some (.inl v, M') => fr S (d + 1) (9, 32, L, v.toList ++ r) M'
    | some (.inr E, M') => some (.inr E, M')) else none
  | none => none := (fr_eq S (d + 1) (9, 29, L, st) M).trans (x_ocl _ _ 0 0 2 4 [] 9 32 L st M)
set_option maxRecDepth 20000 in
theorem f9_32 (S : pm_S) (d : Nat) (L : List Value) (st : List Value) (M : pm_M) : fr S (d) (9, 32, L, st) M = if pm_ty (L.getD 0 pm_U) = 2 then fr S d (9, 33, L, L.getD 0 pm_U :: st) M else none := (fr_eq S (d) (9, 32, L, st) M).trans (x_old _ _ 2 0 9 33 L st M)
set_option maxRecDepth 20000 in
theorem f9_33 (S : pm_S) (d : Nat) (L : List Value) (st : List Value) (M : pm_M) : fr S (d) (9, 33, L, st) M = fr S d (9, 34, L, .int 1 :: st) M := (fr_eq S (d) (9, 33, L, st) M).trans (x_ocs _ _ (.int 1) 9 34 L st M)
set_option maxRecDepth 20000 in
theorem f9_34 (S : pm_S) (d : Nat) (L : List Value) (st : List Value) (M : pm_M) : fr S (d + 1) (9, 34, L, st) M = match pm_ag 2 [] st with
  | some (a, r) => if r.length ≤ 4 ∧ (0 = 0 ∨ pm_obj M 4 (a.headD pm_U) = true) then (match fr S d (0, 0, a ++ [], []) M with
    | none => none
    | some (.inl v, M') => fr S (d + 1) (9, 37, L, v.toList ++ r) M'
    | some (.inr E, M') => some (.inr E, M')) else none
  | none => none := (fr_eq S (d + 1) (9, 34, L, st) M).trans (x_ocl _ _ 0 0 2 4 [] 9 37 L st M)
set_option maxRecDepth 20000 in
theorem f9_37 (S : pm_S) (d : Nat) (L : List Value) (st : List Value) (M : pm_M) : fr S (d) (9, 37, L, st) M = if pm_ty (L.getD 0 pm_U) = 2 then fr S d (9, 38, L, L.getD 0 pm_U :: st) M else none := (fr_eq S (d) (9, 37, L, st) M).trans (x_old _ _ 2 0 9 38 L st M)
set_option maxRecDepth 20000 in
theorem f9_38 (S : pm_S) (d : Nat) (L : List Value) (st : List Value) (M : pm_M) : fr S (d) (9, 38, L, st) M = fr S d (9, 39, L, .int 2 :: st) M := (fr_eq S (d) (9, 38, L, st) M).trans (x_ocs _ _ (.int 2) 9 39 L st M)
set_option maxRecDepth 20000 in
theorem f9_39 (S : pm_S) (d : Nat) (L : List Value) (st : List Value) (M : pm_M) : fr S (d + 1) (9, 39, L, st) M = match pm_ag 2 [] st with
  | some (a, r) => if r.length ≤ 4 ∧ (0 = 0 ∨ pm_obj M 4 (a.headD pm_U) = true) then (match fr S d (0, 0, a ++ [], []) M with
    | none => none
    | some (.inl v, M') => fr S (d + 1) (9, 42, L, v.toList ++ r) M'
    | some (.inr E, M') => some (.inr E, M')) else none
  | none => none := (fr_eq S (d + 1) (9, 39, L, st) M).trans (x_ocl _ _ 0 0 2 4 [] 9 42 L st M)
set_option maxRecDepth 20000 in
theorem f9_42 (S : pm_S) (d : Nat) (L : List Value) (st : List Value) (M : pm_M) : fr S (d + 1) (9, 42, L, st) M = match pm_ag 4 [] st with
  | some (a, r) => if r.length ≤ 4 ∧ (2 = 0 ∨ pm_obj M 3 (a.headD pm_U) = true) then (match fr S d (100, 0, a ++ [pm_U], []) M with
    | none => none
    | some (.inl v, M') => fr S (d + 1) (9, 45, L, v.toList ++ r) M'
    | some (.inr E, M') => some (.inr E, M')) else none
  | none => none := (fr_eq S (d + 1) (9, 42, L, st) M).trans (x_ocl _ _ 2 100 4 3 [pm_U] 9 45 L st M)
set_option maxRecDepth 20000 in
theorem f9_45 (S : pm_S) (d : Nat) (L : List Value) (v : Value) (r : List Value) (M : pm_M) : fr S (d) (9, 45, L, v :: r) M = if pm_ty v = 2 ∧ 2 < L.length ∧ ¬ pm_ty (L.getD (2 - 1) pm_U) = 1 then fr S d (9, 46, L.set 2 v, r) M else none := (fr_eq S (d) (9, 45, L, v :: r) M).trans (x_ost _ _ 2 2 9 46 L r v M)
set_option maxRecDepth 20000 in
theorem f9_46 (S : pm_S) (d : Nat) (L : List Value) (st : List Value) (M : pm_M) : fr S (d) (9, 46, L, st) M = fr S d (9, 47, L, .int 1 :: st) M := (fr_eq S (d) (9, 46, L, st) M).trans (x_ocs _ _ (.int 1) 9 47 L st M)
set_option maxRecDepth 20000 in
theorem f9_47 (S : pm_S) (d : Nat) (L : List Value) (n : Int32) (r : List Value) (M : pm_M) : fr S (d) (9, 47, L, .int n :: r) M = if ¬ n < 0 ∧ n.toNatClampNeg ≤ 60000 then fr S d (9, 49, L, .ref (pm_at M false) :: r) (pm_new M false (.inl (2, (n.toNatClampNeg, pm_z 1))) n.toNatClampNeg) else none := (fr_eq S (d) (9, 47, L, .int n :: r) M).trans (x_ona _ _ 1 2 false 9 49 L r n M)
set_option maxRecDepth 20000 in
theorem f9_49 (S : pm_S) (d : Nat) (L : List Value) (v : Value) (r : List Value) (M : pm_M) : fr S (d) (9, 49, L, v :: r) M = if pm_ty v = 2 ∧ 3 < L.length ∧ ¬ pm_ty (L.getD (3 - 1) pm_U) = 1 then fr S d (9, 50, L.set 3 v, r) M else none := (fr_eq S (d) (9, 49, L, v :: r) M).trans (x_ost _ _ 2 3 9 50 L r v M)
set_option maxRecDepth 20000 in
theorem f9_50 (S : pm_S) (d : Nat) (L : List Value) (st : List Value) (M : pm_M) : fr S (d) (9, 50, L, st) M = fr S d (9, 51, L, .int 3 :: st) M := (fr_eq S (d) (9, 50, L, st) M).trans (x_ocs _ _ (.int 3) 9 51 L st M)
set_option maxRecDepth 20000 in
theorem f9_51 (S : pm_S) (d : Nat) (L : List Value) (v : Value) (r : List Value) (M : pm_M) : fr S (d) (9, 51, L, v :: r) M = if pm_ty v = 0 ∧ 4 < L.length ∧ ¬ pm_ty (L.getD (4 - 1) pm_U) = 1 then fr S d (9, 53, L.set 4 v, r) M else none := (fr_eq S (d) (9, 51, L, v :: r) M).trans (x_ost _ _ 0 4 9 53 L r v M)
set_option maxRecDepth 20000 in
theorem f9_53 (S : pm_S) (d : Nat) (L : List Value) (st : List Value) (M : pm_M) : fr S (d) (9, 53, L, st) M = if pm_ty (L.getD 4 pm_U) = 0 then fr S d (9, 55, L, L.getD 4 pm_U :: st) M else none := (fr_eq S (d) (9, 53, L, st) M).trans (x_old _ _ 0 4 9 55 L st M)
set_option maxRecDepth 20000 in
theorem f9_55 (S : pm_S) (d : Nat) (L : List Value) (st : List Value) (M : pm_M) : fr S (d) (9, 55, L, st) M = if pm_ty (L.getD 0 pm_U) = 2 then fr S d (9, 56, L, L.getD 0 pm_U :: st) M else none := (fr_eq S (d) (9, 55, L, st) M).trans (x_old _ _ 2 0 9 56 L st M)
set_option maxRecDepth 20000 in
theorem f9_56 (S : pm_S) (d : Nat) (L : List Value) (q : Nat) (hq : ¬ q = 1) (r : List Value) (M : pm_M) : fr S (d) (9, 56, L, .ref q :: r) M = match pm_get M q with
  | some (.inl (_, (n, _))) => fr S d (9, 57, L, .int (Int32.ofNat n) :: r) M
  | _ => none := (fr_eq S (d) (9, 56, L, .ref q :: r) M).trans (x_oln _ _ S 9 57 L r q hq M)
set_option maxRecDepth 20000 in
theorem f9_57 (S : pm_S) (d : Nat) (L : List Value) (st : List Value) (M : pm_M) : fr S (d) (9, 57, L, st) M = fr S d (9, 58, L, .int 5 :: st) M := (fr_eq S (d) (9, 57, L, st) M).trans (x_ocs _ _ (.int 5) 9 58 L st M)
set_option maxRecDepth 20000 in
theorem f9_58 (S : pm_S) (d : Nat) (L : List Value) (x y : Int32) (r : List Value) (M : pm_M) : fr S (d) (9, 58, L, .int y :: .int x :: r) M = fr S d (9, 59, L, .int (x - y) :: r) M := (fr_eq S (d) (9, 58, L, .int y :: .int x :: r) M).trans (x_oii _ _ (fun x y => x - y) 9 59 L r x y M)
set_option maxRecDepth 20000 in
theorem f9_59 (S : pm_S) (d : Nat) (L : List Value) (x y : Int32) (r : List Value) (M : pm_M) : fr S (d) (9, 59, L, .int y :: .int x :: r) M = if y < x then fr S d (9, 941, L, r) M else fr S d (9, 62, L, r) M := (fr_eq S (d) (9, 59, L, .int y :: .int x :: r) M).trans (x_oc2gt _ _ 9 62 941 L r x y M)
set_option maxRecDepth 20000 in
theorem f9_62 (S : pm_S) (d : Nat) (L : List Value) (st : List Value) (M : pm_M) : fr S (d) (9, 62, L, st) M = if pm_ty (L.getD 0 pm_U) = 2 then fr S d (9, 63, L, L.getD 0 pm_U :: st) M else none := (fr_eq S (d) (9, 62, L, st) M).trans (x_old _ _ 2 0 9 63 L st M)
set_option maxRecDepth 20000 in
theorem f9_63 (S : pm_S) (d : Nat) (L : List Value) (st : List Value) (M : pm_M) : fr S (d) (9, 63, L, st) M = if pm_ty (L.getD 4 pm_U) = 0 then fr S d (9, 65, L, L.getD 4 pm_U :: st) M else none := (fr_eq S (d) (9, 63, L, st) M).trans (x_old _ _ 0 4 9 65 L st M)
set_option maxRecDepth 20000 in
theorem f9_65 (S : pm_S) (d : Nat) (L : List Value) (i : Int32) (q : Nat) (hq : ¬ q = 1) (r : List Value) (M : pm_M) : fr S (d) (9, 65, L, .int i :: .ref q :: r) M = match (pm_get M q).bind (fun c => pm_el 0 c i) with
  | some v => fr S d (9, 66, L, v :: r) M
  | none => none := (fr_eq S (d) (9, 65, L, .int i :: .ref q :: r) M).trans (x_oal _ _ S 0 9 66 L r i q hq M)
set_option maxRecDepth 20000 in
theorem f9_66 (S : pm_S) (d : Nat) (L : List Value) (st : List Value) (M : pm_M) : fr S (d) (9, 66, L, st) M = fr S d (9, 68, L, .int 15 :: st) M := (fr_eq S (d) (9, 66, L, st) M).trans (x_ocs _ _ (.int 15) 9 68 L st M)
set_option maxRecDepth 20000 in
theorem f9_68 (S : pm_S) (d : Nat) (L : List Value) (x y : Int32) (r : List Value) (M : pm_M) : fr S (d) (9, 68, L, .int y :: .int x :: r) M = fr S d (9, 69, L, .int (x &&& y) :: r) M := (fr_eq S (d) (9, 68, L, .int y :: .int x :: r) M).trans (x_oii _ _ (fun x y => x &&& y) 9 69 L r x y M)
set_option maxRecDepth 20000 in
theorem f9_69 (S : pm_S) (d : Nat) (L : List Value) (x : Int32) (r : List Value) (M : pm_M) : fr S (d) (9, 69, L, .int x :: r) M = if x.toInt < 0 ∨ 0 + (([136, 228, 327, 352, 389, 504, 569, 582, 650, 706, 762, 842, 910] : List Nat).length : Int) ≤ x.toInt then fr S d (9, 935, L, r) M else fr S d (9, ([136, 228, 327, 352, 389, 504, 569, 582, 650, 706, 762, 842, 910] : List Nat).getD (x.toInt - 0).toNat 935, L, r) M := (fr_eq S (d) (9, 69, L, .int x :: r) M).trans (x_ots _ _ 935 0 [136, 228, 327, 352, 389, 504, 569, 582, 650, 706, 762, 842, 910] 9 L r x M)
set_option maxRecDepth 20000 in
theorem f9_136 (S : pm_S) (d : Nat) (L : List Value) (st : List Value) (M : pm_M) : fr S (d) (9, 136, L, st) M = if pm_ty (L.getD 1 pm_U) = 2 then fr S d (9, 137, L, L.getD 1 pm_U :: st) M else none := (fr_eq S (d) (9, 136, L, st) M).trans (x_old _ _ 2 1 9 137 L st M)
set_option maxRecDepth 20000 in
theorem f9_137 (S : pm_S) (d : Nat) (L : List Value) (st : List Value) (M : pm_M) : fr S (d) (9, 137, L, st) M = if pm_ty (L.getD 0 pm_U) = 2 then fr S d (9, 138, L, L.getD 0 pm_U :: st) M else none := (fr_eq S (d) (9, 137, L, st) M).trans (x_old _ _ 2 0 9 138 L st M)
set_option maxRecDepth 20000 in
theorem f9_138 (S : pm_S) (d : Nat) (L : List Value) (st : List Value) (M : pm_M) : fr S (d) (9, 138, L, st) M = if pm_ty (L.getD 4 pm_U) = 0 then fr S d (9, 140, L, L.getD 4 pm_U :: st) M else none := (fr_eq S (d) (9, 138, L, st) M).trans (x_old _ _ 0 4 9 140 L st M)
set_option maxRecDepth 20000 in
theorem f9_140 (S : pm_S) (d : Nat) (L : List Value) (st : List Value) (M : pm_M) : fr S (d) (9, 140, L, st) M = fr S d (9, 141, L, .int 1 :: st) M := (fr_eq S (d) (9, 140, L, st) M).trans (x_ocs _ _ (.int 1) 9 141 L st M)
set_option maxRecDepth 20000 in
theorem f9_141 (S : pm_S) (d : Nat) (L : List Value) (x y : Int32) (r : List Value) (M : pm_M) : fr S (d) (9, 141, L, .int y :: .int x :: r) M = fr S d (9, 142, L, .int (x + y) :: r) M := (fr_eq S (d) (9, 141, L, .int y :: .int x :: r) M).trans (x_oii _ _ (fun x y => x + y) 9 142 L r x y M)
set_option maxRecDepth 20000 in
theorem f9_142 (S : pm_S) (d : Nat) (L : List Value) (i : Int32) (q : Nat) (hq : ¬ q = 1) (r : List Value) (M : pm_M) : fr S (d) (9, 142, L, .int i :: .ref q :: r) M = match (pm_get M q).bind (fun c => pm_el 0 c i) with
  | some v => fr S d (9, 143, L, v :: r) M
  | none => none := (fr_eq S (d) (9, 142, L, .int i :: .ref q :: r) M).trans (x_oal _ _ S 0 9 143 L r i q hq M)
set_option maxRecDepth 20000 in
theorem f9_143 (S : pm_S) (d : Nat) (L : List Value) (st : List Value) (M : pm_M) : fr S (d) (9, 143, L, st) M = if pm_ty (L.getD 0 pm_U) = 2 then fr S d (9, 144, L, L.getD 0 pm_U :: st) M else none := (fr_eq S (d) (9, 143, L, st) M).trans (x_old _ _ 2 0 9 144 L st M)
set_option maxRecDepth 20000 in
theorem f9_144 (S : pm_S) (d : Nat) (L : List Value) (st : List Value) (M : pm_M) : fr S (d) (9, 144, L, st) M = if pm_ty (L.getD 4 pm_U) = 0 then fr S d (9, 146, L, L.getD 4 pm_U :: st) M else none := (fr_eq S (d) (9, 144, L, st) M).trans (x_old _ _ 0 4 9 146 L st M)
set_option maxRecDepth 20000 in
theorem f9_146 (S : pm_S) (d : Nat) (L : List Value) (st : List Value) (M : pm_M) : fr S (d) (9, 146, L, st) M = fr S d (9, 147, L, .int 2 :: st) M := (fr_eq S (d) (9, 146, L, st) M).trans (x_ocs _ _ (.int 2) 9 147 L st M)
set_option maxRecDepth 20000 in
theorem f9_147 (S : pm_S) (d : Nat) (L : List Value) (x y : Int32) (r : List Value) (M : pm_M) : fr S (d) (9, 147, L, .int y :: .int x :: r) M = fr S d (9, 148, L, .int (x + y) :: r) M := (fr_eq S (d) (9, 147, L, .int y :: .int x :: r) M).trans (x_oii _ _ (fun x y => x + y) 9 148 L r x y M)
set_option maxRecDepth 20000 in
theorem f9_148 (S : pm_S) (d : Nat) (L : List Value) (i : Int32) (q : Nat) (hq : ¬ q = 1) (r : List Value) (M : pm_M) : fr S (d) (9, 148, L, .int i :: .ref q :: r) M = match (pm_get M q).bind (fun c => pm_el 0 c i) with
  | some v => fr S d (9, 149, L, v :: r) M
  | none => none := (fr_eq S (d) (9, 148, L, .int i :: .ref q :: r) M).trans (x_oal _ _ S 0 9 149 L r i q hq M)
set_option maxRecDepth 20000 in
theorem f9_149 (S : pm_S) (d : Nat) (L : List Value) (st : List Value) (M : pm_M) : fr S (d) (9, 149, L, st) M = if pm_ty (L.getD 0 pm_U) = 2 then fr S d (9, 150, L, L.getD 0 pm_U :: st) M else none := (fr_eq S (d) (9, 149, L, st) M).trans (x_old _ _ 2 0 9 150 L st M)
set_option maxRecDepth 20000 in
theorem f9_150 (S : pm_S) (d : Nat) (L : List Value) (st : List Value) (M : pm_M) : fr S (d) (9, 150, L, st) M = if pm_ty (L.getD 4 pm_U) = 0 then fr S d (9, 152, L, L.getD 4 pm_U :: st) M else none := (fr_eq S (d) (9, 150, L, st) M).trans (x_old _ _ 0 4 9 152 L st M)
set_option maxRecDepth 20000 in
theorem f9_152 (S : pm_S) (d : Nat) (L : List Value) (st : List Value) (M : pm_M) : fr S (d) (9, 152, L, st) M = fr S d (9, 153, L, .int 3 :: st) M := (fr_eq S (d) (9, 152, L, st) M).trans (x_ocs _ _ (.int 3) 9 153 L st M)
set_option maxRecDepth 20000 in
theorem f9_153 (S : pm_S) (d : Nat) (L : List Value) (x y : Int32) (r : List Value) (M : pm_M) : fr S (d) (9, 153, L, .int y :: .int x :: r) M = fr S d (9, 154, L, .int (x + y) :: r) M := (fr_eq S (d) (9, 153, L, .int y :: .int x :: r) M).trans (x_oii _ _ (fun x y => x + y) 9 154 L r x y M)
set_option maxRecDepth 20000 in
theorem f9_154 (S : pm_S) (d : Nat) (L : List Value) (i : Int32) (q : Nat) (hq : ¬ q = 1) (r : List Value) (M : pm_M) : fr S (d) (9, 154, L, .int i :: .ref q :: r) M = match (pm_get M q).bind (fun c => pm_el 0 c i) with
  | some v => fr S d (9, 155, L, v :: r) M
  | none => none := (fr_eq S (d) (9, 154, L, .int i :: .ref q :: r) M).trans (x_oal _ _ S 0 9 155 L r i q hq M)
set_option maxRecDepth 20000 in
theorem f9_155 (S : pm_S) (d : Nat) (L : List Value) (st : List Value) (M : pm_M) : fr S (d) (9, 155, L, st) M = if pm_ty (L.getD 0 pm_U) = 2 then fr S d (9, 156, L, L.getD 0 pm_U :: st) M else none := (fr_eq S (d) (9, 155, L, st) M).trans (x_old _ _ 2 0 9 156 L st M)
set_option maxRecDepth 20000 in
theorem f9_156 (S : pm_S) (d : Nat) (L : List Value) (st : List Value) (M : pm_M) : fr S (d) (9, 156, L, st) M = if pm_ty (L.getD 4 pm_U) = 0 then fr S d (9, 158, L, L.getD 4 pm_U :: st) M else none := (fr_eq S (d) (9, 156, L, st) M).trans (x_old _ _ 0 4 9 158 L st M)
set_option maxRecDepth 20000 in
theorem f9_158 (S : pm_S) (d : Nat) (L : List Value) (st : List Value) (M : pm_M) : fr S (d) (9, 158, L, st) M = fr S d (9, 159, L, .int 4 :: st) M := (fr_eq S (d) (9, 158, L, st) M).trans (x_ocs _ _ (.int 4) 9 159 L st M)
set_option maxRecDepth 20000 in
theorem f9_159 (S : pm_S) (d : Nat) (L : List Value) (x y : Int32) (r : List Value) (M : pm_M) : fr S (d) (9, 159, L, .int y :: .int x :: r) M = fr S d (9, 160, L, .int (x + y) :: r) M := (fr_eq S (d) (9, 159, L, .int y :: .int x :: r) M).trans (x_oii _ _ (fun x y => x + y) 9 160 L r x y M)
set_option maxRecDepth 20000 in
theorem f9_160 (S : pm_S) (d : Nat) (L : List Value) (i : Int32) (q : Nat) (hq : ¬ q = 1) (r : List Value) (M : pm_M) : fr S (d) (9, 160, L, .int i :: .ref q :: r) M = match (pm_get M q).bind (fun c => pm_el 0 c i) with
  | some v => fr S d (9, 161, L, v :: r) M
  | none => none := (fr_eq S (d) (9, 160, L, .int i :: .ref q :: r) M).trans (x_oal _ _ S 0 9 161 L r i q hq M)
set_option maxRecDepth 20000 in
theorem f9_161 (S : pm_S) (d : Nat) (L : List Value) (st : List Value) (M : pm_M) : fr S (d) (9, 161, L, st) M = if pm_ty (L.getD 3 pm_U) = 2 then fr S d (9, 162, L, L.getD 3 pm_U :: st) M else none := (fr_eq S (d) (9, 161, L, st) M).trans (x_old _ _ 2 3 9 162 L st M)
set_option maxRecDepth 20000 in
theorem f9_162 (S : pm_S) (d : Nat) (L : List Value) (st : List Value) (M : pm_M) : fr S (d + 1) (9, 162, L, st) M = match pm_ag 6 [] st with
  | some (a, r) => if r.length ≤ 4 ∧ (0 = 0 ∨ pm_obj M 4 (a.headD pm_U) = true) then (match fr S d (1, 0, a ++ [pm_U], []) M with
    | none => none
    | some (.inl v, M') => fr S (d + 1) (9, 165, L, v.toList ++ r) M'
    | some (.inr E, M') => some (.inr E, M')) else none
  | none => none := (fr_eq S (d + 1) (9, 162, L, st) M).trans (x_ocl _ _ 0 1 6 4 [pm_U] 9 165 L st M)
set_option maxRecDepth 20000 in
theorem f9_165 (S : pm_S) (d : Nat) (L : List Value) (v : Value) (r : List Value) (M : pm_M) : fr S (d) (9, 165, L, v :: r) M = if pm_ty v = 0 ∧ 5 < L.length ∧ ¬ pm_ty (L.getD (5 - 1) pm_U) = 1 then fr S d (9, 167, L.set 5 v, r) M else none := (fr_eq S (d) (9, 165, L, v :: r) M).trans (x_ost _ _ 0 5 9 167 L r v M)
set_option maxRecDepth 20000 in
theorem f9_167 (S : pm_S) (d : Nat) (L : List Value) (st : List Value) (M : pm_M) : fr S (d) (9, 167, L, st) M = if pm_ty (L.getD 2 pm_U) = 2 then fr S d (9, 168, L, L.getD 2 pm_U :: st) M else none := (fr_eq S (d) (9, 167, L, st) M).trans (x_old _ _ 2 2 9 168 L st M)
set_option maxRecDepth 20000 in
theorem f9_168 (S : pm_S) (d : Nat) (L : List Value) (st : List Value) (M : pm_M) : fr S (d) (9, 168, L, st) M = if pm_ty (L.getD 0 pm_U) = 2 then fr S d (9, 169, L, L.getD 0 pm_U :: st) M else none := (fr_eq S (d) (9, 168, L, st) M).trans (x_old _ _ 2 0 9 169 L st M)
set_option maxRecDepth 20000 in
theorem f9_169 (S : pm_S) (d : Nat) (L : List Value) (st : List Value) (M : pm_M) : fr S (d) (9, 169, L, st) M = if pm_ty (L.getD 4 pm_U) = 0 then fr S d (9, 171, L, L.getD 4 pm_U :: st) M else none := (fr_eq S (d) (9, 169, L, st) M).trans (x_old _ _ 0 4 9 171 L st M)
set_option maxRecDepth 20000 in
theorem f9_171 (S : pm_S) (d : Nat) (L : List Value) (st : List Value) (M : pm_M) : fr S (d) (9, 171, L, st) M = fr S d (9, 172, L, .int 1 :: st) M := (fr_eq S (d) (9, 171, L, st) M).trans (x_ocs _ _ (.int 1) 9 172 L st M)
set_option maxRecDepth 20000 in
theorem f9_172 (S : pm_S) (d : Nat) (L : List Value) (x y : Int32) (r : List Value) (M : pm_M) : fr S (d) (9, 172, L, .int y :: .int x :: r) M = fr S d (9, 173, L, .int (x + y) :: r) M := (fr_eq S (d) (9, 172, L, .int y :: .int x :: r) M).trans (x_oii _ _ (fun x y => x + y) 9 173 L r x y M)
set_option maxRecDepth 20000 in
theorem f9_173 (S : pm_S) (d : Nat) (L : List Value) (i : Int32) (q : Nat) (hq : ¬ q = 1) (r : List Value) (M : pm_M) : fr S (d) (9, 173, L, .int i :: .ref q :: r) M = match (pm_get M q).bind (fun c => pm_el 0 c i) with
  | some v => fr S d (9, 174, L, v :: r) M
  | none => none := (fr_eq S (d) (9, 173, L, .int i :: .ref q :: r) M).trans (x_oal _ _ S 0 9 174 L r i q hq M)
set_option maxRecDepth 20000 in
theorem f9_174 (S : pm_S) (d : Nat) (L : List Value) (st : List Value) (M : pm_M) : fr S (d) (9, 174, L, st) M = if pm_ty (L.getD 0 pm_U) = 2 then fr S d (9, 175, L, L.getD 0 pm_U :: st) M else none := (fr_eq S (d) (9, 174, L, st) M).trans (x_old _ _ 2 0 9 175 L st M)
set_option maxRecDepth 20000 in
theorem f9_175 (S : pm_S) (d : Nat) (L : List Value) (st : List Value) (M : pm_M) : fr S (d) (9, 175, L, st) M = if pm_ty (L.getD 4 pm_U) = 0 then fr S d (9, 177, L, L.getD 4 pm_U :: st) M else none := (fr_eq S (d) (9, 175, L, st) M).trans (x_old _ _ 0 4 9 177 L st M)
set_option maxRecDepth 20000 in
theorem f9_177 (S : pm_S) (d : Nat) (L : List Value) (st : List Value) (M : pm_M) : fr S (d) (9, 177, L, st) M = fr S d (9, 178, L, .int 2 :: st) M := (fr_eq S (d) (9, 177, L, st) M).trans (x_ocs _ _ (.int 2) 9 178 L st M)
set_option maxRecDepth 20000 in
theorem f9_178 (S : pm_S) (d : Nat) (L : List Value) (x y : Int32) (r : List Value) (M : pm_M) : fr S (d) (9, 178, L, .int y :: .int x :: r) M = fr S d (9, 179, L, .int (x + y) :: r) M := (fr_eq S (d) (9, 178, L, .int y :: .int x :: r) M).trans (x_oii _ _ (fun x y => x + y) 9 179 L r x y M)
set_option maxRecDepth 20000 in
theorem f9_179 (S : pm_S) (d : Nat) (L : List Value) (i : Int32) (q : Nat) (hq : ¬ q = 1) (r : List Value) (M : pm_M) : fr S (d) (9, 179, L, .int i :: .ref q :: r) M = match (pm_get M q).bind (fun c => pm_el 0 c i) with
  | some v => fr S d (9, 180, L, v :: r) M
  | none => none := (fr_eq S (d) (9, 179, L, .int i :: .ref q :: r) M).trans (x_oal _ _ S 0 9 180 L r i q hq M)
set_option maxRecDepth 20000 in
theorem f9_180 (S : pm_S) (d : Nat) (L : List Value) (st : List Value) (M : pm_M) : fr S (d) (9, 180, L, st) M = if pm_ty (L.getD 0 pm_U) = 2 then fr S d (9, 181, L, L.getD 0 pm_U :: st) M else none := (fr_eq S (d) (9, 180, L, st) M).trans (x_old _ _ 2 0 9 181 L st M)
set_option maxRecDepth 20000 in
theorem f9_181 (S : pm_S) (d : Nat) (L : List Value) (st : List Value) (M : pm_M) : fr S (d) (9, 181, L, st) M = if pm_ty (L.getD 4 pm_U) = 0 then fr S d (9, 183, L, L.getD 4 pm_U :: st) M else none := (fr_eq S (d) (9, 181, L, st) M).trans (x_old _ _ 0 4 9 183 L st M)
set_option maxRecDepth 20000 in
theorem f9_183 (S : pm_S) (d : Nat) (L : List Value) (st : List Value) (M : pm_M) : fr S (d) (9, 183, L, st) M = fr S d (9, 184, L, .int 3 :: st) M := (fr_eq S (d) (9, 183, L, st) M).trans (x_ocs _ _ (.int 3) 9 184 L st M)
set_option maxRecDepth 20000 in
theorem f9_184 (S : pm_S) (d : Nat) (L : List Value) (x y : Int32) (r : List Value) (M : pm_M) : fr S (d) (9, 184, L, .int y :: .int x :: r) M = fr S d (9, 185, L, .int (x + y) :: r) M := (fr_eq S (d) (9, 184, L, .int y :: .int x :: r) M).trans (x_oii _ _ (fun x y => x + y) 9 185 L r x y M)
set_option maxRecDepth 20000 in
theorem f9_185 (S : pm_S) (d : Nat) (L : List Value) (i : Int32) (q : Nat) (hq : ¬ q = 1) (r : List Value) (M : pm_M) : fr S (d) (9, 185, L, .int i :: .ref q :: r) M = match (pm_get M q).bind (fun c => pm_el 0 c i) with
  | some v => fr S d (9, 186, L, v :: r) M
  | none => none := (fr_eq S (d) (9, 185, L, .int i :: .ref q :: r) M).trans (x_oal _ _ S 0 9 186 L r i q hq M)
set_option maxRecDepth 20000 in
theorem f9_186 (S : pm_S) (d : Nat) (L : List Value) (st : List Value) (M : pm_M) : fr S (d) (9, 186, L, st) M = if pm_ty (L.getD 0 pm_U) = 2 then fr S d (9, 187, L, L.getD 0 pm_U :: st) M else none := (fr_eq S (d) (9, 186, L, st) M).trans (x_old _ _ 2 0 9 187 L st M)
set_option maxRecDepth 20000 in
theorem f9_187 (S : pm_S) (d : Nat) (L : List Value) (st : List Value) (M : pm_M) : fr S (d) (9, 187, L, st) M = if pm_ty (L.getD 4 pm_U) = 0 then fr S d (9, 189, L, L.getD 4 pm_U :: st) M else none := (fr_eq S (d) (9, 187, L, st) M).trans (x_old _ _ 0 4 9 189 L st M)
set_option maxRecDepth 20000 in
theorem f9_189 (S : pm_S) (d : Nat) (L : List Value) (st : List Value) (M : pm_M) : fr S (d) (9, 189, L, st) M = fr S d (9, 190, L, .int 4 :: st) M := (fr_eq S (d) (9, 189, L, st) M).trans (x_ocs _ _ (.int 4) 9 190 L st M)
set_option maxRecDepth 20000 in
theorem f9_190 (S : pm_S) (d : Nat) (L : List Value) (x y : Int32) (r : List Value) (M : pm_M) : fr S (d) (9, 190, L, .int y :: .int x :: r) M = fr S d (9, 191, L, .int (x + y) :: r) M := (fr_eq S (d) (9, 190, L, .int y :: .int x :: r) M).trans (x_oii _ _ (fun x y => x + y) 9 191 L r x y M)
set_option maxRecDepth 20000 in
theorem f9_191 (S : pm_S) (d : Nat) (L : List Value) (i : Int32) (q : Nat) (hq : ¬ q = 1) (r : List Value) (M : pm_M) : fr S (d) (9, 191, L, .int i :: .ref q :: r) M = match (pm_get M q).bind (fun c => pm_el 0 c i) with
  | some v => fr S d (9, 192, L, v :: r) M
  | none => none := (fr_eq S (d) (9, 191, L, .int i :: .ref q :: r) M).trans (x_oal _ _ S 0 9 192 L r i q hq M)
set_option maxRecDepth 20000 in
theorem f9_192 (S : pm_S) (d : Nat) (L : List Value) (st : List Value) (M : pm_M) : fr S (d + 1) (9, 192, L, st) M = match pm_ag 5 [] st with
  | some (a, r) => if r.length ≤ 4 ∧ (1 = 0 ∨ pm_obj M 3 (a.headD pm_U) = true) then (match fr S d (109, 0, a ++ [], []) M with
    | none => none
    | some (.inl v, M') => fr S (d + 1) (9, 195, L, v.toList ++ r) M'
    | some (.inr E, M') => some (.inr E, M')) else none
  | none => none := (fr_eq S (d + 1) (9, 192, L, st) M).trans (x_ocl _ _ 1 109 5 3 [] 9 195 L st M)
set_option maxRecDepth 20000 in
theorem f9_195 (S : pm_S) (d : Nat) (L : List Value) (v : Value) (r : List Value) (M : pm_M) : fr S (d) (9, 195, L, v :: r) M = if pm_ty v = 0 ∧ 6 < L.length ∧ ¬ pm_ty (L.getD (6 - 1) pm_U) = 1 then fr S d (9, 197, L.set 6 v, r) M else none := (fr_eq S (d) (9, 195, L, v :: r) M).trans (x_ost _ _ 0 6 9 197 L r v M)
set_option maxRecDepth 20000 in
theorem f9_197 (S : pm_S) (d : Nat) (L : List Value) (st : List Value) (M : pm_M) : fr S (d) (9, 197, L, st) M = if pm_ty (L.getD 2 pm_U) = 2 then fr S d (9, 198, L, L.getD 2 pm_U :: st) M else none := (fr_eq S (d) (9, 197, L, st) M).trans (x_old _ _ 2 2 9 198 L st M)
set_option maxRecDepth 20000 in
theorem f9_198 (S : pm_S) (d : Nat) (L : List Value) (st : List Value) (M : pm_M) : fr S (d + 1) (9, 198, L, st) M = match pm_ag 1 [] st with
  | some (a, r) => if r.length ≤ 4 ∧ (1 = 0 ∨ pm_obj M 3 (a.headD pm_U) = true) then (match fr S d (102, 0, a ++ [], []) M with
    | none => none
    | some (.inl v, M') => fr S (d + 1) (9, 201, L, v.toList ++ r) M'
    | some (.inr E, M') => some (.inr E, M')) else none
  | none => none := (fr_eq S (d + 1) (9, 198, L, st) M).trans (x_ocl _ _ 1 102 1 3 [] 9 201 L st M)
set_option maxRecDepth 20000 in
theorem f9_201 (S : pm_S) (d : Nat) (L : List Value) (st : List Value) (M : pm_M) : fr S (d) (9, 201, L, st) M = if pm_ty (L.getD 5 pm_U) = 0 then fr S d (9, 203, L, L.getD 5 pm_U :: st) M else none := (fr_eq S (d) (9, 201, L, st) M).trans (x_old _ _ 0 5 9 203 L st M)
set_option maxRecDepth 20000 in
theorem f9_203 (S : pm_S) (d : Nat) (L : List Value) (x y : Int32) (r : List Value) (M : pm_M) : fr S (d) (9, 203, L, .int y :: .int x :: r) M = if x = y then fr S d (9, 208, L, r) M else fr S d (9, 206, L, r) M := (fr_eq S (d) (9, 203, L, .int y :: .int x :: r) M).trans (x_oc2eq _ _ 9 206 208 L r x y M)
set_option maxRecDepth 20000 in
theorem f9_206 (S : pm_S) (d : Nat) (L : List Value) (st : List Value) (M : pm_M) : fr S (d) (9, 206, L, st) M = fr S d (9, 207, L, .int 0 :: st) M := (fr_eq S (d) (9, 206, L, st) M).trans (x_ocs _ _ (.int 0) 9 207 L st M)
set_option maxRecDepth 20000 in
theorem f9_207 (S : pm_S) (d : Nat) (L : List Value) (v : Value) (M : pm_M) : fr S (d) (9, 207, L, [v]) M = if pm_fit 3 v = true then some (.inl (some v), M) else none := (fr_eq S (d) (9, 207, L, [v]) M).trans (x_ort _ _ 3 v M)
set_option maxRecDepth 20000 in
theorem f9_208 (S : pm_S) (d : Nat) (L : List Value) (st : List Value) (M : pm_M) : fr S (d) (9, 208, L, st) M = if pm_ty (L.getD 5 pm_U) = 0 then fr S d (9, 210, L, L.getD 5 pm_U :: st) M else none := (fr_eq S (d) (9, 208, L, st) M).trans (x_old _ _ 0 5 9 210 L st M)
set_option maxRecDepth 20000 in
theorem f9_210 (S : pm_S) (d : Nat) (L : List Value) (x : Int32) (r : List Value) (M : pm_M) : fr S (d) (9, 210, L, .int x :: r) M = if ¬ x = 0 then fr S d (9, 225, L, r) M else fr S d (9, 213, L, r) M := (fr_eq S (d) (9, 210, L, .int x :: r) M).trans (x_oc1ne _ _ 9 213 225 L r x M)
set_option maxRecDepth 20000 in
theorem f9_213 (S : pm_S) (d : Nat) (L : List Value) (st : List Value) (M : pm_M) : fr S (d) (9, 213, L, st) M = if pm_ty (L.getD 3 pm_U) = 2 then fr S d (9, 214, L, L.getD 3 pm_U :: st) M else none := (fr_eq S (d) (9, 213, L, st) M).trans (x_old _ _ 2 3 9 214 L st M)
set_option maxRecDepth 20000 in
theorem f9_214 (S : pm_S) (d : Nat) (L : List Value) (st : List Value) (M : pm_M) : fr S (d) (9, 214, L, st) M = fr S d (9, 215, L, .int 0 :: st) M := (fr_eq S (d) (9, 214, L, st) M).trans (x_ocs _ _ (.int 0) 9 215 L st M)
set_option maxRecDepth 20000 in
theorem f9_215 (S : pm_S) (d : Nat) (L : List Value) (i : Int32) (q : Nat) (hq : ¬ q = 1) (r : List Value) (M : pm_M) : fr S (d) (9, 215, L, .int i :: .ref q :: r) M = match (pm_get M q).bind (fun c => pm_el 2 c i) with
  | some v => fr S d (9, 216, L, v :: r) M
  | none => none := (fr_eq S (d) (9, 215, L, .int i :: .ref q :: r) M).trans (x_oal _ _ S 2 9 216 L r i q hq M)
set_option maxRecDepth 20000 in
theorem f9_216 (S : pm_S) (d : Nat) (L : List Value) (st : List Value) (M : pm_M) : fr S (d) (9, 216, L, st) M = if pm_ty (L.getD 6 pm_U) = 0 then fr S d (9, 218, L, L.getD 6 pm_U :: st) M else none := (fr_eq S (d) (9, 216, L, st) M).trans (x_old _ _ 0 6 9 218 L st M)
set_option maxRecDepth 20000 in
theorem f9_218 (S : pm_S) (d : Nat) (L : List Value) (x : Int32) (r : List Value) (M : pm_M) : fr S (d) (9, 218, L, .int x :: r) M = fr S d (9, 219, L, .long x.toInt64 :: r) M := (fr_eq S (d) (9, 218, L, .int x :: r) M).trans (x_oi1 _ _ (fun x => .long x.toInt64) 9 219 L r x M)
set_option maxRecDepth 20000 in
theorem f9_219 (S : pm_S) (d : Nat) (L : List Value) (x y : Int64) (r : List Value) (M : pm_M) : fr S (d) (9, 219, L, .long y :: .long x :: r) M = fr S d (9, 220, L, .int (if y < x then 1 else if x = y then 0 else -1) :: r) M := (fr_eq S (d) (9, 219, L, .long y :: .long x :: r) M).trans (x_oll _ _ (fun x y => .int (if y < x then 1 else if x = y then 0 else -1)) 9 220 L r x y M)
set_option maxRecDepth 20000 in
theorem f9_220 (S : pm_S) (d : Nat) (L : List Value) (x : Int32) (r : List Value) (M : pm_M) : fr S (d) (9, 220, L, .int x :: r) M = if x = 0 then fr S d (9, 225, L, r) M else fr S d (9, 223, L, r) M := (fr_eq S (d) (9, 220, L, .int x :: r) M).trans (x_oc1eq _ _ 9 223 225 L r x M)
set_option maxRecDepth 20000 in
theorem f9_223 (S : pm_S) (d : Nat) (L : List Value) (st : List Value) (M : pm_M) : fr S (d) (9, 223, L, st) M = fr S d (9, 224, L, .int 0 :: st) M := (fr_eq S (d) (9, 223, L, st) M).trans (x_ocs _ _ (.int 0) 9 224 L st M)
set_option maxRecDepth 20000 in
theorem f9_224 (S : pm_S) (d : Nat) (L : List Value) (v : Value) (M : pm_M) : fr S (d) (9, 224, L, [v]) M = if pm_fit 3 v = true then some (.inl (some v), M) else none := (fr_eq S (d) (9, 224, L, [v]) M).trans (x_ort _ _ 3 v M)
set_option maxRecDepth 20000 in
theorem f9_225 (S : pm_S) (d : Nat) (L : List Value) (st : List Value) (M : pm_M) : fr S (d) (9, 225, L, st) M = fr S d (9, 935, L, st) M := (fr_eq S (d) (9, 225, L, st) M).trans (x_ogo _ _ 9 935 L st M)
set_option maxRecDepth 20000 in
theorem f9_228 (S : pm_S) (d : Nat) (L : List Value) (st : List Value) (M : pm_M) : fr S (d) (9, 228, L, st) M = if pm_ty (L.getD 1 pm_U) = 2 then fr S d (9, 229, L, L.getD 1 pm_U :: st) M else none := (fr_eq S (d) (9, 228, L, st) M).trans (x_old _ _ 2 1 9 229 L st M)
set_option maxRecDepth 20000 in
theorem f9_229 (S : pm_S) (d : Nat) (L : List Value) (st : List Value) (M : pm_M) : fr S (d) (9, 229, L, st) M = if pm_ty (L.getD 0 pm_U) = 2 then fr S d (9, 230, L, L.getD 0 pm_U :: st) M else none := (fr_eq S (d) (9, 229, L, st) M).trans (x_old _ _ 2 0 9 230 L st M)
set_option maxRecDepth 20000 in
theorem f9_230 (S : pm_S) (d : Nat) (L : List Value) (st : List Value) (M : pm_M) : fr S (d) (9, 230, L, st) M = if pm_ty (L.getD 4 pm_U) = 0 then fr S d (9, 232, L, L.getD 4 pm_U :: st) M else none := (fr_eq S (d) (9, 230, L, st) M).trans (x_old _ _ 0 4 9 232 L st M)
set_option maxRecDepth 20000 in
theorem f9_232 (S : pm_S) (d : Nat) (L : List Value) (st : List Value) (M : pm_M) : fr S (d) (9, 232, L, st) M = fr S d (9, 233, L, .int 1 :: st) M := (fr_eq S (d) (9, 232, L, st) M).trans (x_ocs _ _ (.int 1) 9 233 L st M)
set_option maxRecDepth 20000 in
theorem f9_233 (S : pm_S) (d : Nat) (L : List Value) (x y : Int32) (r : List Value) (M : pm_M) : fr S (d) (9, 233, L, .int y :: .int x :: r) M = fr S d (9, 234, L, .int (x + y) :: r) M := (fr_eq S (d) (9, 233, L, .int y :: .int x :: r) M).trans (x_oii _ _ (fun x y => x + y) 9 234 L r x y M)
set_option maxRecDepth 20000 in
theorem f9_234 (S : pm_S) (d : Nat) (L : List Value) (i : Int32) (q : Nat) (hq : ¬ q = 1) (r : List Value) (M : pm_M) : fr S (d) (9, 234, L, .int i :: .ref q :: r) M = match (pm_get M q).bind (fun c => pm_el 0 c i) with
  | some v => fr S d (9, 235, L, v :: r) M
  | none => none := (fr_eq S (d) (9, 234, L, .int i :: .ref q :: r) M).trans (x_oal _ _ S 0 9 235 L r i q hq M)
set_option maxRecDepth 20000 in
theorem f9_235 (S : pm_S) (d : Nat) (L : List Value) (st : List Value) (M : pm_M) : fr S (d) (9, 235, L, st) M = if pm_ty (L.getD 0 pm_U) = 2 then fr S d (9, 236, L, L.getD 0 pm_U :: st) M else none := (fr_eq S (d) (9, 235, L, st) M).trans (x_old _ _ 2 0 9 236 L st M)
set_option maxRecDepth 20000 in
theorem f9_236 (S : pm_S) (d : Nat) (L : List Value) (st : List Value) (M : pm_M) : fr S (d) (9, 236, L, st) M = if pm_ty (L.getD 4 pm_U) = 0 then fr S d (9, 238, L, L.getD 4 pm_U :: st) M else none := (fr_eq S (d) (9, 236, L, st) M).trans (x_old _ _ 0 4 9 238 L st M)
set_option maxRecDepth 20000 in
theorem f9_238 (S : pm_S) (d : Nat) (L : List Value) (st : List Value) (M : pm_M) : fr S (d) (9, 238, L, st) M = fr S d (9, 239, L, .int 2 :: st) M := (fr_eq S (d) (9, 238, L, st) M).trans (x_ocs _ _ (.int 2) 9 239 L st M)
set_option maxRecDepth 20000 in
theorem f9_239 (S : pm_S) (d : Nat) (L : List Value) (x y : Int32) (r : List Value) (M : pm_M) : fr S (d) (9, 239, L, .int y :: .int x :: r) M = fr S d (9, 240, L, .int (x + y) :: r) M := (fr_eq S (d) (9, 239, L, .int y :: .int x :: r) M).trans (x_oii _ _ (fun x y => x + y) 9 240 L r x y M)
set_option maxRecDepth 20000 in
theorem f9_240 (S : pm_S) (d : Nat) (L : List Value) (i : Int32) (q : Nat) (hq : ¬ q = 1) (r : List Value) (M : pm_M) : fr S (d) (9, 240, L, .int i :: .ref q :: r) M = match (pm_get M q).bind (fun c => pm_el 0 c i) with
  | some v => fr S d (9, 241, L, v :: r) M
  | none => none := (fr_eq S (d) (9, 240, L, .int i :: .ref q :: r) M).trans (x_oal _ _ S 0 9 241 L r i q hq M)
set_option maxRecDepth 20000 in
theorem f9_241 (S : pm_S) (d : Nat) (L : List Value) (st : List Value) (M : pm_M) : fr S (d) (9, 241, L, st) M = if pm_ty (L.getD 0 pm_U) = 2 then fr S d (9, 242, L, L.getD 0 pm_U :: st) M else none := (fr_eq S (d) (9, 241, L, st) M).trans (x_old _ _ 2 0 9 242 L st M)
set_option maxRecDepth 20000 in
theorem f9_242 (S : pm_S) (d : Nat) (L : List Value) (st : List Value) (M : pm_M) : fr S (d) (9, 242, L, st) M = if pm_ty (L.getD 4 pm_U) = 0 then fr S d (9, 244, L, L.getD 4 pm_U :: st) M else none := (fr_eq S (d) (9, 242, L, st) M).trans (x_old _ _ 0 4 9 244 L st M)
set_option maxRecDepth 20000 in
theorem f9_244 (S : pm_S) (d : Nat) (L : List Value) (st : List Value) (M : pm_M) : fr S (d) (9, 244, L, st) M = fr S d (9, 245, L, .int 3 :: st) M := (fr_eq S (d) (9, 244, L, st) M).trans (x_ocs _ _ (.int 3) 9 245 L st M)
set_option maxRecDepth 20000 in
theorem f9_245 (S : pm_S) (d : Nat) (L : List Value) (x y : Int32) (r : List Value) (M : pm_M) : fr S (d) (9, 245, L, .int y :: .int x :: r) M = fr S d (9, 246, L, .int (x + y) :: r) M := (fr_eq S (d) (9, 245, L, .int y :: .int x :: r) M).trans (x_oii _ _ (fun x y => x + y) 9 246 L r x y M)
set_option maxRecDepth 20000 in
theorem f9_246 (S : pm_S) (d : Nat) (L : List Value) (i : Int32) (q : Nat) (hq : ¬ q = 1) (r : List Value) (M : pm_M) : fr S (d) (9, 246, L, .int i :: .ref q :: r) M = match (pm_get M q).bind (fun c => pm_el 0 c i) with
  | some v => fr S d (9, 247, L, v :: r) M
  | none => none := (fr_eq S (d) (9, 246, L, .int i :: .ref q :: r) M).trans (x_oal _ _ S 0 9 247 L r i q hq M)
set_option maxRecDepth 20000 in
theorem f9_247 (S : pm_S) (d : Nat) (L : List Value) (st : List Value) (M : pm_M) : fr S (d) (9, 247, L, st) M = if pm_ty (L.getD 0 pm_U) = 2 then fr S d (9, 248, L, L.getD 0 pm_U :: st) M else none := (fr_eq S (d) (9, 247, L, st) M).trans (x_old _ _ 2 0 9 248 L st M)
set_option maxRecDepth 20000 in
theorem f9_248 (S : pm_S) (d : Nat) (L : List Value) (st : List Value) (M : pm_M) : fr S (d) (9, 248, L, st) M = if pm_ty (L.getD 4 pm_U) = 0 then fr S d (9, 250, L, L.getD 4 pm_U :: st) M else none := (fr_eq S (d) (9, 248, L, st) M).trans (x_old _ _ 0 4 9 250 L st M)
set_option maxRecDepth 20000 in
theorem f9_250 (S : pm_S) (d : Nat) (L : List Value) (st : List Value) (M : pm_M) : fr S (d) (9, 250, L, st) M = fr S d (9, 251, L, .int 4 :: st) M := (fr_eq S (d) (9, 250, L, st) M).trans (x_ocs _ _ (.int 4) 9 251 L st M)
set_option maxRecDepth 20000 in
theorem f9_251 (S : pm_S) (d : Nat) (L : List Value) (x y : Int32) (r : List Value) (M : pm_M) : fr S (d) (9, 251, L, .int y :: .int x :: r) M = fr S d (9, 252, L, .int (x + y) :: r) M := (fr_eq S (d) (9, 251, L, .int y :: .int x :: r) M).trans (x_oii _ _ (fun x y => x + y) 9 252 L r x y M)
set_option maxRecDepth 20000 in
theorem f9_252 (S : pm_S) (d : Nat) (L : List Value) (i : Int32) (q : Nat) (hq : ¬ q = 1) (r : List Value) (M : pm_M) : fr S (d) (9, 252, L, .int i :: .ref q :: r) M = match (pm_get M q).bind (fun c => pm_el 0 c i) with
  | some v => fr S d (9, 253, L, v :: r) M
  | none => none := (fr_eq S (d) (9, 252, L, .int i :: .ref q :: r) M).trans (x_oal _ _ S 0 9 253 L r i q hq M)
set_option maxRecDepth 20000 in
theorem f9_253 (S : pm_S) (d : Nat) (L : List Value) (st : List Value) (M : pm_M) : fr S (d) (9, 253, L, st) M = if pm_ty (L.getD 3 pm_U) = 2 then fr S d (9, 254, L, L.getD 3 pm_U :: st) M else none := (fr_eq S (d) (9, 253, L, st) M).trans (x_old _ _ 2 3 9 254 L st M)
set_option maxRecDepth 20000 in
theorem f9_254 (S : pm_S) (d : Nat) (L : List Value) (st : List Value) (M : pm_M) : fr S (d + 1) (9, 254, L, st) M = match pm_ag 6 [] st with
  | some (a, r) => if r.length ≤ 4 ∧ (0 = 0 ∨ pm_obj M 4 (a.headD pm_U) = true) then (match fr S d (2, 0, a ++ [pm_U], []) M with
    | none => none
    | some (.inl v, M') => fr S (d + 1) (9, 257, L, v.toList ++ r) M'
    | some (.inr E, M') => some (.inr E, M')) else none
  | none => none := (fr_eq S (d + 1) (9, 254, L, st) M).trans (x_ocl _ _ 0 2 6 4 [pm_U] 9 257 L st M)
set_option maxRecDepth 20000 in
theorem f9_257 (S : pm_S) (d : Nat) (L : List Value) (v : Value) (r : List Value) (M : pm_M) : fr S (d) (9, 257, L, v :: r) M = if pm_ty v = 0 ∧ 5 < L.length ∧ ¬ pm_ty (L.getD (5 - 1) pm_U) = 1 then fr S d (9, 259, L.set 5 v, r) M else none := (fr_eq S (d) (9, 257, L, v :: r) M).trans (x_ost _ _ 0 5 9 259 L r v M)
set_option maxRecDepth 20000 in
theorem f9_259 (S : pm_S) (d : Nat) (L : List Value) (st : List Value) (M : pm_M) : fr S (d) (9, 259, L, st) M = if pm_ty (L.getD 2 pm_U) = 2 then fr S d (9, 260, L, L.getD 2 pm_U :: st) M else none := (fr_eq S (d) (9, 259, L, st) M).trans (x_old _ _ 2 2 9 260 L st M)
set_option maxRecDepth 20000 in
theorem f9_260 (S : pm_S) (d : Nat) (L : List Value) (st : List Value) (M : pm_M) : fr S (d) (9, 260, L, st) M = if pm_ty (L.getD 0 pm_U) = 2 then fr S d (9, 261, L, L.getD 0 pm_U :: st) M else none := (fr_eq S (d) (9, 260, L, st) M).trans (x_old _ _ 2 0 9 261 L st M)
set_option maxRecDepth 20000 in
theorem f9_261 (S : pm_S) (d : Nat) (L : List Value) (st : List Value) (M : pm_M) : fr S (d) (9, 261, L, st) M = if pm_ty (L.getD 4 pm_U) = 0 then fr S d (9, 263, L, L.getD 4 pm_U :: st) M else none := (fr_eq S (d) (9, 261, L, st) M).trans (x_old _ _ 0 4 9 263 L st M)
set_option maxRecDepth 20000 in
theorem f9_263 (S : pm_S) (d : Nat) (L : List Value) (st : List Value) (M : pm_M) : fr S (d) (9, 263, L, st) M = fr S d (9, 264, L, .int 1 :: st) M := (fr_eq S (d) (9, 263, L, st) M).trans (x_ocs _ _ (.int 1) 9 264 L st M)
set_option maxRecDepth 20000 in
theorem f9_264 (S : pm_S) (d : Nat) (L : List Value) (x y : Int32) (r : List Value) (M : pm_M) : fr S (d) (9, 264, L, .int y :: .int x :: r) M = fr S d (9, 265, L, .int (x + y) :: r) M := (fr_eq S (d) (9, 264, L, .int y :: .int x :: r) M).trans (x_oii _ _ (fun x y => x + y) 9 265 L r x y M)
set_option maxRecDepth 20000 in
theorem f9_265 (S : pm_S) (d : Nat) (L : List Value) (i : Int32) (q : Nat) (hq : ¬ q = 1) (r : List Value) (M : pm_M) : fr S (d) (9, 265, L, .int i :: .ref q :: r) M = match (pm_get M q).bind (fun c => pm_el 0 c i) with
  | some v => fr S d (9, 266, L, v :: r) M
  | none => none := (fr_eq S (d) (9, 265, L, .int i :: .ref q :: r) M).trans (x_oal _ _ S 0 9 266 L r i q hq M)
set_option maxRecDepth 20000 in
theorem f9_266 (S : pm_S) (d : Nat) (L : List Value) (st : List Value) (M : pm_M) : fr S (d) (9, 266, L, st) M = if pm_ty (L.getD 0 pm_U) = 2 then fr S d (9, 267, L, L.getD 0 pm_U :: st) M else none := (fr_eq S (d) (9, 266, L, st) M).trans (x_old _ _ 2 0 9 267 L st M)
set_option maxRecDepth 20000 in
theorem f9_267 (S : pm_S) (d : Nat) (L : List Value) (st : List Value) (M : pm_M) : fr S (d) (9, 267, L, st) M = if pm_ty (L.getD 4 pm_U) = 0 then fr S d (9, 269, L, L.getD 4 pm_U :: st) M else none := (fr_eq S (d) (9, 267, L, st) M).trans (x_old _ _ 0 4 9 269 L st M)
set_option maxRecDepth 20000 in
theorem f9_269 (S : pm_S) (d : Nat) (L : List Value) (st : List Value) (M : pm_M) : fr S (d) (9, 269, L, st) M = fr S d (9, 270, L, .int 2 :: st) M := (fr_eq S (d) (9, 269, L, st) M).trans (x_ocs _ _ (.int 2) 9 270 L st M)
set_option maxRecDepth 20000 in
theorem f9_270 (S : pm_S) (d : Nat) (L : List Value) (x y : Int32) (r : List Value) (M : pm_M) : fr S (d) (9, 270, L, .int y :: .int x :: r) M = fr S d (9, 271, L, .int (x + y) :: r) M := (fr_eq S (d) (9, 270, L, .int y :: .int x :: r) M).trans (x_oii _ _ (fun x y => x + y) 9 271 L r x y M)
set_option maxRecDepth 20000 in
theorem f9_271 (S : pm_S) (d : Nat) (L : List Value) (i : Int32) (q : Nat) (hq : ¬ q = 1) (r : List Value) (M : pm_M) : fr S (d) (9, 271, L, .int i :: .ref q :: r) M = match (pm_get M q).bind (fun c => pm_el 0 c i) with
  | some v => fr S d (9, 272, L, v :: r) M
  | none => none := (fr_eq S (d) (9, 271, L, .int i :: .ref q :: r) M).trans (x_oal _ _ S 0 9 272 L r i q hq M)
set_option maxRecDepth 20000 in
theorem f9_272 (S : pm_S) (d : Nat) (L : List Value) (st : List Value) (M : pm_M) : fr S (d) (9, 272, L, st) M = if pm_ty (L.getD 0 pm_U) = 2 then fr S d (9, 273, L, L.getD 0 pm_U :: st) M else none := (fr_eq S (d) (9, 272, L, st) M).trans (x_old _ _ 2 0 9 273 L st M)
set_option maxRecDepth 20000 in
theorem f9_273 (S : pm_S) (d : Nat) (L : List Value) (st : List Value) (M : pm_M) : fr S (d) (9, 273, L, st) M = if pm_ty (L.getD 4 pm_U) = 0 then fr S d (9, 275, L, L.getD 4 pm_U :: st) M else none := (fr_eq S (d) (9, 273, L, st) M).trans (x_old _ _ 0 4 9 275 L st M)
set_option maxRecDepth 20000 in
theorem f9_275 (S : pm_S) (d : Nat) (L : List Value) (st : List Value) (M : pm_M) : fr S (d) (9, 275, L, st) M = fr S d (9, 276, L, .int 3 :: st) M := (fr_eq S (d) (9, 275, L, st) M).trans (x_ocs _ _ (.int 3) 9 276 L st M)
set_option maxRecDepth 20000 in
theorem f9_276 (S : pm_S) (d : Nat) (L : List Value) (x y : Int32) (r : List Value) (M : pm_M) : fr S (d) (9, 276, L, .int y :: .int x :: r) M = fr S d (9, 277, L, .int (x + y) :: r) M := (fr_eq S (d) (9, 276, L, .int y :: .int x :: r) M).trans (x_oii _ _ (fun x y => x + y) 9 277 L r x y M)
set_option maxRecDepth 20000 in
theorem f9_277 (S : pm_S) (d : Nat) (L : List Value) (i : Int32) (q : Nat) (hq : ¬ q = 1) (r : List Value) (M : pm_M) : fr S (d) (9, 277, L, .int i :: .ref q :: r) M = match (pm_get M q).bind (fun c => pm_el 0 c i) with
  | some v => fr S d (9, 278, L, v :: r) M
  | none => none := (fr_eq S (d) (9, 277, L, .int i :: .ref q :: r) M).trans (x_oal _ _ S 0 9 278 L r i q hq M)
set_option maxRecDepth 20000 in
theorem f9_278 (S : pm_S) (d : Nat) (L : List Value) (st : List Value) (M : pm_M) : fr S (d) (9, 278, L, st) M = if pm_ty (L.getD 0 pm_U) = 2 then fr S d (9, 279, L, L.getD 0 pm_U :: st) M else none := (fr_eq S (d) (9, 278, L, st) M).trans (x_old _ _ 2 0 9 279 L st M)
set_option maxRecDepth 20000 in
theorem f9_279 (S : pm_S) (d : Nat) (L : List Value) (st : List Value) (M : pm_M) : fr S (d) (9, 279, L, st) M = if pm_ty (L.getD 4 pm_U) = 0 then fr S d (9, 281, L, L.getD 4 pm_U :: st) M else none := (fr_eq S (d) (9, 279, L, st) M).trans (x_old _ _ 0 4 9 281 L st M)
set_option maxRecDepth 20000 in
theorem f9_281 (S : pm_S) (d : Nat) (L : List Value) (st : List Value) (M : pm_M) : fr S (d) (9, 281, L, st) M = fr S d (9, 282, L, .int 4 :: st) M := (fr_eq S (d) (9, 281, L, st) M).trans (x_ocs _ _ (.int 4) 9 282 L st M)
set_option maxRecDepth 20000 in
theorem f9_282 (S : pm_S) (d : Nat) (L : List Value) (x y : Int32) (r : List Value) (M : pm_M) : fr S (d) (9, 282, L, .int y :: .int x :: r) M = fr S d (9, 283, L, .int (x + y) :: r) M := (fr_eq S (d) (9, 282, L, .int y :: .int x :: r) M).trans (x_oii _ _ (fun x y => x + y) 9 283 L r x y M)
set_option maxRecDepth 20000 in
theorem f9_283 (S : pm_S) (d : Nat) (L : List Value) (i : Int32) (q : Nat) (hq : ¬ q = 1) (r : List Value) (M : pm_M) : fr S (d) (9, 283, L, .int i :: .ref q :: r) M = match (pm_get M q).bind (fun c => pm_el 0 c i) with
  | some v => fr S d (9, 284, L, v :: r) M
  | none => none := (fr_eq S (d) (9, 283, L, .int i :: .ref q :: r) M).trans (x_oal _ _ S 0 9 284 L r i q hq M)
set_option maxRecDepth 20000 in
theorem f9_284 (S : pm_S) (d : Nat) (L : List Value) (st : List Value) (M : pm_M) : fr S (d + 1) (9, 284, L, st) M = match pm_ag 5 [] st with
  | some (a, r) => if r.length ≤ 4 ∧ (1 = 0 ∨ pm_obj M 3 (a.headD pm_U) = true) then (match fr S d (111, 0, a ++ [pm_U, pm_U], []) M with
    | none => none
    | some (.inl v, M') => fr S (d + 1) (9, 287, L, v.toList ++ r) M'
    | some (.inr E, M') => some (.inr E, M')) else none
  | none => none := (fr_eq S (d + 1) (9, 284, L, st) M).trans (x_ocl _ _ 1 111 5 3 [pm_U, pm_U] 9 287 L st M)
set_option maxRecDepth 20000 in
theorem f9_287 (S : pm_S) (d : Nat) (L : List Value) (v : Value) (r : List Value) (M : pm_M) : fr S (d) (9, 287, L, v :: r) M = if pm_ty v = 0 ∧ 6 < L.length ∧ ¬ pm_ty (L.getD (6 - 1) pm_U) = 1 then fr S d (9, 289, L.set 6 v, r) M else none := (fr_eq S (d) (9, 287, L, v :: r) M).trans (x_ost _ _ 0 6 9 289 L r v M)
set_option maxRecDepth 20000 in
theorem f9_289 (S : pm_S) (d : Nat) (L : List Value) (st : List Value) (M : pm_M) : fr S (d) (9, 289, L, st) M = if pm_ty (L.getD 2 pm_U) = 2 then fr S d (9, 290, L, L.getD 2 pm_U :: st) M else none := (fr_eq S (d) (9, 289, L, st) M).trans (x_old _ _ 2 2 9 290 L st M)
set_option maxRecDepth 20000 in
theorem f9_290 (S : pm_S) (d : Nat) (L : List Value) (st : List Value) (M : pm_M) : fr S (d + 1) (9, 290, L, st) M = match pm_ag 1 [] st with
  | some (a, r) => if r.length ≤ 4 ∧ (1 = 0 ∨ pm_obj M 3 (a.headD pm_U) = true) then (match fr S d (102, 0, a ++ [], []) M with
    | none => none
    | some (.inl v, M') => fr S (d + 1) (9, 293, L, v.toList ++ r) M'
    | some (.inr E, M') => some (.inr E, M')) else none
  | none => none := (fr_eq S (d + 1) (9, 290, L, st) M).trans (x_ocl _ _ 1 102 1 3 [] 9 293 L st M)
set_option maxRecDepth 20000 in
theorem f9_293 (S : pm_S) (d : Nat) (L : List Value) (st : List Value) (M : pm_M) : fr S (d) (9, 293, L, st) M = if pm_ty (L.getD 5 pm_U) = 0 then fr S d (9, 295, L, L.getD 5 pm_U :: st) M else none := (fr_eq S (d) (9, 293, L, st) M).trans (x_old _ _ 0 5 9 295 L st M)
set_option maxRecDepth 20000 in
theorem f9_295 (S : pm_S) (d : Nat) (L : List Value) (x y : Int32) (r : List Value) (M : pm_M) : fr S (d) (9, 295, L, .int y :: .int x :: r) M = if x = y then fr S d (9, 300, L, r) M else fr S d (9, 298, L, r) M := (fr_eq S (d) (9, 295, L, .int y :: .int x :: r) M).trans (x_oc2eq _ _ 9 298 300 L r x y M)
set_option maxRecDepth 20000 in
theorem f9_298 (S : pm_S) (d : Nat) (L : List Value) (st : List Value) (M : pm_M) : fr S (d) (9, 298, L, st) M = fr S d (9, 299, L, .int 0 :: st) M := (fr_eq S (d) (9, 298, L, st) M).trans (x_ocs _ _ (.int 0) 9 299 L st M)
set_option maxRecDepth 20000 in
theorem f9_299 (S : pm_S) (d : Nat) (L : List Value) (v : Value) (M : pm_M) : fr S (d) (9, 299, L, [v]) M = if pm_fit 3 v = true then some (.inl (some v), M) else none := (fr_eq S (d) (9, 299, L, [v]) M).trans (x_ort _ _ 3 v M)
set_option maxRecDepth 20000 in
theorem f9_300 (S : pm_S) (d : Nat) (L : List Value) (st : List Value) (M : pm_M) : fr S (d) (9, 300, L, st) M = if pm_ty (L.getD 5 pm_U) = 0 then fr S d (9, 302, L, L.getD 5 pm_U :: st) M else none := (fr_eq S (d) (9, 300, L, st) M).trans (x_old _ _ 0 5 9 302 L st M)
set_option maxRecDepth 20000 in
theorem f9_302 (S : pm_S) (d : Nat) (L : List Value) (x : Int32) (r : List Value) (M : pm_M) : fr S (d) (9, 302, L, .int x :: r) M = if ¬ x = 0 then fr S d (9, 324, L, r) M else fr S d (9, 305, L, r) M := (fr_eq S (d) (9, 302, L, .int x :: r) M).trans (x_oc1ne _ _ 9 305 324 L r x M)
set_option maxRecDepth 20000 in
theorem f9_305 (S : pm_S) (d : Nat) (L : List Value) (st : List Value) (M : pm_M) : fr S (d) (9, 305, L, st) M = if pm_ty (L.getD 3 pm_U) = 2 then fr S d (9, 306, L, L.getD 3 pm_U :: st) M else none := (fr_eq S (d) (9, 305, L, st) M).trans (x_old _ _ 2 3 9 306 L st M)
set_option maxRecDepth 20000 in
theorem f9_306 (S : pm_S) (d : Nat) (L : List Value) (st : List Value) (M : pm_M) : fr S (d) (9, 306, L, st) M = fr S d (9, 307, L, .int 0 :: st) M := (fr_eq S (d) (9, 306, L, st) M).trans (x_ocs _ _ (.int 0) 9 307 L st M)
set_option maxRecDepth 20000 in
theorem f9_307 (S : pm_S) (d : Nat) (L : List Value) (i : Int32) (q : Nat) (hq : ¬ q = 1) (r : List Value) (M : pm_M) : fr S (d) (9, 307, L, .int i :: .ref q :: r) M = match (pm_get M q).bind (fun c => pm_el 2 c i) with
  | some v => fr S d (9, 308, L, v :: r) M
  | none => none := (fr_eq S (d) (9, 307, L, .int i :: .ref q :: r) M).trans (x_oal _ _ S 2 9 308 L r i q hq M)
set_option maxRecDepth 20000 in
theorem f9_308 (S : pm_S) (d : Nat) (L : List Value) (st : List Value) (M : pm_M) : fr S (d) (9, 308, L, st) M = if pm_ty (L.getD 6 pm_U) = 0 then fr S d (9, 310, L, L.getD 6 pm_U :: st) M else none := (fr_eq S (d) (9, 308, L, st) M).trans (x_old _ _ 0 6 9 310 L st M)
set_option maxRecDepth 20000 in
theorem f9_310 (S : pm_S) (d : Nat) (L : List Value) (x : Int32) (r : List Value) (M : pm_M) : fr S (d) (9, 310, L, .int x :: r) M = if x = 0 then fr S d (9, 317, L, r) M else fr S d (9, 313, L, r) M := (fr_eq S (d) (9, 310, L, .int x :: r) M).trans (x_oc1eq _ _ 9 313 317 L r x M)
set_option maxRecDepth 20000 in
theorem f9_313 (S : pm_S) (d : Nat) (L : List Value) (st : List Value) (M : pm_M) : fr S (d) (9, 313, L, st) M = fr S d (9, 314, L, .long 1 :: st) M := (fr_eq S (d) (9, 313, L, st) M).trans (x_ocs _ _ (.long 1) 9 314 L st M)
set_option maxRecDepth 20000 in
theorem f9_314 (S : pm_S) (d : Nat) (L : List Value) (st : List Value) (M : pm_M) : fr S (d) (9, 314, L, st) M = fr S d (9, 318, L, st) M := (fr_eq S (d) (9, 314, L, st) M).trans (x_ogo _ _ 9 318 L st M)
set_option maxRecDepth 20000 in
theorem f9_317 (S : pm_S) (d : Nat) (L : List Value) (st : List Value) (M : pm_M) : fr S (d) (9, 317, L, st) M = fr S d (9, 318, L, .long 0 :: st) M := (fr_eq S (d) (9, 317, L, st) M).trans (x_ocs _ _ (.long 0) 9 318 L st M)
set_option maxRecDepth 20000 in
theorem f9_318 (S : pm_S) (d : Nat) (L : List Value) (x y : Int64) (r : List Value) (M : pm_M) : fr S (d) (9, 318, L, .long y :: .long x :: r) M = fr S d (9, 319, L, .int (if y < x then 1 else if x = y then 0 else -1) :: r) M := (fr_eq S (d) (9, 318, L, .long y :: .long x :: r) M).trans (x_oll _ _ (fun x y => .int (if y < x then 1 else if x = y then 0 else -1)) 9 319 L r x y M)
set_option maxRecDepth 20000 in
theorem f9_319 (S : pm_S) (d : Nat) (L : List Value) (x : Int32) (r : List Value) (M : pm_M) : fr S (d) (9, 319, L, .int x :: r) M = if x = 0 then fr S d (9, 324, L, r) M else fr S d (9, 322, L, r) M := (fr_eq S (d) (9, 319, L, .int x :: r) M).trans (x_oc1eq _ _ 9 322 324 L r x M)
set_option maxRecDepth 20000 in
theorem f9_322 (S : pm_S) (d : Nat) (L : List Value) (st : List Value) (M : pm_M) : fr S (d) (9, 322, L, st) M = fr S d (9, 323, L, .int 0 :: st) M := (fr_eq S (d) (9, 322, L, st) M).trans (x_ocs _ _ (.int 0) 9 323 L st M)
set_option maxRecDepth 20000 in
theorem f9_323 (S : pm_S) (d : Nat) (L : List Value) (v : Value) (M : pm_M) : fr S (d) (9, 323, L, [v]) M = if pm_fit 3 v = true then some (.inl (some v), M) else none := (fr_eq S (d) (9, 323, L, [v]) M).trans (x_ort _ _ 3 v M)
set_option maxRecDepth 20000 in
theorem f9_324 (S : pm_S) (d : Nat) (L : List Value) (st : List Value) (M : pm_M) : fr S (d) (9, 324, L, st) M = fr S d (9, 935, L, st) M := (fr_eq S (d) (9, 324, L, st) M).trans (x_ogo _ _ 9 935 L st M)
set_option maxRecDepth 20000 in
theorem f9_327 (S : pm_S) (d : Nat) (L : List Value) (st : List Value) (M : pm_M) : fr S (d) (9, 327, L, st) M = if pm_ty (L.getD 1 pm_U) = 2 then fr S d (9, 328, L, L.getD 1 pm_U :: st) M else none := (fr_eq S (d) (9, 327, L, st) M).trans (x_old _ _ 2 1 9 328 L st M)
set_option maxRecDepth 20000 in
theorem f9_328 (S : pm_S) (d : Nat) (L : List Value) (st : List Value) (M : pm_M) : fr S (d) (9, 328, L, st) M = if pm_ty (L.getD 0 pm_U) = 2 then fr S d (9, 329, L, L.getD 0 pm_U :: st) M else none := (fr_eq S (d) (9, 328, L, st) M).trans (x_old _ _ 2 0 9 329 L st M)
set_option maxRecDepth 20000 in
theorem f9_329 (S : pm_S) (d : Nat) (L : List Value) (st : List Value) (M : pm_M) : fr S (d) (9, 329, L, st) M = if pm_ty (L.getD 4 pm_U) = 0 then fr S d (9, 331, L, L.getD 4 pm_U :: st) M else none := (fr_eq S (d) (9, 329, L, st) M).trans (x_old _ _ 0 4 9 331 L st M)
set_option maxRecDepth 20000 in
theorem f9_331 (S : pm_S) (d : Nat) (L : List Value) (st : List Value) (M : pm_M) : fr S (d) (9, 331, L, st) M = fr S d (9, 332, L, .int 1 :: st) M := (fr_eq S (d) (9, 331, L, st) M).trans (x_ocs _ _ (.int 1) 9 332 L st M)
set_option maxRecDepth 20000 in
theorem f9_332 (S : pm_S) (d : Nat) (L : List Value) (x y : Int32) (r : List Value) (M : pm_M) : fr S (d) (9, 332, L, .int y :: .int x :: r) M = fr S d (9, 333, L, .int (x + y) :: r) M := (fr_eq S (d) (9, 332, L, .int y :: .int x :: r) M).trans (x_oii _ _ (fun x y => x + y) 9 333 L r x y M)
set_option maxRecDepth 20000 in
theorem f9_333 (S : pm_S) (d : Nat) (L : List Value) (i : Int32) (q : Nat) (hq : ¬ q = 1) (r : List Value) (M : pm_M) : fr S (d) (9, 333, L, .int i :: .ref q :: r) M = match (pm_get M q).bind (fun c => pm_el 0 c i) with
  | some v => fr S d (9, 334, L, v :: r) M
  | none => none := (fr_eq S (d) (9, 333, L, .int i :: .ref q :: r) M).trans (x_oal _ _ S 0 9 334 L r i q hq M)
set_option maxRecDepth 20000 in
theorem f9_334 (S : pm_S) (d : Nat) (L : List Value) (st : List Value) (M : pm_M) : fr S (d + 1) (9, 334, L, st) M = match pm_ag 2 [] st with
  | some (a, r) => if r.length ≤ 4 ∧ (1 = 0 ∨ pm_obj M 0 (a.headD pm_U) = true) then (match fr S d (13, 0, a ++ [pm_U], []) M with
    | none => none
    | some (.inl v, M') => fr S (d + 1) (9, 337, L, v.toList ++ r) M'
    | some (.inr E, M') => some (.inr E, M')) else none
  | none => none := (fr_eq S (d + 1) (9, 334, L, st) M).trans (x_ocl _ _ 1 13 2 0 [pm_U] 9 337 L st M)
set_option maxRecDepth 20000 in
theorem f9_337 (S : pm_S) (d : Nat) (L : List Value) (st : List Value) (M : pm_M) : fr S (d) (9, 337, L, st) M = if pm_ty (L.getD 2 pm_U) = 2 then fr S d (9, 338, L, L.getD 2 pm_U :: st) M else none := (fr_eq S (d) (9, 337, L, st) M).trans (x_old _ _ 2 2 9 338 L st M)
set_option maxRecDepth 20000 in
theorem f9_338 (S : pm_S) (d : Nat) (L : List Value) (st : List Value) (M : pm_M) : fr S (d) (9, 338, L, st) M = if pm_ty (L.getD 0 pm_U) = 2 then fr S d (9, 339, L, L.getD 0 pm_U :: st) M else none := (fr_eq S (d) (9, 338, L, st) M).trans (x_old _ _ 2 0 9 339 L st M)
set_option maxRecDepth 20000 in
theorem f9_339 (S : pm_S) (d : Nat) (L : List Value) (st : List Value) (M : pm_M) : fr S (d) (9, 339, L, st) M = if pm_ty (L.getD 4 pm_U) = 0 then fr S d (9, 341, L, L.getD 4 pm_U :: st) M else none := (fr_eq S (d) (9, 339, L, st) M).trans (x_old _ _ 0 4 9 341 L st M)
set_option maxRecDepth 20000 in
theorem f9_341 (S : pm_S) (d : Nat) (L : List Value) (st : List Value) (M : pm_M) : fr S (d) (9, 341, L, st) M = fr S d (9, 342, L, .int 1 :: st) M := (fr_eq S (d) (9, 341, L, st) M).trans (x_ocs _ _ (.int 1) 9 342 L st M)
set_option maxRecDepth 20000 in
theorem f9_342 (S : pm_S) (d : Nat) (L : List Value) (x y : Int32) (r : List Value) (M : pm_M) : fr S (d) (9, 342, L, .int y :: .int x :: r) M = fr S d (9, 343, L, .int (x + y) :: r) M := (fr_eq S (d) (9, 342, L, .int y :: .int x :: r) M).trans (x_oii _ _ (fun x y => x + y) 9 343 L r x y M)
set_option maxRecDepth 20000 in
theorem f9_343 (S : pm_S) (d : Nat) (L : List Value) (i : Int32) (q : Nat) (hq : ¬ q = 1) (r : List Value) (M : pm_M) : fr S (d) (9, 343, L, .int i :: .ref q :: r) M = match (pm_get M q).bind (fun c => pm_el 0 c i) with
  | some v => fr S d (9, 344, L, v :: r) M
  | none => none := (fr_eq S (d) (9, 343, L, .int i :: .ref q :: r) M).trans (x_oal _ _ S 0 9 344 L r i q hq M)
set_option maxRecDepth 20000 in
theorem f9_344 (S : pm_S) (d : Nat) (L : List Value) (st : List Value) (M : pm_M) : fr S (d + 1) (9, 344, L, st) M = match pm_ag 2 [] st with
  | some (a, r) => if r.length ≤ 4 ∧ (1 = 0 ∨ pm_obj M 3 (a.headD pm_U) = true) then (match fr S d (112, 0, a ++ [], []) M with
    | none => none
    | some (.inl v, M') => fr S (d + 1) (9, 347, L, v.toList ++ r) M'
    | some (.inr E, M') => some (.inr E, M')) else none
  | none => none := (fr_eq S (d + 1) (9, 344, L, st) M).trans (x_ocl _ _ 1 112 2 3 [] 9 347 L st M)
set_option maxRecDepth 20000 in
theorem f9_347 (S : pm_S) (d : Nat) (L : List Value) (x y : Int32) (r : List Value) (M : pm_M) : fr S (d) (9, 347, L, .int y :: .int x :: r) M = if x = y then fr S d (9, 935, L, r) M else fr S d (9, 350, L, r) M := (fr_eq S (d) (9, 347, L, .int y :: .int x :: r) M).trans (x_oc2eq _ _ 9 350 935 L r x y M)
set_option maxRecDepth 20000 in
theorem f9_350 (S : pm_S) (d : Nat) (L : List Value) (st : List Value) (M : pm_M) : fr S (d) (9, 350, L, st) M = fr S d (9, 351, L, .int 0 :: st) M := (fr_eq S (d) (9, 350, L, st) M).trans (x_ocs _ _ (.int 0) 9 351 L st M)
set_option maxRecDepth 20000 in
theorem f9_351 (S : pm_S) (d : Nat) (L : List Value) (v : Value) (M : pm_M) : fr S (d) (9, 351, L, [v]) M = if pm_fit 3 v = true then some (.inl (some v), M) else none := (fr_eq S (d) (9, 351, L, [v]) M).trans (x_ort _ _ 3 v M)
set_option maxRecDepth 20000 in
theorem f9_352 (S : pm_S) (d : Nat) (L : List Value) (st : List Value) (M : pm_M) : fr S (d) (9, 352, L, st) M = if pm_ty (L.getD 1 pm_U) = 2 then fr S d (9, 353, L, L.getD 1 pm_U :: st) M else none := (fr_eq S (d) (9, 352, L, st) M).trans (x_old _ _ 2 1 9 353 L st M)
set_option maxRecDepth 20000 in
theorem f9_353 (S : pm_S) (d : Nat) (L : List Value) (st : List Value) (M : pm_M) : fr S (d) (9, 353, L, st) M = if pm_ty (L.getD 0 pm_U) = 2 then fr S d (9, 354, L, L.getD 0 pm_U :: st) M else none := (fr_eq S (d) (9, 353, L, st) M).trans (x_old _ _ 2 0 9 354 L st M)
set_option maxRecDepth 20000 in
theorem f9_354 (S : pm_S) (d : Nat) (L : List Value) (st : List Value) (M : pm_M) : fr S (d) (9, 354, L, st) M = if pm_ty (L.getD 4 pm_U) = 0 then fr S d (9, 356, L, L.getD 4 pm_U :: st) M else none := (fr_eq S (d) (9, 354, L, st) M).trans (x_old _ _ 0 4 9 356 L st M)
set_option maxRecDepth 20000 in
theorem f9_356 (S : pm_S) (d : Nat) (L : List Value) (st : List Value) (M : pm_M) : fr S (d) (9, 356, L, st) M = fr S d (9, 357, L, .int 1 :: st) M := (fr_eq S (d) (9, 356, L, st) M).trans (x_ocs _ _ (.int 1) 9 357 L st M)
set_option maxRecDepth 20000 in
theorem f9_357 (S : pm_S) (d : Nat) (L : List Value) (x y : Int32) (r : List Value) (M : pm_M) : fr S (d) (9, 357, L, .int y :: .int x :: r) M = fr S d (9, 358, L, .int (x + y) :: r) M := (fr_eq S (d) (9, 357, L, .int y :: .int x :: r) M).trans (x_oii _ _ (fun x y => x + y) 9 358 L r x y M)
set_option maxRecDepth 20000 in
theorem f9_358 (S : pm_S) (d : Nat) (L : List Value) (i : Int32) (q : Nat) (hq : ¬ q = 1) (r : List Value) (M : pm_M) : fr S (d) (9, 358, L, .int i :: .ref q :: r) M = match (pm_get M q).bind (fun c => pm_el 0 c i) with
  | some v => fr S d (9, 359, L, v :: r) M
  | none => none := (fr_eq S (d) (9, 358, L, .int i :: .ref q :: r) M).trans (x_oal _ _ S 0 9 359 L r i q hq M)
set_option maxRecDepth 20000 in
theorem f9_359 (S : pm_S) (d : Nat) (L : List Value) (st : List Value) (M : pm_M) : fr S (d) (9, 359, L, st) M = if pm_ty (L.getD 0 pm_U) = 2 then fr S d (9, 360, L, L.getD 0 pm_U :: st) M else none := (fr_eq S (d) (9, 359, L, st) M).trans (x_old _ _ 2 0 9 360 L st M)
set_option maxRecDepth 20000 in
theorem f9_360 (S : pm_S) (d : Nat) (L : List Value) (st : List Value) (M : pm_M) : fr S (d) (9, 360, L, st) M = if pm_ty (L.getD 4 pm_U) = 0 then fr S d (9, 362, L, L.getD 4 pm_U :: st) M else none := (fr_eq S (d) (9, 360, L, st) M).trans (x_old _ _ 0 4 9 362 L st M)
set_option maxRecDepth 20000 in
theorem f9_362 (S : pm_S) (d : Nat) (L : List Value) (st : List Value) (M : pm_M) : fr S (d) (9, 362, L, st) M = fr S d (9, 363, L, .int 2 :: st) M := (fr_eq S (d) (9, 362, L, st) M).trans (x_ocs _ _ (.int 2) 9 363 L st M)
set_option maxRecDepth 20000 in
theorem f9_363 (S : pm_S) (d : Nat) (L : List Value) (x y : Int32) (r : List Value) (M : pm_M) : fr S (d) (9, 363, L, .int y :: .int x :: r) M = fr S d (9, 364, L, .int (x + y) :: r) M := (fr_eq S (d) (9, 363, L, .int y :: .int x :: r) M).trans (x_oii _ _ (fun x y => x + y) 9 364 L r x y M)
set_option maxRecDepth 20000 in
theorem f9_364 (S : pm_S) (d : Nat) (L : List Value) (i : Int32) (q : Nat) (hq : ¬ q = 1) (r : List Value) (M : pm_M) : fr S (d) (9, 364, L, .int i :: .ref q :: r) M = match (pm_get M q).bind (fun c => pm_el 0 c i) with
  | some v => fr S d (9, 365, L, v :: r) M
  | none => none := (fr_eq S (d) (9, 364, L, .int i :: .ref q :: r) M).trans (x_oal _ _ S 0 9 365 L r i q hq M)
set_option maxRecDepth 20000 in
theorem f9_365 (S : pm_S) (d : Nat) (L : List Value) (st : List Value) (M : pm_M) : fr S (d + 1) (9, 365, L, st) M = match pm_ag 3 [] st with
  | some (a, r) => if r.length ≤ 4 ∧ (1 = 0 ∨ pm_obj M 0 (a.headD pm_U) = true) then (match fr S d (14, 0, a ++ [], []) M with
    | none => none
    | some (.inl v, M') => fr S (d + 1) (9, 368, L, v.toList ++ r) M'
    | some (.inr E, M') => some (.inr E, M')) else none
  | none => none := (fr_eq S (d + 1) (9, 365, L, st) M).trans (x_ocl _ _ 1 14 3 0 [] 9 368 L st M)
set_option maxRecDepth 20000 in
theorem f9_368 (S : pm_S) (d : Nat) (L : List Value) (st : List Value) (M : pm_M) : fr S (d) (9, 368, L, st) M = if pm_ty (L.getD 2 pm_U) = 2 then fr S d (9, 369, L, L.getD 2 pm_U :: st) M else none := (fr_eq S (d) (9, 368, L, st) M).trans (x_old _ _ 2 2 9 369 L st M)
set_option maxRecDepth 20000 in
theorem f9_369 (S : pm_S) (d : Nat) (L : List Value) (st : List Value) (M : pm_M) : fr S (d) (9, 369, L, st) M = if pm_ty (L.getD 0 pm_U) = 2 then fr S d (9, 370, L, L.getD 0 pm_U :: st) M else none := (fr_eq S (d) (9, 369, L, st) M).trans (x_old _ _ 2 0 9 370 L st M)
set_option maxRecDepth 20000 in
theorem f9_370 (S : pm_S) (d : Nat) (L : List Value) (st : List Value) (M : pm_M) : fr S (d) (9, 370, L, st) M = if pm_ty (L.getD 4 pm_U) = 0 then fr S d (9, 372, L, L.getD 4 pm_U :: st) M else none := (fr_eq S (d) (9, 370, L, st) M).trans (x_old _ _ 0 4 9 372 L st M)
set_option maxRecDepth 20000 in
theorem f9_372 (S : pm_S) (d : Nat) (L : List Value) (st : List Value) (M : pm_M) : fr S (d) (9, 372, L, st) M = fr S d (9, 373, L, .int 1 :: st) M := (fr_eq S (d) (9, 372, L, st) M).trans (x_ocs _ _ (.int 1) 9 373 L st M)
set_option maxRecDepth 20000 in
theorem f9_373 (S : pm_S) (d : Nat) (L : List Value) (x y : Int32) (r : List Value) (M : pm_M) : fr S (d) (9, 373, L, .int y :: .int x :: r) M = fr S d (9, 374, L, .int (x + y) :: r) M := (fr_eq S (d) (9, 373, L, .int y :: .int x :: r) M).trans (x_oii _ _ (fun x y => x + y) 9 374 L r x y M)
set_option maxRecDepth 20000 in
theorem f9_374 (S : pm_S) (d : Nat) (L : List Value) (i : Int32) (q : Nat) (hq : ¬ q = 1) (r : List Value) (M : pm_M) : fr S (d) (9, 374, L, .int i :: .ref q :: r) M = match (pm_get M q).bind (fun c => pm_el 0 c i) with
  | some v => fr S d (9, 375, L, v :: r) M
  | none => none := (fr_eq S (d) (9, 374, L, .int i :: .ref q :: r) M).trans (x_oal _ _ S 0 9 375 L r i q hq M)
set_option maxRecDepth 20000 in
theorem f9_375 (S : pm_S) (d : Nat) (L : List Value) (st : List Value) (M : pm_M) : fr S (d) (9, 375, L, st) M = if pm_ty (L.getD 0 pm_U) = 2 then fr S d (9, 376, L, L.getD 0 pm_U :: st) M else none := (fr_eq S (d) (9, 375, L, st) M).trans (x_old _ _ 2 0 9 376 L st M)
set_option maxRecDepth 20000 in
theorem f9_376 (S : pm_S) (d : Nat) (L : List Value) (st : List Value) (M : pm_M) : fr S (d) (9, 376, L, st) M = if pm_ty (L.getD 4 pm_U) = 0 then fr S d (9, 378, L, L.getD 4 pm_U :: st) M else none := (fr_eq S (d) (9, 376, L, st) M).trans (x_old _ _ 0 4 9 378 L st M)
set_option maxRecDepth 20000 in
theorem f9_378 (S : pm_S) (d : Nat) (L : List Value) (st : List Value) (M : pm_M) : fr S (d) (9, 378, L, st) M = fr S d (9, 379, L, .int 2 :: st) M := (fr_eq S (d) (9, 378, L, st) M).trans (x_ocs _ _ (.int 2) 9 379 L st M)
set_option maxRecDepth 20000 in
theorem f9_379 (S : pm_S) (d : Nat) (L : List Value) (x y : Int32) (r : List Value) (M : pm_M) : fr S (d) (9, 379, L, .int y :: .int x :: r) M = fr S d (9, 380, L, .int (x + y) :: r) M := (fr_eq S (d) (9, 379, L, .int y :: .int x :: r) M).trans (x_oii _ _ (fun x y => x + y) 9 380 L r x y M)
set_option maxRecDepth 20000 in
theorem f9_380 (S : pm_S) (d : Nat) (L : List Value) (i : Int32) (q : Nat) (hq : ¬ q = 1) (r : List Value) (M : pm_M) : fr S (d) (9, 380, L, .int i :: .ref q :: r) M = match (pm_get M q).bind (fun c => pm_el 0 c i) with
  | some v => fr S d (9, 381, L, v :: r) M
  | none => none := (fr_eq S (d) (9, 380, L, .int i :: .ref q :: r) M).trans (x_oal _ _ S 0 9 381 L r i q hq M)
set_option maxRecDepth 20000 in
theorem f9_381 (S : pm_S) (d : Nat) (L : List Value) (st : List Value) (M : pm_M) : fr S (d + 1) (9, 381, L, st) M = match pm_ag 3 [] st with
  | some (a, r) => if r.length ≤ 4 ∧ (1 = 0 ∨ pm_obj M 3 (a.headD pm_U) = true) then (match fr S d (113, 0, a ++ [], []) M with
    | none => none
    | some (.inl v, M') => fr S (d + 1) (9, 384, L, v.toList ++ r) M'
    | some (.inr E, M') => some (.inr E, M')) else none
  | none => none := (fr_eq S (d + 1) (9, 381, L, st) M).trans (x_ocl _ _ 1 113 3 3 [] 9 384 L st M)
set_option maxRecDepth 20000 in
theorem f9_384 (S : pm_S) (d : Nat) (L : List Value) (x y : Int32) (r : List Value) (M : pm_M) : fr S (d) (9, 384, L, .int y :: .int x :: r) M = if x = y then fr S d (9, 935, L, r) M else fr S d (9, 387, L, r) M := (fr_eq S (d) (9, 384, L, .int y :: .int x :: r) M).trans (x_oc2eq _ _ 9 387 935 L r x y M)
set_option maxRecDepth 20000 in
theorem f9_387 (S : pm_S) (d : Nat) (L : List Value) (st : List Value) (M : pm_M) : fr S (d) (9, 387, L, st) M = fr S d (9, 388, L, .int 0 :: st) M := (fr_eq S (d) (9, 387, L, st) M).trans (x_ocs _ _ (.int 0) 9 388 L st M)
set_option maxRecDepth 20000 in
theorem f9_388 (S : pm_S) (d : Nat) (L : List Value) (v : Value) (M : pm_M) : fr S (d) (9, 388, L, [v]) M = if pm_fit 3 v = true then some (.inl (some v), M) else none := (fr_eq S (d) (9, 388, L, [v]) M).trans (x_ort _ _ 3 v M)
set_option maxRecDepth 20000 in
theorem f9_389 (S : pm_S) (d : Nat) (L : List Value) (st : List Value) (M : pm_M) : fr S (d) (9, 389, L, st) M = if pm_ty (L.getD 1 pm_U) = 2 then fr S d (9, 390, L, L.getD 1 pm_U :: st) M else none := (fr_eq S (d) (9, 389, L, st) M).trans (x_old _ _ 2 1 9 390 L st M)
set_option maxRecDepth 20000 in
theorem f9_390 (S : pm_S) (d : Nat) (L : List Value) (st : List Value) (M : pm_M) : fr S (d) (9, 390, L, st) M = if pm_ty (L.getD 0 pm_U) = 2 then fr S d (9, 391, L, L.getD 0 pm_U :: st) M else none := (fr_eq S (d) (9, 390, L, st) M).trans (x_old _ _ 2 0 9 391 L st M)
set_option maxRecDepth 20000 in
theorem f9_391 (S : pm_S) (d : Nat) (L : List Value) (st : List Value) (M : pm_M) : fr S (d) (9, 391, L, st) M = if pm_ty (L.getD 4 pm_U) = 0 then fr S d (9, 393, L, L.getD 4 pm_U :: st) M else none := (fr_eq S (d) (9, 391, L, st) M).trans (x_old _ _ 0 4 9 393 L st M)
set_option maxRecDepth 20000 in
theorem f9_393 (S : pm_S) (d : Nat) (L : List Value) (st : List Value) (M : pm_M) : fr S (d) (9, 393, L, st) M = fr S d (9, 394, L, .int 1 :: st) M := (fr_eq S (d) (9, 393, L, st) M).trans (x_ocs _ _ (.int 1) 9 394 L st M)
set_option maxRecDepth 20000 in
theorem f9_394 (S : pm_S) (d : Nat) (L : List Value) (x y : Int32) (r : List Value) (M : pm_M) : fr S (d) (9, 394, L, .int y :: .int x :: r) M = fr S d (9, 395, L, .int (x + y) :: r) M := (fr_eq S (d) (9, 394, L, .int y :: .int x :: r) M).trans (x_oii _ _ (fun x y => x + y) 9 395 L r x y M)
set_option maxRecDepth 20000 in
theorem f9_395 (S : pm_S) (d : Nat) (L : List Value) (i : Int32) (q : Nat) (hq : ¬ q = 1) (r : List Value) (M : pm_M) : fr S (d) (9, 395, L, .int i :: .ref q :: r) M = match (pm_get M q).bind (fun c => pm_el 0 c i) with
  | some v => fr S d (9, 396, L, v :: r) M
  | none => none := (fr_eq S (d) (9, 395, L, .int i :: .ref q :: r) M).trans (x_oal _ _ S 0 9 396 L r i q hq M)
set_option maxRecDepth 20000 in
theorem f9_396 (S : pm_S) (d : Nat) (L : List Value) (st : List Value) (M : pm_M) : fr S (d) (9, 396, L, st) M = if pm_ty (L.getD 0 pm_U) = 2 then fr S d (9, 397, L, L.getD 0 pm_U :: st) M else none := (fr_eq S (d) (9, 396, L, st) M).trans (x_old _ _ 2 0 9 397 L st M)
set_option maxRecDepth 20000 in
theorem f9_397 (S : pm_S) (d : Nat) (L : List Value) (st : List Value) (M : pm_M) : fr S (d) (9, 397, L, st) M = if pm_ty (L.getD 4 pm_U) = 0 then fr S d (9, 399, L, L.getD 4 pm_U :: st) M else none := (fr_eq S (d) (9, 397, L, st) M).trans (x_old _ _ 0 4 9 399 L st M)
set_option maxRecDepth 20000 in
theorem f9_399 (S : pm_S) (d : Nat) (L : List Value) (st : List Value) (M : pm_M) : fr S (d) (9, 399, L, st) M = fr S d (9, 400, L, .int 2 :: st) M := (fr_eq S (d) (9, 399, L, st) M).trans (x_ocs _ _ (.int 2) 9 400 L st M)
set_option maxRecDepth 20000 in
theorem f9_400 (S : pm_S) (d : Nat) (L : List Value) (x y : Int32) (r : List Value) (M : pm_M) : fr S (d) (9, 400, L, .int y :: .int x :: r) M = fr S d (9, 401, L, .int (x + y) :: r) M := (fr_eq S (d) (9, 400, L, .int y :: .int x :: r) M).trans (x_oii _ _ (fun x y => x + y) 9 401 L r x y M)
set_option maxRecDepth 20000 in
theorem f9_401 (S : pm_S) (d : Nat) (L : List Value) (i : Int32) (q : Nat) (hq : ¬ q = 1) (r : List Value) (M : pm_M) : fr S (d) (9, 401, L, .int i :: .ref q :: r) M = match (pm_get M q).bind (fun c => pm_el 0 c i) with
  | some v => fr S d (9, 402, L, v :: r) M
  | none => none := (fr_eq S (d) (9, 401, L, .int i :: .ref q :: r) M).trans (x_oal _ _ S 0 9 402 L r i q hq M)
set_option maxRecDepth 20000 in
theorem f9_402 (S : pm_S) (d : Nat) (L : List Value) (st : List Value) (M : pm_M) : fr S (d) (9, 402, L, st) M = if pm_ty (L.getD 0 pm_U) = 2 then fr S d (9, 403, L, L.getD 0 pm_U :: st) M else none := (fr_eq S (d) (9, 402, L, st) M).trans (x_old _ _ 2 0 9 403 L st M)
set_option maxRecDepth 20000 in
theorem f9_403 (S : pm_S) (d : Nat) (L : List Value) (st : List Value) (M : pm_M) : fr S (d) (9, 403, L, st) M = if pm_ty (L.getD 4 pm_U) = 0 then fr S d (9, 405, L, L.getD 4 pm_U :: st) M else none := (fr_eq S (d) (9, 403, L, st) M).trans (x_old _ _ 0 4 9 405 L st M)
set_option maxRecDepth 20000 in
theorem f9_405 (S : pm_S) (d : Nat) (L : List Value) (st : List Value) (M : pm_M) : fr S (d) (9, 405, L, st) M = fr S d (9, 406, L, .int 3 :: st) M := (fr_eq S (d) (9, 405, L, st) M).trans (x_ocs _ _ (.int 3) 9 406 L st M)
set_option maxRecDepth 20000 in
theorem f9_406 (S : pm_S) (d : Nat) (L : List Value) (x y : Int32) (r : List Value) (M : pm_M) : fr S (d) (9, 406, L, .int y :: .int x :: r) M = fr S d (9, 407, L, .int (x + y) :: r) M := (fr_eq S (d) (9, 406, L, .int y :: .int x :: r) M).trans (x_oii _ _ (fun x y => x + y) 9 407 L r x y M)
set_option maxRecDepth 20000 in
theorem f9_407 (S : pm_S) (d : Nat) (L : List Value) (i : Int32) (q : Nat) (hq : ¬ q = 1) (r : List Value) (M : pm_M) : fr S (d) (9, 407, L, .int i :: .ref q :: r) M = match (pm_get M q).bind (fun c => pm_el 0 c i) with
  | some v => fr S d (9, 408, L, v :: r) M
  | none => none := (fr_eq S (d) (9, 407, L, .int i :: .ref q :: r) M).trans (x_oal _ _ S 0 9 408 L r i q hq M)
set_option maxRecDepth 20000 in
theorem f9_408 (S : pm_S) (d : Nat) (L : List Value) (st : List Value) (M : pm_M) : fr S (d) (9, 408, L, st) M = if pm_ty (L.getD 0 pm_U) = 2 then fr S d (9, 409, L, L.getD 0 pm_U :: st) M else none := (fr_eq S (d) (9, 408, L, st) M).trans (x_old _ _ 2 0 9 409 L st M)
set_option maxRecDepth 20000 in
theorem f9_409 (S : pm_S) (d : Nat) (L : List Value) (st : List Value) (M : pm_M) : fr S (d) (9, 409, L, st) M = if pm_ty (L.getD 4 pm_U) = 0 then fr S d (9, 411, L, L.getD 4 pm_U :: st) M else none := (fr_eq S (d) (9, 409, L, st) M).trans (x_old _ _ 0 4 9 411 L st M)
set_option maxRecDepth 20000 in
theorem f9_411 (S : pm_S) (d : Nat) (L : List Value) (st : List Value) (M : pm_M) : fr S (d) (9, 411, L, st) M = fr S d (9, 412, L, .int 4 :: st) M := (fr_eq S (d) (9, 411, L, st) M).trans (x_ocs _ _ (.int 4) 9 412 L st M)
set_option maxRecDepth 20000 in
theorem f9_412 (S : pm_S) (d : Nat) (L : List Value) (x y : Int32) (r : List Value) (M : pm_M) : fr S (d) (9, 412, L, .int y :: .int x :: r) M = fr S d (9, 413, L, .int (x + y) :: r) M := (fr_eq S (d) (9, 412, L, .int y :: .int x :: r) M).trans (x_oii _ _ (fun x y => x + y) 9 413 L r x y M)
set_option maxRecDepth 20000 in
theorem f9_413 (S : pm_S) (d : Nat) (L : List Value) (i : Int32) (q : Nat) (hq : ¬ q = 1) (r : List Value) (M : pm_M) : fr S (d) (9, 413, L, .int i :: .ref q :: r) M = match (pm_get M q).bind (fun c => pm_el 0 c i) with
  | some v => fr S d (9, 414, L, v :: r) M
  | none => none := (fr_eq S (d) (9, 413, L, .int i :: .ref q :: r) M).trans (x_oal _ _ S 0 9 414 L r i q hq M)
set_option maxRecDepth 20000 in
theorem f9_414 (S : pm_S) (d : Nat) (L : List Value) (x : Int32) (r : List Value) (M : pm_M) : fr S (d) (9, 414, L, .int x :: r) M = if x = 0 then fr S d (9, 421, L, r) M else fr S d (9, 417, L, r) M := (fr_eq S (d) (9, 414, L, .int x :: r) M).trans (x_oc1eq _ _ 9 417 421 L r x M)
set_option maxRecDepth 20000 in
theorem f9_417 (S : pm_S) (d : Nat) (L : List Value) (st : List Value) (M : pm_M) : fr S (d) (9, 417, L, st) M = fr S d (9, 418, L, .int 1 :: st) M := (fr_eq S (d) (9, 417, L, st) M).trans (x_ocs _ _ (.int 1) 9 418 L st M)
set_option maxRecDepth 20000 in
theorem f9_418 (S : pm_S) (d : Nat) (L : List Value) (st : List Value) (M : pm_M) : fr S (d) (9, 418, L, st) M = fr S d (9, 422, L, st) M := (fr_eq S (d) (9, 418, L, st) M).trans (x_ogo _ _ 9 422 L st M)
set_option maxRecDepth 20000 in
theorem f9_421 (S : pm_S) (d : Nat) (L : List Value) (st : List Value) (M : pm_M) : fr S (d) (9, 421, L, st) M = fr S d (9, 422, L, .int 0 :: st) M := (fr_eq S (d) (9, 421, L, st) M).trans (x_ocs _ _ (.int 0) 9 422 L st M)
set_option maxRecDepth 20000 in
theorem f9_422 (S : pm_S) (d : Nat) (L : List Value) (st : List Value) (M : pm_M) : fr S (d) (9, 422, L, st) M = if pm_ty (L.getD 3 pm_U) = 2 then fr S d (9, 423, L, L.getD 3 pm_U :: st) M else none := (fr_eq S (d) (9, 422, L, st) M).trans (x_old _ _ 2 3 9 423 L st M)
set_option maxRecDepth 20000 in
theorem f9_423 (S : pm_S) (d : Nat) (L : List Value) (st : List Value) (M : pm_M) : fr S (d + 1) (9, 423, L, st) M = match pm_ag 6 [] st with
  | some (a, r) => if r.length ≤ 4 ∧ (0 = 0 ∨ pm_obj M 4 (a.headD pm_U) = true) then (match fr S d (3, 0, a ++ [pm_U], []) M with
    | none => none
    | some (.inl v, M') => fr S (d + 1) (9, 426, L, v.toList ++ r) M'
    | some (.inr E, M') => some (.inr E, M')) else none
  | none => none := (fr_eq S (d + 1) (9, 423, L, st) M).trans (x_ocl _ _ 0 3 6 4 [pm_U] 9 426 L st M)
set_option maxRecDepth 20000 in
theorem f9_426 (S : pm_S) (d : Nat) (L : List Value) (v : Value) (r : List Value) (M : pm_M) : fr S (d) (9, 426, L, v :: r) M = if pm_ty v = 0 ∧ 5 < L.length ∧ ¬ pm_ty (L.getD (5 - 1) pm_U) = 1 then fr S d (9, 428, L.set 5 v, r) M else none := (fr_eq S (d) (9, 426, L, v :: r) M).trans (x_ost _ _ 0 5 9 428 L r v M)
set_option maxRecDepth 20000 in
theorem f9_428 (S : pm_S) (d : Nat) (L : List Value) (st : List Value) (M : pm_M) : fr S (d) (9, 428, L, st) M = if pm_ty (L.getD 2 pm_U) = 2 then fr S d (9, 429, L, L.getD 2 pm_U :: st) M else none := (fr_eq S (d) (9, 428, L, st) M).trans (x_old _ _ 2 2 9 429 L st M)
set_option maxRecDepth 20000 in
theorem f9_429 (S : pm_S) (d : Nat) (L : List Value) (st : List Value) (M : pm_M) : fr S (d) (9, 429, L, st) M = if pm_ty (L.getD 0 pm_U) = 2 then fr S d (9, 430, L, L.getD 0 pm_U :: st) M else none := (fr_eq S (d) (9, 429, L, st) M).trans (x_old _ _ 2 0 9 430 L st M)
set_option maxRecDepth 20000 in
theorem f9_430 (S : pm_S) (d : Nat) (L : List Value) (st : List Value) (M : pm_M) : fr S (d) (9, 430, L, st) M = if pm_ty (L.getD 4 pm_U) = 0 then fr S d (9, 432, L, L.getD 4 pm_U :: st) M else none := (fr_eq S (d) (9, 430, L, st) M).trans (x_old _ _ 0 4 9 432 L st M)
set_option maxRecDepth 20000 in
theorem f9_432 (S : pm_S) (d : Nat) (L : List Value) (st : List Value) (M : pm_M) : fr S (d) (9, 432, L, st) M = fr S d (9, 433, L, .int 1 :: st) M := (fr_eq S (d) (9, 432, L, st) M).trans (x_ocs _ _ (.int 1) 9 433 L st M)
set_option maxRecDepth 20000 in
theorem f9_433 (S : pm_S) (d : Nat) (L : List Value) (x y : Int32) (r : List Value) (M : pm_M) : fr S (d) (9, 433, L, .int y :: .int x :: r) M = fr S d (9, 434, L, .int (x + y) :: r) M := (fr_eq S (d) (9, 433, L, .int y :: .int x :: r) M).trans (x_oii _ _ (fun x y => x + y) 9 434 L r x y M)
set_option maxRecDepth 20000 in
theorem f9_434 (S : pm_S) (d : Nat) (L : List Value) (i : Int32) (q : Nat) (hq : ¬ q = 1) (r : List Value) (M : pm_M) : fr S (d) (9, 434, L, .int i :: .ref q :: r) M = match (pm_get M q).bind (fun c => pm_el 0 c i) with
  | some v => fr S d (9, 435, L, v :: r) M
  | none => none := (fr_eq S (d) (9, 434, L, .int i :: .ref q :: r) M).trans (x_oal _ _ S 0 9 435 L r i q hq M)
set_option maxRecDepth 20000 in
theorem f9_435 (S : pm_S) (d : Nat) (L : List Value) (st : List Value) (M : pm_M) : fr S (d) (9, 435, L, st) M = if pm_ty (L.getD 0 pm_U) = 2 then fr S d (9, 436, L, L.getD 0 pm_U :: st) M else none := (fr_eq S (d) (9, 435, L, st) M).trans (x_old _ _ 2 0 9 436 L st M)
set_option maxRecDepth 20000 in
theorem f9_436 (S : pm_S) (d : Nat) (L : List Value) (st : List Value) (M : pm_M) : fr S (d) (9, 436, L, st) M = if pm_ty (L.getD 4 pm_U) = 0 then fr S d (9, 438, L, L.getD 4 pm_U :: st) M else none := (fr_eq S (d) (9, 436, L, st) M).trans (x_old _ _ 0 4 9 438 L st M)
set_option maxRecDepth 20000 in
theorem f9_438 (S : pm_S) (d : Nat) (L : List Value) (st : List Value) (M : pm_M) : fr S (d) (9, 438, L, st) M = fr S d (9, 439, L, .int 2 :: st) M := (fr_eq S (d) (9, 438, L, st) M).trans (x_ocs _ _ (.int 2) 9 439 L st M)
set_option maxRecDepth 20000 in
theorem f9_439 (S : pm_S) (d : Nat) (L : List Value) (x y : Int32) (r : List Value) (M : pm_M) : fr S (d) (9, 439, L, .int y :: .int x :: r) M = fr S d (9, 440, L, .int (x + y) :: r) M := (fr_eq S (d) (9, 439, L, .int y :: .int x :: r) M).trans (x_oii _ _ (fun x y => x + y) 9 440 L r x y M)
set_option maxRecDepth 20000 in
theorem f9_440 (S : pm_S) (d : Nat) (L : List Value) (i : Int32) (q : Nat) (hq : ¬ q = 1) (r : List Value) (M : pm_M) : fr S (d) (9, 440, L, .int i :: .ref q :: r) M = match (pm_get M q).bind (fun c => pm_el 0 c i) with
  | some v => fr S d (9, 441, L, v :: r) M
  | none => none := (fr_eq S (d) (9, 440, L, .int i :: .ref q :: r) M).trans (x_oal _ _ S 0 9 441 L r i q hq M)
set_option maxRecDepth 20000 in
theorem f9_441 (S : pm_S) (d : Nat) (L : List Value) (st : List Value) (M : pm_M) : fr S (d) (9, 441, L, st) M = if pm_ty (L.getD 0 pm_U) = 2 then fr S d (9, 442, L, L.getD 0 pm_U :: st) M else none := (fr_eq S (d) (9, 441, L, st) M).trans (x_old _ _ 2 0 9 442 L st M)
set_option maxRecDepth 20000 in
theorem f9_442 (S : pm_S) (d : Nat) (L : List Value) (st : List Value) (M : pm_M) : fr S (d) (9, 442, L, st) M = if pm_ty (L.getD 4 pm_U) = 0 then fr S d (9, 444, L, L.getD 4 pm_U :: st) M else none := (fr_eq S (d) (9, 442, L, st) M).trans (x_old _ _ 0 4 9 444 L st M)
set_option maxRecDepth 20000 in
theorem f9_444 (S : pm_S) (d : Nat) (L : List Value) (st : List Value) (M : pm_M) : fr S (d) (9, 444, L, st) M = fr S d (9, 445, L, .int 3 :: st) M := (fr_eq S (d) (9, 444, L, st) M).trans (x_ocs _ _ (.int 3) 9 445 L st M)
set_option maxRecDepth 20000 in
theorem f9_445 (S : pm_S) (d : Nat) (L : List Value) (x y : Int32) (r : List Value) (M : pm_M) : fr S (d) (9, 445, L, .int y :: .int x :: r) M = fr S d (9, 446, L, .int (x + y) :: r) M := (fr_eq S (d) (9, 445, L, .int y :: .int x :: r) M).trans (x_oii _ _ (fun x y => x + y) 9 446 L r x y M)
set_option maxRecDepth 20000 in
theorem f9_446 (S : pm_S) (d : Nat) (L : List Value) (i : Int32) (q : Nat) (hq : ¬ q = 1) (r : List Value) (M : pm_M) : fr S (d) (9, 446, L, .int i :: .ref q :: r) M = match (pm_get M q).bind (fun c => pm_el 0 c i) with
  | some v => fr S d (9, 447, L, v :: r) M
  | none => none := (fr_eq S (d) (9, 446, L, .int i :: .ref q :: r) M).trans (x_oal _ _ S 0 9 447 L r i q hq M)
set_option maxRecDepth 20000 in
theorem f9_447 (S : pm_S) (d : Nat) (L : List Value) (st : List Value) (M : pm_M) : fr S (d) (9, 447, L, st) M = if pm_ty (L.getD 0 pm_U) = 2 then fr S d (9, 448, L, L.getD 0 pm_U :: st) M else none := (fr_eq S (d) (9, 447, L, st) M).trans (x_old _ _ 2 0 9 448 L st M)
set_option maxRecDepth 20000 in
theorem f9_448 (S : pm_S) (d : Nat) (L : List Value) (st : List Value) (M : pm_M) : fr S (d) (9, 448, L, st) M = if pm_ty (L.getD 4 pm_U) = 0 then fr S d (9, 450, L, L.getD 4 pm_U :: st) M else none := (fr_eq S (d) (9, 448, L, st) M).trans (x_old _ _ 0 4 9 450 L st M)
set_option maxRecDepth 20000 in
theorem f9_450 (S : pm_S) (d : Nat) (L : List Value) (st : List Value) (M : pm_M) : fr S (d) (9, 450, L, st) M = fr S d (9, 451, L, .int 4 :: st) M := (fr_eq S (d) (9, 450, L, st) M).trans (x_ocs _ _ (.int 4) 9 451 L st M)
set_option maxRecDepth 20000 in
theorem f9_451 (S : pm_S) (d : Nat) (L : List Value) (x y : Int32) (r : List Value) (M : pm_M) : fr S (d) (9, 451, L, .int y :: .int x :: r) M = fr S d (9, 452, L, .int (x + y) :: r) M := (fr_eq S (d) (9, 451, L, .int y :: .int x :: r) M).trans (x_oii _ _ (fun x y => x + y) 9 452 L r x y M)
set_option maxRecDepth 20000 in
theorem f9_452 (S : pm_S) (d : Nat) (L : List Value) (i : Int32) (q : Nat) (hq : ¬ q = 1) (r : List Value) (M : pm_M) : fr S (d) (9, 452, L, .int i :: .ref q :: r) M = match (pm_get M q).bind (fun c => pm_el 0 c i) with
  | some v => fr S d (9, 453, L, v :: r) M
  | none => none := (fr_eq S (d) (9, 452, L, .int i :: .ref q :: r) M).trans (x_oal _ _ S 0 9 453 L r i q hq M)
set_option maxRecDepth 20000 in
theorem f9_453 (S : pm_S) (d : Nat) (L : List Value) (x : Int32) (r : List Value) (M : pm_M) : fr S (d) (9, 453, L, .int x :: r) M = if x = 0 then fr S d (9, 460, L, r) M else fr S d (9, 456, L, r) M := (fr_eq S (d) (9, 453, L, .int x :: r) M).trans (x_oc1eq _ _ 9 456 460 L r x M)
set_option maxRecDepth 20000 in
theorem f9_456 (S : pm_S) (d : Nat) (L : List Value) (st : List Value) (M : pm_M) : fr S (d) (9, 456, L, st) M = fr S d (9, 457, L, .int 1 :: st) M := (fr_eq S (d) (9, 456, L, st) M).trans (x_ocs _ _ (.int 1) 9 457 L st M)
set_option maxRecDepth 20000 in
theorem f9_457 (S : pm_S) (d : Nat) (L : List Value) (st : List Value) (M : pm_M) : fr S (d) (9, 457, L, st) M = fr S d (9, 461, L, st) M := (fr_eq S (d) (9, 457, L, st) M).trans (x_ogo _ _ 9 461 L st M)
set_option maxRecDepth 20000 in
theorem f9_460 (S : pm_S) (d : Nat) (L : List Value) (st : List Value) (M : pm_M) : fr S (d) (9, 460, L, st) M = fr S d (9, 461, L, .int 0 :: st) M := (fr_eq S (d) (9, 460, L, st) M).trans (x_ocs _ _ (.int 0) 9 461 L st M)
set_option maxRecDepth 20000 in
theorem f9_461 (S : pm_S) (d : Nat) (L : List Value) (st : List Value) (M : pm_M) : fr S (d + 1) (9, 461, L, st) M = match pm_ag 5 [] st with
  | some (a, r) => if r.length ≤ 4 ∧ (1 = 0 ∨ pm_obj M 3 (a.headD pm_U) = true) then (match fr S d (114, 0, a ++ [], []) M with
    | none => none
    | some (.inl v, M') => fr S (d + 1) (9, 464, L, v.toList ++ r) M'
    | some (.inr E, M') => some (.inr E, M')) else none
  | none => none := (fr_eq S (d + 1) (9, 461, L, st) M).trans (x_ocl _ _ 1 114 5 3 [] 9 464 L st M)
set_option maxRecDepth 20000 in
theorem f9_464 (S : pm_S) (d : Nat) (L : List Value) (v : Value) (r : List Value) (M : pm_M) : fr S (d) (9, 464, L, v :: r) M = if pm_ty v = 0 ∧ 6 < L.length ∧ ¬ pm_ty (L.getD (6 - 1) pm_U) = 1 then fr S d (9, 466, L.set 6 v, r) M else none := (fr_eq S (d) (9, 464, L, v :: r) M).trans (x_ost _ _ 0 6 9 466 L r v M)
set_option maxRecDepth 20000 in
theorem f9_466 (S : pm_S) (d : Nat) (L : List Value) (st : List Value) (M : pm_M) : fr S (d) (9, 466, L, st) M = if pm_ty (L.getD 2 pm_U) = 2 then fr S d (9, 467, L, L.getD 2 pm_U :: st) M else none := (fr_eq S (d) (9, 466, L, st) M).trans (x_old _ _ 2 2 9 467 L st M)
set_option maxRecDepth 20000 in
theorem f9_467 (S : pm_S) (d : Nat) (L : List Value) (st : List Value) (M : pm_M) : fr S (d + 1) (9, 467, L, st) M = match pm_ag 1 [] st with
  | some (a, r) => if r.length ≤ 4 ∧ (1 = 0 ∨ pm_obj M 3 (a.headD pm_U) = true) then (match fr S d (102, 0, a ++ [], []) M with
    | none => none
    | some (.inl v, M') => fr S (d + 1) (9, 470, L, v.toList ++ r) M'
    | some (.inr E, M') => some (.inr E, M')) else none
  | none => none := (fr_eq S (d + 1) (9, 467, L, st) M).trans (x_ocl _ _ 1 102 1 3 [] 9 470 L st M)
set_option maxRecDepth 20000 in
theorem f9_470 (S : pm_S) (d : Nat) (L : List Value) (st : List Value) (M : pm_M) : fr S (d) (9, 470, L, st) M = if pm_ty (L.getD 5 pm_U) = 0 then fr S d (9, 472, L, L.getD 5 pm_U :: st) M else none := (fr_eq S (d) (9, 470, L, st) M).trans (x_old _ _ 0 5 9 472 L st M)
set_option maxRecDepth 20000 in
theorem f9_472 (S : pm_S) (d : Nat) (L : List Value) (x y : Int32) (r : List Value) (M : pm_M) : fr S (d) (9, 472, L, .int y :: .int x :: r) M = if x = y then fr S d (9, 477, L, r) M else fr S d (9, 475, L, r) M := (fr_eq S (d) (9, 472, L, .int y :: .int x :: r) M).trans (x_oc2eq _ _ 9 475 477 L r x y M)
set_option maxRecDepth 20000 in
theorem f9_475 (S : pm_S) (d : Nat) (L : List Value) (st : List Value) (M : pm_M) : fr S (d) (9, 475, L, st) M = fr S d (9, 476, L, .int 0 :: st) M := (fr_eq S (d) (9, 475, L, st) M).trans (x_ocs _ _ (.int 0) 9 476 L st M)
set_option maxRecDepth 20000 in
theorem f9_476 (S : pm_S) (d : Nat) (L : List Value) (v : Value) (M : pm_M) : fr S (d) (9, 476, L, [v]) M = if pm_fit 3 v = true then some (.inl (some v), M) else none := (fr_eq S (d) (9, 476, L, [v]) M).trans (x_ort _ _ 3 v M)
set_option maxRecDepth 20000 in
theorem f9_477 (S : pm_S) (d : Nat) (L : List Value) (st : List Value) (M : pm_M) : fr S (d) (9, 477, L, st) M = if pm_ty (L.getD 5 pm_U) = 0 then fr S d (9, 479, L, L.getD 5 pm_U :: st) M else none := (fr_eq S (d) (9, 477, L, st) M).trans (x_old _ _ 0 5 9 479 L st M)
set_option maxRecDepth 20000 in
theorem f9_479 (S : pm_S) (d : Nat) (L : List Value) (x : Int32) (r : List Value) (M : pm_M) : fr S (d) (9, 479, L, .int x :: r) M = if ¬ x = 0 then fr S d (9, 501, L, r) M else fr S d (9, 482, L, r) M := (fr_eq S (d) (9, 479, L, .int x :: r) M).trans (x_oc1ne _ _ 9 482 501 L r x M)
set_option maxRecDepth 20000 in
theorem f9_482 (S : pm_S) (d : Nat) (L : List Value) (st : List Value) (M : pm_M) : fr S (d) (9, 482, L, st) M = if pm_ty (L.getD 3 pm_U) = 2 then fr S d (9, 483, L, L.getD 3 pm_U :: st) M else none := (fr_eq S (d) (9, 482, L, st) M).trans (x_old _ _ 2 3 9 483 L st M)
set_option maxRecDepth 20000 in
theorem f9_483 (S : pm_S) (d : Nat) (L : List Value) (st : List Value) (M : pm_M) : fr S (d) (9, 483, L, st) M = fr S d (9, 484, L, .int 0 :: st) M := (fr_eq S (d) (9, 483, L, st) M).trans (x_ocs _ _ (.int 0) 9 484 L st M)
set_option maxRecDepth 20000 in
theorem f9_484 (S : pm_S) (d : Nat) (L : List Value) (i : Int32) (q : Nat) (hq : ¬ q = 1) (r : List Value) (M : pm_M) : fr S (d) (9, 484, L, .int i :: .ref q :: r) M = match (pm_get M q).bind (fun c => pm_el 2 c i) with
  | some v => fr S d (9, 485, L, v :: r) M
  | none => none := (fr_eq S (d) (9, 484, L, .int i :: .ref q :: r) M).trans (x_oal _ _ S 2 9 485 L r i q hq M)
set_option maxRecDepth 20000 in
theorem f9_485 (S : pm_S) (d : Nat) (L : List Value) (st : List Value) (M : pm_M) : fr S (d) (9, 485, L, st) M = if pm_ty (L.getD 6 pm_U) = 0 then fr S d (9, 487, L, L.getD 6 pm_U :: st) M else none := (fr_eq S (d) (9, 485, L, st) M).trans (x_old _ _ 0 6 9 487 L st M)
set_option maxRecDepth 20000 in
theorem f9_487 (S : pm_S) (d : Nat) (L : List Value) (x : Int32) (r : List Value) (M : pm_M) : fr S (d) (9, 487, L, .int x :: r) M = if x = 0 then fr S d (9, 494, L, r) M else fr S d (9, 490, L, r) M := (fr_eq S (d) (9, 487, L, .int x :: r) M).trans (x_oc1eq _ _ 9 490 494 L r x M)
set_option maxRecDepth 20000 in
theorem f9_490 (S : pm_S) (d : Nat) (L : List Value) (st : List Value) (M : pm_M) : fr S (d) (9, 490, L, st) M = fr S d (9, 491, L, .long 1 :: st) M := (fr_eq S (d) (9, 490, L, st) M).trans (x_ocs _ _ (.long 1) 9 491 L st M)
set_option maxRecDepth 20000 in
theorem f9_491 (S : pm_S) (d : Nat) (L : List Value) (st : List Value) (M : pm_M) : fr S (d) (9, 491, L, st) M = fr S d (9, 495, L, st) M := (fr_eq S (d) (9, 491, L, st) M).trans (x_ogo _ _ 9 495 L st M)
set_option maxRecDepth 20000 in
theorem f9_494 (S : pm_S) (d : Nat) (L : List Value) (st : List Value) (M : pm_M) : fr S (d) (9, 494, L, st) M = fr S d (9, 495, L, .long 0 :: st) M := (fr_eq S (d) (9, 494, L, st) M).trans (x_ocs _ _ (.long 0) 9 495 L st M)
set_option maxRecDepth 20000 in
theorem f9_495 (S : pm_S) (d : Nat) (L : List Value) (x y : Int64) (r : List Value) (M : pm_M) : fr S (d) (9, 495, L, .long y :: .long x :: r) M = fr S d (9, 496, L, .int (if y < x then 1 else if x = y then 0 else -1) :: r) M := (fr_eq S (d) (9, 495, L, .long y :: .long x :: r) M).trans (x_oll _ _ (fun x y => .int (if y < x then 1 else if x = y then 0 else -1)) 9 496 L r x y M)
set_option maxRecDepth 20000 in
theorem f9_496 (S : pm_S) (d : Nat) (L : List Value) (x : Int32) (r : List Value) (M : pm_M) : fr S (d) (9, 496, L, .int x :: r) M = if x = 0 then fr S d (9, 501, L, r) M else fr S d (9, 499, L, r) M := (fr_eq S (d) (9, 496, L, .int x :: r) M).trans (x_oc1eq _ _ 9 499 501 L r x M)
set_option maxRecDepth 20000 in
theorem f9_499 (S : pm_S) (d : Nat) (L : List Value) (st : List Value) (M : pm_M) : fr S (d) (9, 499, L, st) M = fr S d (9, 500, L, .int 0 :: st) M := (fr_eq S (d) (9, 499, L, st) M).trans (x_ocs _ _ (.int 0) 9 500 L st M)
set_option maxRecDepth 20000 in
theorem f9_500 (S : pm_S) (d : Nat) (L : List Value) (v : Value) (M : pm_M) : fr S (d) (9, 500, L, [v]) M = if pm_fit 3 v = true then some (.inl (some v), M) else none := (fr_eq S (d) (9, 500, L, [v]) M).trans (x_ort _ _ 3 v M)
set_option maxRecDepth 20000 in
theorem f9_501 (S : pm_S) (d : Nat) (L : List Value) (st : List Value) (M : pm_M) : fr S (d) (9, 501, L, st) M = fr S d (9, 935, L, st) M := (fr_eq S (d) (9, 501, L, st) M).trans (x_ogo _ _ 9 935 L st M)
set_option maxRecDepth 20000 in
theorem f9_504 (S : pm_S) (d : Nat) (L : List Value) (st : List Value) (M : pm_M) : fr S (d) (9, 504, L, st) M = if pm_ty (L.getD 1 pm_U) = 2 then fr S d (9, 505, L, L.getD 1 pm_U :: st) M else none := (fr_eq S (d) (9, 504, L, st) M).trans (x_old _ _ 2 1 9 505 L st M)
set_option maxRecDepth 20000 in
theorem f9_505 (S : pm_S) (d : Nat) (L : List Value) (st : List Value) (M : pm_M) : fr S (d) (9, 505, L, st) M = if pm_ty (L.getD 0 pm_U) = 2 then fr S d (9, 506, L, L.getD 0 pm_U :: st) M else none := (fr_eq S (d) (9, 505, L, st) M).trans (x_old _ _ 2 0 9 506 L st M)
set_option maxRecDepth 20000 in
theorem f9_506 (S : pm_S) (d : Nat) (L : List Value) (st : List Value) (M : pm_M) : fr S (d) (9, 506, L, st) M = if pm_ty (L.getD 4 pm_U) = 0 then fr S d (9, 508, L, L.getD 4 pm_U :: st) M else none := (fr_eq S (d) (9, 506, L, st) M).trans (x_old _ _ 0 4 9 508 L st M)
set_option maxRecDepth 20000 in
theorem f9_508 (S : pm_S) (d : Nat) (L : List Value) (st : List Value) (M : pm_M) : fr S (d) (9, 508, L, st) M = fr S d (9, 509, L, .int 1 :: st) M := (fr_eq S (d) (9, 508, L, st) M).trans (x_ocs _ _ (.int 1) 9 509 L st M)
set_option maxRecDepth 20000 in
theorem f9_509 (S : pm_S) (d : Nat) (L : List Value) (x y : Int32) (r : List Value) (M : pm_M) : fr S (d) (9, 509, L, .int y :: .int x :: r) M = fr S d (9, 510, L, .int (x + y) :: r) M := (fr_eq S (d) (9, 509, L, .int y :: .int x :: r) M).trans (x_oii _ _ (fun x y => x + y) 9 510 L r x y M)
set_option maxRecDepth 20000 in
theorem f9_510 (S : pm_S) (d : Nat) (L : List Value) (i : Int32) (q : Nat) (hq : ¬ q = 1) (r : List Value) (M : pm_M) : fr S (d) (9, 510, L, .int i :: .ref q :: r) M = match (pm_get M q).bind (fun c => pm_el 0 c i) with
  | some v => fr S d (9, 511, L, v :: r) M
  | none => none := (fr_eq S (d) (9, 510, L, .int i :: .ref q :: r) M).trans (x_oal _ _ S 0 9 511 L r i q hq M)
set_option maxRecDepth 20000 in
theorem f9_511 (S : pm_S) (d : Nat) (L : List Value) (st : List Value) (M : pm_M) : fr S (d) (9, 511, L, st) M = if pm_ty (L.getD 0 pm_U) = 2 then fr S d (9, 512, L, L.getD 0 pm_U :: st) M else none := (fr_eq S (d) (9, 511, L, st) M).trans (x_old _ _ 2 0 9 512 L st M)
set_option maxRecDepth 20000 in
theorem f9_512 (S : pm_S) (d : Nat) (L : List Value) (st : List Value) (M : pm_M) : fr S (d) (9, 512, L, st) M = if pm_ty (L.getD 4 pm_U) = 0 then fr S d (9, 514, L, L.getD 4 pm_U :: st) M else none := (fr_eq S (d) (9, 512, L, st) M).trans (x_old _ _ 0 4 9 514 L st M)
set_option maxRecDepth 20000 in
theorem f9_514 (S : pm_S) (d : Nat) (L : List Value) (st : List Value) (M : pm_M) : fr S (d) (9, 514, L, st) M = fr S d (9, 515, L, .int 2 :: st) M := (fr_eq S (d) (9, 514, L, st) M).trans (x_ocs _ _ (.int 2) 9 515 L st M)
set_option maxRecDepth 20000 in
theorem f9_515 (S : pm_S) (d : Nat) (L : List Value) (x y : Int32) (r : List Value) (M : pm_M) : fr S (d) (9, 515, L, .int y :: .int x :: r) M = fr S d (9, 516, L, .int (x + y) :: r) M := (fr_eq S (d) (9, 515, L, .int y :: .int x :: r) M).trans (x_oii _ _ (fun x y => x + y) 9 516 L r x y M)
set_option maxRecDepth 20000 in
theorem f9_516 (S : pm_S) (d : Nat) (L : List Value) (i : Int32) (q : Nat) (hq : ¬ q = 1) (r : List Value) (M : pm_M) : fr S (d) (9, 516, L, .int i :: .ref q :: r) M = match (pm_get M q).bind (fun c => pm_el 0 c i) with
  | some v => fr S d (9, 517, L, v :: r) M
  | none => none := (fr_eq S (d) (9, 516, L, .int i :: .ref q :: r) M).trans (x_oal _ _ S 0 9 517 L r i q hq M)
set_option maxRecDepth 20000 in
theorem f9_517 (S : pm_S) (d : Nat) (L : List Value) (st : List Value) (M : pm_M) : fr S (d) (9, 517, L, st) M = if pm_ty (L.getD 0 pm_U) = 2 then fr S d (9, 518, L, L.getD 0 pm_U :: st) M else none := (fr_eq S (d) (9, 517, L, st) M).trans (x_old _ _ 2 0 9 518 L st M)
set_option maxRecDepth 20000 in
theorem f9_518 (S : pm_S) (d : Nat) (L : List Value) (st : List Value) (M : pm_M) : fr S (d) (9, 518, L, st) M = if pm_ty (L.getD 4 pm_U) = 0 then fr S d (9, 520, L, L.getD 4 pm_U :: st) M else none := (fr_eq S (d) (9, 518, L, st) M).trans (x_old _ _ 0 4 9 520 L st M)
set_option maxRecDepth 20000 in
theorem f9_520 (S : pm_S) (d : Nat) (L : List Value) (st : List Value) (M : pm_M) : fr S (d) (9, 520, L, st) M = fr S d (9, 521, L, .int 3 :: st) M := (fr_eq S (d) (9, 520, L, st) M).trans (x_ocs _ _ (.int 3) 9 521 L st M)
set_option maxRecDepth 20000 in
theorem f9_521 (S : pm_S) (d : Nat) (L : List Value) (x y : Int32) (r : List Value) (M : pm_M) : fr S (d) (9, 521, L, .int y :: .int x :: r) M = fr S d (9, 522, L, .int (x + y) :: r) M := (fr_eq S (d) (9, 521, L, .int y :: .int x :: r) M).trans (x_oii _ _ (fun x y => x + y) 9 522 L r x y M)
set_option maxRecDepth 20000 in
theorem f9_522 (S : pm_S) (d : Nat) (L : List Value) (i : Int32) (q : Nat) (hq : ¬ q = 1) (r : List Value) (M : pm_M) : fr S (d) (9, 522, L, .int i :: .ref q :: r) M = match (pm_get M q).bind (fun c => pm_el 0 c i) with
  | some v => fr S d (9, 523, L, v :: r) M
  | none => none := (fr_eq S (d) (9, 522, L, .int i :: .ref q :: r) M).trans (x_oal _ _ S 0 9 523 L r i q hq M)
set_option maxRecDepth 20000 in
theorem f9_523 (S : pm_S) (d : Nat) (L : List Value) (x : Int32) (r : List Value) (M : pm_M) : fr S (d) (9, 523, L, .int x :: r) M = if x = 0 then fr S d (9, 530, L, r) M else fr S d (9, 526, L, r) M := (fr_eq S (d) (9, 523, L, .int x :: r) M).trans (x_oc1eq _ _ 9 526 530 L r x M)
set_option maxRecDepth 20000 in
theorem f9_526 (S : pm_S) (d : Nat) (L : List Value) (st : List Value) (M : pm_M) : fr S (d) (9, 526, L, st) M = fr S d (9, 527, L, .int 1 :: st) M := (fr_eq S (d) (9, 526, L, st) M).trans (x_ocs _ _ (.int 1) 9 527 L st M)
set_option maxRecDepth 20000 in
theorem f9_527 (S : pm_S) (d : Nat) (L : List Value) (st : List Value) (M : pm_M) : fr S (d) (9, 527, L, st) M = fr S d (9, 531, L, st) M := (fr_eq S (d) (9, 527, L, st) M).trans (x_ogo _ _ 9 531 L st M)
set_option maxRecDepth 20000 in
theorem f9_530 (S : pm_S) (d : Nat) (L : List Value) (st : List Value) (M : pm_M) : fr S (d) (9, 530, L, st) M = fr S d (9, 531, L, .int 0 :: st) M := (fr_eq S (d) (9, 530, L, st) M).trans (x_ocs _ _ (.int 0) 9 531 L st M)
set_option maxRecDepth 20000 in
theorem f9_531 (S : pm_S) (d : Nat) (L : List Value) (st : List Value) (M : pm_M) : fr S (d + 1) (9, 531, L, st) M = match pm_ag 4 [] st with
  | some (a, r) => if r.length ≤ 4 ∧ (1 = 0 ∨ pm_obj M 0 (a.headD pm_U) = true) then (match fr S d (16, 0, a ++ [pm_U, pm_U], []) M with
    | none => none
    | some (.inl v, M') => fr S (d + 1) (9, 534, L, v.toList ++ r) M'
    | some (.inr E, M') => some (.inr E, M')) else none
  | none => none := (fr_eq S (d + 1) (9, 531, L, st) M).trans (x_ocl _ _ 1 16 4 0 [pm_U, pm_U] 9 534 L st M)
set_option maxRecDepth 20000 in
theorem f9_534 (S : pm_S) (d : Nat) (L : List Value) (st : List Value) (M : pm_M) : fr S (d) (9, 534, L, st) M = if pm_ty (L.getD 2 pm_U) = 2 then fr S d (9, 535, L, L.getD 2 pm_U :: st) M else none := (fr_eq S (d) (9, 534, L, st) M).trans (x_old _ _ 2 2 9 535 L st M)
set_option maxRecDepth 20000 in
theorem f9_535 (S : pm_S) (d : Nat) (L : List Value) (st : List Value) (M : pm_M) : fr S (d) (9, 535, L, st) M = if pm_ty (L.getD 0 pm_U) = 2 then fr S d (9, 536, L, L.getD 0 pm_U :: st) M else none := (fr_eq S (d) (9, 535, L, st) M).trans (x_old _ _ 2 0 9 536 L st M)
set_option maxRecDepth 20000 in
theorem f9_536 (S : pm_S) (d : Nat) (L : List Value) (st : List Value) (M : pm_M) : fr S (d) (9, 536, L, st) M = if pm_ty (L.getD 4 pm_U) = 0 then fr S d (9, 538, L, L.getD 4 pm_U :: st) M else none := (fr_eq S (d) (9, 536, L, st) M).trans (x_old _ _ 0 4 9 538 L st M)
set_option maxRecDepth 20000 in
theorem f9_538 (S : pm_S) (d : Nat) (L : List Value) (st : List Value) (M : pm_M) : fr S (d) (9, 538, L, st) M = fr S d (9, 539, L, .int 1 :: st) M := (fr_eq S (d) (9, 538, L, st) M).trans (x_ocs _ _ (.int 1) 9 539 L st M)
set_option maxRecDepth 20000 in
theorem f9_539 (S : pm_S) (d : Nat) (L : List Value) (x y : Int32) (r : List Value) (M : pm_M) : fr S (d) (9, 539, L, .int y :: .int x :: r) M = fr S d (9, 540, L, .int (x + y) :: r) M := (fr_eq S (d) (9, 539, L, .int y :: .int x :: r) M).trans (x_oii _ _ (fun x y => x + y) 9 540 L r x y M)
set_option maxRecDepth 20000 in
theorem f9_540 (S : pm_S) (d : Nat) (L : List Value) (i : Int32) (q : Nat) (hq : ¬ q = 1) (r : List Value) (M : pm_M) : fr S (d) (9, 540, L, .int i :: .ref q :: r) M = match (pm_get M q).bind (fun c => pm_el 0 c i) with
  | some v => fr S d (9, 541, L, v :: r) M
  | none => none := (fr_eq S (d) (9, 540, L, .int i :: .ref q :: r) M).trans (x_oal _ _ S 0 9 541 L r i q hq M)
set_option maxRecDepth 20000 in
theorem f9_541 (S : pm_S) (d : Nat) (L : List Value) (st : List Value) (M : pm_M) : fr S (d) (9, 541, L, st) M = if pm_ty (L.getD 0 pm_U) = 2 then fr S d (9, 542, L, L.getD 0 pm_U :: st) M else none := (fr_eq S (d) (9, 541, L, st) M).trans (x_old _ _ 2 0 9 542 L st M)
set_option maxRecDepth 20000 in
theorem f9_542 (S : pm_S) (d : Nat) (L : List Value) (st : List Value) (M : pm_M) : fr S (d) (9, 542, L, st) M = if pm_ty (L.getD 4 pm_U) = 0 then fr S d (9, 544, L, L.getD 4 pm_U :: st) M else none := (fr_eq S (d) (9, 542, L, st) M).trans (x_old _ _ 0 4 9 544 L st M)
set_option maxRecDepth 20000 in
theorem f9_544 (S : pm_S) (d : Nat) (L : List Value) (st : List Value) (M : pm_M) : fr S (d) (9, 544, L, st) M = fr S d (9, 545, L, .int 2 :: st) M := (fr_eq S (d) (9, 544, L, st) M).trans (x_ocs _ _ (.int 2) 9 545 L st M)
set_option maxRecDepth 20000 in
theorem f9_545 (S : pm_S) (d : Nat) (L : List Value) (x y : Int32) (r : List Value) (M : pm_M) : fr S (d) (9, 545, L, .int y :: .int x :: r) M = fr S d (9, 546, L, .int (x + y) :: r) M := (fr_eq S (d) (9, 545, L, .int y :: .int x :: r) M).trans (x_oii _ _ (fun x y => x + y) 9 546 L r x y M)
set_option maxRecDepth 20000 in
theorem f9_546 (S : pm_S) (d : Nat) (L : List Value) (i : Int32) (q : Nat) (hq : ¬ q = 1) (r : List Value) (M : pm_M) : fr S (d) (9, 546, L, .int i :: .ref q :: r) M = match (pm_get M q).bind (fun c => pm_el 0 c i) with
  | some v => fr S d (9, 547, L, v :: r) M
  | none => none := (fr_eq S (d) (9, 546, L, .int i :: .ref q :: r) M).trans (x_oal _ _ S 0 9 547 L r i q hq M)
set_option maxRecDepth 20000 in
theorem f9_547 (S : pm_S) (d : Nat) (L : List Value) (st : List Value) (M : pm_M) : fr S (d) (9, 547, L, st) M = if pm_ty (L.getD 0 pm_U) = 2 then fr S d (9, 548, L, L.getD 0 pm_U :: st) M else none := (fr_eq S (d) (9, 547, L, st) M).trans (x_old _ _ 2 0 9 548 L st M)
set_option maxRecDepth 20000 in
theorem f9_548 (S : pm_S) (d : Nat) (L : List Value) (st : List Value) (M : pm_M) : fr S (d) (9, 548, L, st) M = if pm_ty (L.getD 4 pm_U) = 0 then fr S d (9, 550, L, L.getD 4 pm_U :: st) M else none := (fr_eq S (d) (9, 548, L, st) M).trans (x_old _ _ 0 4 9 550 L st M)
set_option maxRecDepth 20000 in
theorem f9_550 (S : pm_S) (d : Nat) (L : List Value) (st : List Value) (M : pm_M) : fr S (d) (9, 550, L, st) M = fr S d (9, 551, L, .int 3 :: st) M := (fr_eq S (d) (9, 550, L, st) M).trans (x_ocs _ _ (.int 3) 9 551 L st M)
set_option maxRecDepth 20000 in
theorem f9_551 (S : pm_S) (d : Nat) (L : List Value) (x y : Int32) (r : List Value) (M : pm_M) : fr S (d) (9, 551, L, .int y :: .int x :: r) M = fr S d (9, 552, L, .int (x + y) :: r) M := (fr_eq S (d) (9, 551, L, .int y :: .int x :: r) M).trans (x_oii _ _ (fun x y => x + y) 9 552 L r x y M)
set_option maxRecDepth 20000 in
theorem f9_552 (S : pm_S) (d : Nat) (L : List Value) (i : Int32) (q : Nat) (hq : ¬ q = 1) (r : List Value) (M : pm_M) : fr S (d) (9, 552, L, .int i :: .ref q :: r) M = match (pm_get M q).bind (fun c => pm_el 0 c i) with
  | some v => fr S d (9, 553, L, v :: r) M
  | none => none := (fr_eq S (d) (9, 552, L, .int i :: .ref q :: r) M).trans (x_oal _ _ S 0 9 553 L r i q hq M)
set_option maxRecDepth 20000 in
theorem f9_553 (S : pm_S) (d : Nat) (L : List Value) (x : Int32) (r : List Value) (M : pm_M) : fr S (d) (9, 553, L, .int x :: r) M = if x = 0 then fr S d (9, 560, L, r) M else fr S d (9, 556, L, r) M := (fr_eq S (d) (9, 553, L, .int x :: r) M).trans (x_oc1eq _ _ 9 556 560 L r x M)
set_option maxRecDepth 20000 in
theorem f9_556 (S : pm_S) (d : Nat) (L : List Value) (st : List Value) (M : pm_M) : fr S (d) (9, 556, L, st) M = fr S d (9, 557, L, .int 1 :: st) M := (fr_eq S (d) (9, 556, L, st) M).trans (x_ocs _ _ (.int 1) 9 557 L st M)
set_option maxRecDepth 20000 in
theorem f9_557 (S : pm_S) (d : Nat) (L : List Value) (st : List Value) (M : pm_M) : fr S (d) (9, 557, L, st) M = fr S d (9, 561, L, st) M := (fr_eq S (d) (9, 557, L, st) M).trans (x_ogo _ _ 9 561 L st M)
set_option maxRecDepth 20000 in
theorem f9_560 (S : pm_S) (d : Nat) (L : List Value) (st : List Value) (M : pm_M) : fr S (d) (9, 560, L, st) M = fr S d (9, 561, L, .int 0 :: st) M := (fr_eq S (d) (9, 560, L, st) M).trans (x_ocs _ _ (.int 0) 9 561 L st M)
set_option maxRecDepth 20000 in
theorem f9_561 (S : pm_S) (d : Nat) (L : List Value) (st : List Value) (M : pm_M) : fr S (d + 1) (9, 561, L, st) M = match pm_ag 4 [] st with
  | some (a, r) => if r.length ≤ 4 ∧ (1 = 0 ∨ pm_obj M 3 (a.headD pm_U) = true) then (match fr S d (115, 0, a ++ [], []) M with
    | none => none
    | some (.inl v, M') => fr S (d + 1) (9, 564, L, v.toList ++ r) M'
    | some (.inr E, M') => some (.inr E, M')) else none
  | none => none := (fr_eq S (d + 1) (9, 561, L, st) M).trans (x_ocl _ _ 1 115 4 3 [] 9 564 L st M)
set_option maxRecDepth 20000 in
theorem f9_564 (S : pm_S) (d : Nat) (L : List Value) (x y : Int32) (r : List Value) (M : pm_M) : fr S (d) (9, 564, L, .int y :: .int x :: r) M = if x = y then fr S d (9, 935, L, r) M else fr S d (9, 567, L, r) M := (fr_eq S (d) (9, 564, L, .int y :: .int x :: r) M).trans (x_oc2eq _ _ 9 567 935 L r x y M)
set_option maxRecDepth 20000 in
theorem f9_567 (S : pm_S) (d : Nat) (L : List Value) (st : List Value) (M : pm_M) : fr S (d) (9, 567, L, st) M = fr S d (9, 568, L, .int 0 :: st) M := (fr_eq S (d) (9, 567, L, st) M).trans (x_ocs _ _ (.int 0) 9 568 L st M)
set_option maxRecDepth 20000 in
theorem f9_568 (S : pm_S) (d : Nat) (L : List Value) (v : Value) (M : pm_M) : fr S (d) (9, 568, L, [v]) M = if pm_fit 3 v = true then some (.inl (some v), M) else none := (fr_eq S (d) (9, 568, L, [v]) M).trans (x_ort _ _ 3 v M)
set_option maxRecDepth 20000 in
theorem f9_569 (S : pm_S) (d : Nat) (L : List Value) (st : List Value) (M : pm_M) : fr S (d) (9, 569, L, st) M = if pm_ty (L.getD 1 pm_U) = 2 then fr S d (9, 570, L, L.getD 1 pm_U :: st) M else none := (fr_eq S (d) (9, 569, L, st) M).trans (x_old _ _ 2 1 9 570 L st M)
set_option maxRecDepth 20000 in
theorem f9_570 (S : pm_S) (d : Nat) (L : List Value) (st : List Value) (M : pm_M) : fr S (d + 1) (9, 570, L, st) M = match pm_ag 1 [] st with
  | some (a, r) => if r.length ≤ 4 ∧ (1 = 0 ∨ pm_obj M 0 (a.headD pm_U) = true) then (match fr S d (17, 0, a ++ [pm_U, pm_U, pm_U], []) M with
    | none => none
    | some (.inl v, M') => fr S (d + 1) (9, 573, L, v.toList ++ r) M'
    | some (.inr E, M') => some (.inr E, M')) else none
  | none => none := (fr_eq S (d + 1) (9, 570, L, st) M).trans (x_ocl _ _ 1 17 1 0 [pm_U, pm_U, pm_U] 9 573 L st M)
set_option maxRecDepth 20000 in
theorem f9_573 (S : pm_S) (d : Nat) (L : List Value) (st : List Value) (M : pm_M) : fr S (d) (9, 573, L, st) M = if pm_ty (L.getD 2 pm_U) = 2 then fr S d (9, 574, L, L.getD 2 pm_U :: st) M else none := (fr_eq S (d) (9, 573, L, st) M).trans (x_old _ _ 2 2 9 574 L st M)
set_option maxRecDepth 20000 in
theorem f9_574 (S : pm_S) (d : Nat) (L : List Value) (st : List Value) (M : pm_M) : fr S (d + 1) (9, 574, L, st) M = match pm_ag 1 [] st with
  | some (a, r) => if r.length ≤ 4 ∧ (1 = 0 ∨ pm_obj M 3 (a.headD pm_U) = true) then (match fr S d (125, 0, a ++ [], []) M with
    | none => none
    | some (.inl v, M') => fr S (d + 1) (9, 577, L, v.toList ++ r) M'
    | some (.inr E, M') => some (.inr E, M')) else none
  | none => none := (fr_eq S (d + 1) (9, 574, L, st) M).trans (x_ocl _ _ 1 125 1 3 [] 9 577 L st M)
set_option maxRecDepth 20000 in
theorem f9_577 (S : pm_S) (d : Nat) (L : List Value) (x y : Int32) (r : List Value) (M : pm_M) : fr S (d) (9, 577, L, .int y :: .int x :: r) M = if x = y then fr S d (9, 935, L, r) M else fr S d (9, 580, L, r) M := (fr_eq S (d) (9, 577, L, .int y :: .int x :: r) M).trans (x_oc2eq _ _ 9 580 935 L r x y M)
set_option maxRecDepth 20000 in
theorem f9_580 (S : pm_S) (d : Nat) (L : List Value) (st : List Value) (M : pm_M) : fr S (d) (9, 580, L, st) M = fr S d (9, 581, L, .int 0 :: st) M := (fr_eq S (d) (9, 580, L, st) M).trans (x_ocs _ _ (.int 0) 9 581 L st M)
set_option maxRecDepth 20000 in
theorem f9_581 (S : pm_S) (d : Nat) (L : List Value) (v : Value) (M : pm_M) : fr S (d) (9, 581, L, [v]) M = if pm_fit 3 v = true then some (.inl (some v), M) else none := (fr_eq S (d) (9, 581, L, [v]) M).trans (x_ort _ _ 3 v M)
set_option maxRecDepth 20000 in
theorem f9_582 (S : pm_S) (d : Nat) (L : List Value) (st : List Value) (M : pm_M) : fr S (d) (9, 582, L, st) M = if pm_ty (L.getD 1 pm_U) = 2 then fr S d (9, 583, L, L.getD 1 pm_U :: st) M else none := (fr_eq S (d) (9, 582, L, st) M).trans (x_old _ _ 2 1 9 583 L st M)
set_option maxRecDepth 20000 in
theorem f9_583 (S : pm_S) (d : Nat) (L : List Value) (st : List Value) (M : pm_M) : fr S (d) (9, 583, L, st) M = if pm_ty (L.getD 0 pm_U) = 2 then fr S d (9, 584, L, L.getD 0 pm_U :: st) M else none := (fr_eq S (d) (9, 583, L, st) M).trans (x_old _ _ 2 0 9 584 L st M)
set_option maxRecDepth 20000 in
theorem f9_584 (S : pm_S) (d : Nat) (L : List Value) (st : List Value) (M : pm_M) : fr S (d) (9, 584, L, st) M = if pm_ty (L.getD 4 pm_U) = 0 then fr S d (9, 586, L, L.getD 4 pm_U :: st) M else none := (fr_eq S (d) (9, 584, L, st) M).trans (x_old _ _ 0 4 9 586 L st M)
set_option maxRecDepth 20000 in
theorem f9_586 (S : pm_S) (d : Nat) (L : List Value) (st : List Value) (M : pm_M) : fr S (d) (9, 586, L, st) M = fr S d (9, 587, L, .int 1 :: st) M := (fr_eq S (d) (9, 586, L, st) M).trans (x_ocs _ _ (.int 1) 9 587 L st M)
set_option maxRecDepth 20000 in
theorem f9_587 (S : pm_S) (d : Nat) (L : List Value) (x y : Int32) (r : List Value) (M : pm_M) : fr S (d) (9, 587, L, .int y :: .int x :: r) M = fr S d (9, 588, L, .int (x + y) :: r) M := (fr_eq S (d) (9, 587, L, .int y :: .int x :: r) M).trans (x_oii _ _ (fun x y => x + y) 9 588 L r x y M)
set_option maxRecDepth 20000 in
theorem f9_588 (S : pm_S) (d : Nat) (L : List Value) (i : Int32) (q : Nat) (hq : ¬ q = 1) (r : List Value) (M : pm_M) : fr S (d) (9, 588, L, .int i :: .ref q :: r) M = match (pm_get M q).bind (fun c => pm_el 0 c i) with
  | some v => fr S d (9, 589, L, v :: r) M
  | none => none := (fr_eq S (d) (9, 588, L, .int i :: .ref q :: r) M).trans (x_oal _ _ S 0 9 589 L r i q hq M)
set_option maxRecDepth 20000 in
theorem f9_589 (S : pm_S) (d : Nat) (L : List Value) (st : List Value) (M : pm_M) : fr S (d) (9, 589, L, st) M = if pm_ty (L.getD 0 pm_U) = 2 then fr S d (9, 590, L, L.getD 0 pm_U :: st) M else none := (fr_eq S (d) (9, 589, L, st) M).trans (x_old _ _ 2 0 9 590 L st M)
set_option maxRecDepth 20000 in
theorem f9_590 (S : pm_S) (d : Nat) (L : List Value) (st : List Value) (M : pm_M) : fr S (d) (9, 590, L, st) M = if pm_ty (L.getD 4 pm_U) = 0 then fr S d (9, 592, L, L.getD 4 pm_U :: st) M else none := (fr_eq S (d) (9, 590, L, st) M).trans (x_old _ _ 0 4 9 592 L st M)
set_option maxRecDepth 20000 in
theorem f9_592 (S : pm_S) (d : Nat) (L : List Value) (st : List Value) (M : pm_M) : fr S (d) (9, 592, L, st) M = fr S d (9, 593, L, .int 2 :: st) M := (fr_eq S (d) (9, 592, L, st) M).trans (x_ocs _ _ (.int 2) 9 593 L st M)
set_option maxRecDepth 20000 in
theorem f9_593 (S : pm_S) (d : Nat) (L : List Value) (x y : Int32) (r : List Value) (M : pm_M) : fr S (d) (9, 593, L, .int y :: .int x :: r) M = fr S d (9, 594, L, .int (x + y) :: r) M := (fr_eq S (d) (9, 593, L, .int y :: .int x :: r) M).trans (x_oii _ _ (fun x y => x + y) 9 594 L r x y M)
set_option maxRecDepth 20000 in
theorem f9_594 (S : pm_S) (d : Nat) (L : List Value) (i : Int32) (q : Nat) (hq : ¬ q = 1) (r : List Value) (M : pm_M) : fr S (d) (9, 594, L, .int i :: .ref q :: r) M = match (pm_get M q).bind (fun c => pm_el 0 c i) with
  | some v => fr S d (9, 595, L, v :: r) M
  | none => none := (fr_eq S (d) (9, 594, L, .int i :: .ref q :: r) M).trans (x_oal _ _ S 0 9 595 L r i q hq M)
set_option maxRecDepth 20000 in
theorem f9_595 (S : pm_S) (d : Nat) (L : List Value) (st : List Value) (M : pm_M) : fr S (d) (9, 595, L, st) M = if pm_ty (L.getD 3 pm_U) = 2 then fr S d (9, 596, L, L.getD 3 pm_U :: st) M else none := (fr_eq S (d) (9, 595, L, st) M).trans (x_old _ _ 2 3 9 596 L st M)
set_option maxRecDepth 20000 in
theorem f9_596 (S : pm_S) (d : Nat) (L : List Value) (st : List Value) (M : pm_M) : fr S (d + 1) (9, 596, L, st) M = match pm_ag 4 [] st with
  | some (a, r) => if r.length ≤ 4 ∧ (0 = 0 ∨ pm_obj M 4 (a.headD pm_U) = true) then (match fr S d (4, 0, a ++ [pm_U], []) M with
    | none => none
    | some (.inl v, M') => fr S (d + 1) (9, 599, L, v.toList ++ r) M'
    | some (.inr E, M') => some (.inr E, M')) else none
  | none => none := (fr_eq S (d + 1) (9, 596, L, st) M).trans (x_ocl _ _ 0 4 4 4 [pm_U] 9 599 L st M)
set_option maxRecDepth 20000 in
theorem f9_599 (S : pm_S) (d : Nat) (L : List Value) (v : Value) (r : List Value) (M : pm_M) : fr S (d) (9, 599, L, v :: r) M = if pm_ty v = 0 ∧ 5 < L.length ∧ ¬ pm_ty (L.getD (5 - 1) pm_U) = 1 then fr S d (9, 601, L.set 5 v, r) M else none := (fr_eq S (d) (9, 599, L, v :: r) M).trans (x_ost _ _ 0 5 9 601 L r v M)
set_option maxRecDepth 20000 in
theorem f9_601 (S : pm_S) (d : Nat) (L : List Value) (st : List Value) (M : pm_M) : fr S (d) (9, 601, L, st) M = if pm_ty (L.getD 2 pm_U) = 2 then fr S d (9, 602, L, L.getD 2 pm_U :: st) M else none := (fr_eq S (d) (9, 601, L, st) M).trans (x_old _ _ 2 2 9 602 L st M)
set_option maxRecDepth 20000 in
theorem f9_602 (S : pm_S) (d : Nat) (L : List Value) (st : List Value) (M : pm_M) : fr S (d) (9, 602, L, st) M = if pm_ty (L.getD 0 pm_U) = 2 then fr S d (9, 603, L, L.getD 0 pm_U :: st) M else none := (fr_eq S (d) (9, 602, L, st) M).trans (x_old _ _ 2 0 9 603 L st M)
set_option maxRecDepth 20000 in
theorem f9_603 (S : pm_S) (d : Nat) (L : List Value) (st : List Value) (M : pm_M) : fr S (d) (9, 603, L, st) M = if pm_ty (L.getD 4 pm_U) = 0 then fr S d (9, 605, L, L.getD 4 pm_U :: st) M else none := (fr_eq S (d) (9, 603, L, st) M).trans (x_old _ _ 0 4 9 605 L st M)
set_option maxRecDepth 20000 in
theorem f9_605 (S : pm_S) (d : Nat) (L : List Value) (st : List Value) (M : pm_M) : fr S (d) (9, 605, L, st) M = fr S d (9, 606, L, .int 1 :: st) M := (fr_eq S (d) (9, 605, L, st) M).trans (x_ocs _ _ (.int 1) 9 606 L st M)
set_option maxRecDepth 20000 in
theorem f9_606 (S : pm_S) (d : Nat) (L : List Value) (x y : Int32) (r : List Value) (M : pm_M) : fr S (d) (9, 606, L, .int y :: .int x :: r) M = fr S d (9, 607, L, .int (x + y) :: r) M := (fr_eq S (d) (9, 606, L, .int y :: .int x :: r) M).trans (x_oii _ _ (fun x y => x + y) 9 607 L r x y M)
set_option maxRecDepth 20000 in
theorem f9_607 (S : pm_S) (d : Nat) (L : List Value) (i : Int32) (q : Nat) (hq : ¬ q = 1) (r : List Value) (M : pm_M) : fr S (d) (9, 607, L, .int i :: .ref q :: r) M = match (pm_get M q).bind (fun c => pm_el 0 c i) with
  | some v => fr S d (9, 608, L, v :: r) M
  | none => none := (fr_eq S (d) (9, 607, L, .int i :: .ref q :: r) M).trans (x_oal _ _ S 0 9 608 L r i q hq M)
set_option maxRecDepth 20000 in
theorem f9_608 (S : pm_S) (d : Nat) (L : List Value) (st : List Value) (M : pm_M) : fr S (d) (9, 608, L, st) M = if pm_ty (L.getD 0 pm_U) = 2 then fr S d (9, 609, L, L.getD 0 pm_U :: st) M else none := (fr_eq S (d) (9, 608, L, st) M).trans (x_old _ _ 2 0 9 609 L st M)
set_option maxRecDepth 20000 in
theorem f9_609 (S : pm_S) (d : Nat) (L : List Value) (st : List Value) (M : pm_M) : fr S (d) (9, 609, L, st) M = if pm_ty (L.getD 4 pm_U) = 0 then fr S d (9, 611, L, L.getD 4 pm_U :: st) M else none := (fr_eq S (d) (9, 609, L, st) M).trans (x_old _ _ 0 4 9 611 L st M)
set_option maxRecDepth 20000 in
theorem f9_611 (S : pm_S) (d : Nat) (L : List Value) (st : List Value) (M : pm_M) : fr S (d) (9, 611, L, st) M = fr S d (9, 612, L, .int 2 :: st) M := (fr_eq S (d) (9, 611, L, st) M).trans (x_ocs _ _ (.int 2) 9 612 L st M)
set_option maxRecDepth 20000 in
theorem f9_612 (S : pm_S) (d : Nat) (L : List Value) (x y : Int32) (r : List Value) (M : pm_M) : fr S (d) (9, 612, L, .int y :: .int x :: r) M = fr S d (9, 613, L, .int (x + y) :: r) M := (fr_eq S (d) (9, 612, L, .int y :: .int x :: r) M).trans (x_oii _ _ (fun x y => x + y) 9 613 L r x y M)
set_option maxRecDepth 20000 in
theorem f9_613 (S : pm_S) (d : Nat) (L : List Value) (i : Int32) (q : Nat) (hq : ¬ q = 1) (r : List Value) (M : pm_M) : fr S (d) (9, 613, L, .int i :: .ref q :: r) M = match (pm_get M q).bind (fun c => pm_el 0 c i) with
  | some v => fr S d (9, 614, L, v :: r) M
  | none => none := (fr_eq S (d) (9, 613, L, .int i :: .ref q :: r) M).trans (x_oal _ _ S 0 9 614 L r i q hq M)
set_option maxRecDepth 20000 in
theorem f9_614 (S : pm_S) (d : Nat) (L : List Value) (st : List Value) (M : pm_M) : fr S (d + 1) (9, 614, L, st) M = match pm_ag 3 [] st with
  | some (a, r) => if r.length ≤ 4 ∧ (1 = 0 ∨ pm_obj M 3 (a.headD pm_U) = true) then (match fr S d (126, 0, a ++ [], []) M with
    | none => none
    | some (.inl v, M') => fr S (d + 1) (9, 617, L, v.toList ++ r) M'
    | some (.inr E, M') => some (.inr E, M')) else none
  | none => none := (fr_eq S (d + 1) (9, 614, L, st) M).trans (x_ocl _ _ 1 126 3 3 [] 9 617 L st M)
set_option maxRecDepth 20000 in
theorem f9_617 (S : pm_S) (d : Nat) (L : List Value) (v : Value) (r : List Value) (M : pm_M) : fr S (d) (9, 617, L, v :: r) M = if pm_ty v = 0 ∧ 6 < L.length ∧ ¬ pm_ty (L.getD (6 - 1) pm_U) = 1 then fr S d (9, 619, L.set 6 v, r) M else none := (fr_eq S (d) (9, 617, L, v :: r) M).trans (x_ost _ _ 0 6 9 619 L r v M)
set_option maxRecDepth 20000 in
theorem f9_619 (S : pm_S) (d : Nat) (L : List Value) (st : List Value) (M : pm_M) : fr S (d) (9, 619, L, st) M = if pm_ty (L.getD 2 pm_U) = 2 then fr S d (9, 620, L, L.getD 2 pm_U :: st) M else none := (fr_eq S (d) (9, 619, L, st) M).trans (x_old _ _ 2 2 9 620 L st M)
set_option maxRecDepth 20000 in
theorem f9_620 (S : pm_S) (d : Nat) (L : List Value) (st : List Value) (M : pm_M) : fr S (d + 1) (9, 620, L, st) M = match pm_ag 1 [] st with
  | some (a, r) => if r.length ≤ 4 ∧ (1 = 0 ∨ pm_obj M 3 (a.headD pm_U) = true) then (match fr S d (102, 0, a ++ [], []) M with
    | none => none
    | some (.inl v, M') => fr S (d + 1) (9, 623, L, v.toList ++ r) M'
    | some (.inr E, M') => some (.inr E, M')) else none
  | none => none := (fr_eq S (d + 1) (9, 620, L, st) M).trans (x_ocl _ _ 1 102 1 3 [] 9 623 L st M)
set_option maxRecDepth 20000 in
theorem f9_623 (S : pm_S) (d : Nat) (L : List Value) (st : List Value) (M : pm_M) : fr S (d) (9, 623, L, st) M = if pm_ty (L.getD 5 pm_U) = 0 then fr S d (9, 625, L, L.getD 5 pm_U :: st) M else none := (fr_eq S (d) (9, 623, L, st) M).trans (x_old _ _ 0 5 9 625 L st M)
set_option maxRecDepth 20000 in
theorem f9_625 (S : pm_S) (d : Nat) (L : List Value) (x y : Int32) (r : List Value) (M : pm_M) : fr S (d) (9, 625, L, .int y :: .int x :: r) M = if x = y then fr S d (9, 630, L, r) M else fr S d (9, 628, L, r) M := (fr_eq S (d) (9, 625, L, .int y :: .int x :: r) M).trans (x_oc2eq _ _ 9 628 630 L r x y M)
set_option maxRecDepth 20000 in
theorem f9_628 (S : pm_S) (d : Nat) (L : List Value) (st : List Value) (M : pm_M) : fr S (d) (9, 628, L, st) M = fr S d (9, 629, L, .int 0 :: st) M := (fr_eq S (d) (9, 628, L, st) M).trans (x_ocs _ _ (.int 0) 9 629 L st M)
set_option maxRecDepth 20000 in
theorem f9_629 (S : pm_S) (d : Nat) (L : List Value) (v : Value) (M : pm_M) : fr S (d) (9, 629, L, [v]) M = if pm_fit 3 v = true then some (.inl (some v), M) else none := (fr_eq S (d) (9, 629, L, [v]) M).trans (x_ort _ _ 3 v M)
set_option maxRecDepth 20000 in
theorem f9_630 (S : pm_S) (d : Nat) (L : List Value) (st : List Value) (M : pm_M) : fr S (d) (9, 630, L, st) M = if pm_ty (L.getD 5 pm_U) = 0 then fr S d (9, 632, L, L.getD 5 pm_U :: st) M else none := (fr_eq S (d) (9, 630, L, st) M).trans (x_old _ _ 0 5 9 632 L st M)
set_option maxRecDepth 20000 in
theorem f9_632 (S : pm_S) (d : Nat) (L : List Value) (x : Int32) (r : List Value) (M : pm_M) : fr S (d) (9, 632, L, .int x :: r) M = if ¬ x = 0 then fr S d (9, 647, L, r) M else fr S d (9, 635, L, r) M := (fr_eq S (d) (9, 632, L, .int x :: r) M).trans (x_oc1ne _ _ 9 635 647 L r x M)
set_option maxRecDepth 20000 in
theorem f9_635 (S : pm_S) (d : Nat) (L : List Value) (st : List Value) (M : pm_M) : fr S (d) (9, 635, L, st) M = if pm_ty (L.getD 3 pm_U) = 2 then fr S d (9, 636, L, L.getD 3 pm_U :: st) M else none := (fr_eq S (d) (9, 635, L, st) M).trans (x_old _ _ 2 3 9 636 L st M)
set_option maxRecDepth 20000 in
theorem f9_636 (S : pm_S) (d : Nat) (L : List Value) (st : List Value) (M : pm_M) : fr S (d) (9, 636, L, st) M = fr S d (9, 637, L, .int 0 :: st) M := (fr_eq S (d) (9, 636, L, st) M).trans (x_ocs _ _ (.int 0) 9 637 L st M)
set_option maxRecDepth 20000 in
theorem f9_637 (S : pm_S) (d : Nat) (L : List Value) (i : Int32) (q : Nat) (hq : ¬ q = 1) (r : List Value) (M : pm_M) : fr S (d) (9, 637, L, .int i :: .ref q :: r) M = match (pm_get M q).bind (fun c => pm_el 2 c i) with
  | some v => fr S d (9, 638, L, v :: r) M
  | none => none := (fr_eq S (d) (9, 637, L, .int i :: .ref q :: r) M).trans (x_oal _ _ S 2 9 638 L r i q hq M)
set_option maxRecDepth 20000 in
theorem f9_638 (S : pm_S) (d : Nat) (L : List Value) (st : List Value) (M : pm_M) : fr S (d) (9, 638, L, st) M = if pm_ty (L.getD 6 pm_U) = 0 then fr S d (9, 640, L, L.getD 6 pm_U :: st) M else none := (fr_eq S (d) (9, 638, L, st) M).trans (x_old _ _ 0 6 9 640 L st M)
set_option maxRecDepth 20000 in
theorem f9_640 (S : pm_S) (d : Nat) (L : List Value) (x : Int32) (r : List Value) (M : pm_M) : fr S (d) (9, 640, L, .int x :: r) M = fr S d (9, 641, L, .long x.toInt64 :: r) M := (fr_eq S (d) (9, 640, L, .int x :: r) M).trans (x_oi1 _ _ (fun x => .long x.toInt64) 9 641 L r x M)
set_option maxRecDepth 20000 in
theorem f9_641 (S : pm_S) (d : Nat) (L : List Value) (x y : Int64) (r : List Value) (M : pm_M) : fr S (d) (9, 641, L, .long y :: .long x :: r) M = fr S d (9, 642, L, .int (if y < x then 1 else if x = y then 0 else -1) :: r) M := (fr_eq S (d) (9, 641, L, .long y :: .long x :: r) M).trans (x_oll _ _ (fun x y => .int (if y < x then 1 else if x = y then 0 else -1)) 9 642 L r x y M)
set_option maxRecDepth 20000 in
theorem f9_642 (S : pm_S) (d : Nat) (L : List Value) (x : Int32) (r : List Value) (M : pm_M) : fr S (d) (9, 642, L, .int x :: r) M = if x = 0 then fr S d (9, 647, L, r) M else fr S d (9, 645, L, r) M := (fr_eq S (d) (9, 642, L, .int x :: r) M).trans (x_oc1eq _ _ 9 645 647 L r x M)
set_option maxRecDepth 20000 in
theorem f9_645 (S : pm_S) (d : Nat) (L : List Value) (st : List Value) (M : pm_M) : fr S (d) (9, 645, L, st) M = fr S d (9, 646, L, .int 0 :: st) M := (fr_eq S (d) (9, 645, L, st) M).trans (x_ocs _ _ (.int 0) 9 646 L st M)
set_option maxRecDepth 20000 in
theorem f9_646 (S : pm_S) (d : Nat) (L : List Value) (v : Value) (M : pm_M) : fr S (d) (9, 646, L, [v]) M = if pm_fit 3 v = true then some (.inl (some v), M) else none := (fr_eq S (d) (9, 646, L, [v]) M).trans (x_ort _ _ 3 v M)
set_option maxRecDepth 20000 in
theorem f9_647 (S : pm_S) (d : Nat) (L : List Value) (st : List Value) (M : pm_M) : fr S (d) (9, 647, L, st) M = fr S d (9, 935, L, st) M := (fr_eq S (d) (9, 647, L, st) M).trans (x_ogo _ _ 9 935 L st M)
set_option maxRecDepth 20000 in
theorem f9_650 (S : pm_S) (d : Nat) (L : List Value) (st : List Value) (M : pm_M) : fr S (d) (9, 650, L, st) M = if pm_ty (L.getD 1 pm_U) = 2 then fr S d (9, 651, L, L.getD 1 pm_U :: st) M else none := (fr_eq S (d) (9, 650, L, st) M).trans (x_old _ _ 2 1 9 651 L st M)
set_option maxRecDepth 20000 in
theorem f9_651 (S : pm_S) (d : Nat) (L : List Value) (st : List Value) (M : pm_M) : fr S (d) (9, 651, L, st) M = if pm_ty (L.getD 0 pm_U) = 2 then fr S d (9, 652, L, L.getD 0 pm_U :: st) M else none := (fr_eq S (d) (9, 651, L, st) M).trans (x_old _ _ 2 0 9 652 L st M)
set_option maxRecDepth 20000 in
theorem f9_652 (S : pm_S) (d : Nat) (L : List Value) (st : List Value) (M : pm_M) : fr S (d) (9, 652, L, st) M = if pm_ty (L.getD 4 pm_U) = 0 then fr S d (9, 654, L, L.getD 4 pm_U :: st) M else none := (fr_eq S (d) (9, 652, L, st) M).trans (x_old _ _ 0 4 9 654 L st M)
set_option maxRecDepth 20000 in
theorem f9_654 (S : pm_S) (d : Nat) (L : List Value) (st : List Value) (M : pm_M) : fr S (d) (9, 654, L, st) M = fr S d (9, 655, L, .int 1 :: st) M := (fr_eq S (d) (9, 654, L, st) M).trans (x_ocs _ _ (.int 1) 9 655 L st M)
set_option maxRecDepth 20000 in
theorem f9_655 (S : pm_S) (d : Nat) (L : List Value) (x y : Int32) (r : List Value) (M : pm_M) : fr S (d) (9, 655, L, .int y :: .int x :: r) M = fr S d (9, 656, L, .int (x + y) :: r) M := (fr_eq S (d) (9, 655, L, .int y :: .int x :: r) M).trans (x_oii _ _ (fun x y => x + y) 9 656 L r x y M)
set_option maxRecDepth 20000 in
theorem f9_656 (S : pm_S) (d : Nat) (L : List Value) (i : Int32) (q : Nat) (hq : ¬ q = 1) (r : List Value) (M : pm_M) : fr S (d) (9, 656, L, .int i :: .ref q :: r) M = match (pm_get M q).bind (fun c => pm_el 0 c i) with
  | some v => fr S d (9, 657, L, v :: r) M
  | none => none := (fr_eq S (d) (9, 656, L, .int i :: .ref q :: r) M).trans (x_oal _ _ S 0 9 657 L r i q hq M)
set_option maxRecDepth 20000 in
theorem f9_657 (S : pm_S) (d : Nat) (L : List Value) (st : List Value) (M : pm_M) : fr S (d) (9, 657, L, st) M = if pm_ty (L.getD 3 pm_U) = 2 then fr S d (9, 658, L, L.getD 3 pm_U :: st) M else none := (fr_eq S (d) (9, 657, L, st) M).trans (x_old _ _ 2 3 9 658 L st M)
set_option maxRecDepth 20000 in
theorem f9_658 (S : pm_S) (d : Nat) (L : List Value) (st : List Value) (M : pm_M) : fr S (d + 1) (9, 658, L, st) M = match pm_ag 3 [] st with
  | some (a, r) => if r.length ≤ 4 ∧ (0 = 0 ∨ pm_obj M 4 (a.headD pm_U) = true) then (match fr S d (5, 0, a ++ [pm_U], []) M with
    | none => none
    | some (.inl v, M') => fr S (d + 1) (9, 661, L, v.toList ++ r) M'
    | some (.inr E, M') => some (.inr E, M')) else none
  | none => none := (fr_eq S (d + 1) (9, 658, L, st) M).trans (x_ocl _ _ 0 5 3 4 [pm_U] 9 661 L st M)
set_option maxRecDepth 20000 in
theorem f9_661 (S : pm_S) (d : Nat) (L : List Value) (v : Value) (r : List Value) (M : pm_M) : fr S (d) (9, 661, L, v :: r) M = if pm_ty v = 0 ∧ 5 < L.length ∧ ¬ pm_ty (L.getD (5 - 1) pm_U) = 1 then fr S d (9, 663, L.set 5 v, r) M else none := (fr_eq S (d) (9, 661, L, v :: r) M).trans (x_ost _ _ 0 5 9 663 L r v M)
set_option maxRecDepth 20000 in
theorem f9_663 (S : pm_S) (d : Nat) (L : List Value) (st : List Value) (M : pm_M) : fr S (d) (9, 663, L, st) M = if pm_ty (L.getD 2 pm_U) = 2 then fr S d (9, 664, L, L.getD 2 pm_U :: st) M else none := (fr_eq S (d) (9, 663, L, st) M).trans (x_old _ _ 2 2 9 664 L st M)
set_option maxRecDepth 20000 in
theorem f9_664 (S : pm_S) (d : Nat) (L : List Value) (st : List Value) (M : pm_M) : fr S (d) (9, 664, L, st) M = if pm_ty (L.getD 0 pm_U) = 2 then fr S d (9, 665, L, L.getD 0 pm_U :: st) M else none := (fr_eq S (d) (9, 664, L, st) M).trans (x_old _ _ 2 0 9 665 L st M)
set_option maxRecDepth 20000 in
theorem f9_665 (S : pm_S) (d : Nat) (L : List Value) (st : List Value) (M : pm_M) : fr S (d) (9, 665, L, st) M = if pm_ty (L.getD 4 pm_U) = 0 then fr S d (9, 667, L, L.getD 4 pm_U :: st) M else none := (fr_eq S (d) (9, 665, L, st) M).trans (x_old _ _ 0 4 9 667 L st M)
set_option maxRecDepth 20000 in
theorem f9_667 (S : pm_S) (d : Nat) (L : List Value) (st : List Value) (M : pm_M) : fr S (d) (9, 667, L, st) M = fr S d (9, 668, L, .int 1 :: st) M := (fr_eq S (d) (9, 667, L, st) M).trans (x_ocs _ _ (.int 1) 9 668 L st M)
set_option maxRecDepth 20000 in
theorem f9_668 (S : pm_S) (d : Nat) (L : List Value) (x y : Int32) (r : List Value) (M : pm_M) : fr S (d) (9, 668, L, .int y :: .int x :: r) M = fr S d (9, 669, L, .int (x + y) :: r) M := (fr_eq S (d) (9, 668, L, .int y :: .int x :: r) M).trans (x_oii _ _ (fun x y => x + y) 9 669 L r x y M)
set_option maxRecDepth 20000 in
theorem f9_669 (S : pm_S) (d : Nat) (L : List Value) (i : Int32) (q : Nat) (hq : ¬ q = 1) (r : List Value) (M : pm_M) : fr S (d) (9, 669, L, .int i :: .ref q :: r) M = match (pm_get M q).bind (fun c => pm_el 0 c i) with
  | some v => fr S d (9, 670, L, v :: r) M
  | none => none := (fr_eq S (d) (9, 669, L, .int i :: .ref q :: r) M).trans (x_oal _ _ S 0 9 670 L r i q hq M)
set_option maxRecDepth 20000 in
theorem f9_670 (S : pm_S) (d : Nat) (L : List Value) (st : List Value) (M : pm_M) : fr S (d + 1) (9, 670, L, st) M = match pm_ag 2 [] st with
  | some (a, r) => if r.length ≤ 4 ∧ (1 = 0 ∨ pm_obj M 3 (a.headD pm_U) = true) then (match fr S d (128, 0, a ++ [pm_U, pm_U], []) M with
    | none => none
    | some (.inl v, M') => fr S (d + 1) (9, 673, L, v.toList ++ r) M'
    | some (.inr E, M') => some (.inr E, M')) else none
  | none => none := (fr_eq S (d + 1) (9, 670, L, st) M).trans (x_ocl _ _ 1 128 2 3 [pm_U, pm_U] 9 673 L st M)
set_option maxRecDepth 20000 in
theorem f9_673 (S : pm_S) (d : Nat) (L : List Value) (v : Value) (r : List Value) (M : pm_M) : fr S (d) (9, 673, L, v :: r) M = if pm_ty v = 0 ∧ 6 < L.length ∧ ¬ pm_ty (L.getD (6 - 1) pm_U) = 1 then fr S d (9, 675, L.set 6 v, r) M else none := (fr_eq S (d) (9, 673, L, v :: r) M).trans (x_ost _ _ 0 6 9 675 L r v M)
set_option maxRecDepth 20000 in
theorem f9_675 (S : pm_S) (d : Nat) (L : List Value) (st : List Value) (M : pm_M) : fr S (d) (9, 675, L, st) M = if pm_ty (L.getD 2 pm_U) = 2 then fr S d (9, 676, L, L.getD 2 pm_U :: st) M else none := (fr_eq S (d) (9, 675, L, st) M).trans (x_old _ _ 2 2 9 676 L st M)
set_option maxRecDepth 20000 in
theorem f9_676 (S : pm_S) (d : Nat) (L : List Value) (st : List Value) (M : pm_M) : fr S (d + 1) (9, 676, L, st) M = match pm_ag 1 [] st with
  | some (a, r) => if r.length ≤ 4 ∧ (1 = 0 ∨ pm_obj M 3 (a.headD pm_U) = true) then (match fr S d (102, 0, a ++ [], []) M with
    | none => none
    | some (.inl v, M') => fr S (d + 1) (9, 679, L, v.toList ++ r) M'
    | some (.inr E, M') => some (.inr E, M')) else none
  | none => none := (fr_eq S (d + 1) (9, 676, L, st) M).trans (x_ocl _ _ 1 102 1 3 [] 9 679 L st M)
set_option maxRecDepth 20000 in
theorem f9_679 (S : pm_S) (d : Nat) (L : List Value) (st : List Value) (M : pm_M) : fr S (d) (9, 679, L, st) M = if pm_ty (L.getD 5 pm_U) = 0 then fr S d (9, 681, L, L.getD 5 pm_U :: st) M else none := (fr_eq S (d) (9, 679, L, st) M).trans (x_old _ _ 0 5 9 681 L st M)
set_option maxRecDepth 20000 in
theorem f9_681 (S : pm_S) (d : Nat) (L : List Value) (x y : Int32) (r : List Value) (M : pm_M) : fr S (d) (9, 681, L, .int y :: .int x :: r) M = if x = y then fr S d (9, 686, L, r) M else fr S d (9, 684, L, r) M := (fr_eq S (d) (9, 681, L, .int y :: .int x :: r) M).trans (x_oc2eq _ _ 9 684 686 L r x y M)
set_option maxRecDepth 20000 in
theorem f9_684 (S : pm_S) (d : Nat) (L : List Value) (st : List Value) (M : pm_M) : fr S (d) (9, 684, L, st) M = fr S d (9, 685, L, .int 0 :: st) M := (fr_eq S (d) (9, 684, L, st) M).trans (x_ocs _ _ (.int 0) 9 685 L st M)
set_option maxRecDepth 20000 in
theorem f9_685 (S : pm_S) (d : Nat) (L : List Value) (v : Value) (M : pm_M) : fr S (d) (9, 685, L, [v]) M = if pm_fit 3 v = true then some (.inl (some v), M) else none := (fr_eq S (d) (9, 685, L, [v]) M).trans (x_ort _ _ 3 v M)
set_option maxRecDepth 20000 in
theorem f9_686 (S : pm_S) (d : Nat) (L : List Value) (st : List Value) (M : pm_M) : fr S (d) (9, 686, L, st) M = if pm_ty (L.getD 5 pm_U) = 0 then fr S d (9, 688, L, L.getD 5 pm_U :: st) M else none := (fr_eq S (d) (9, 686, L, st) M).trans (x_old _ _ 0 5 9 688 L st M)
set_option maxRecDepth 20000 in
theorem f9_688 (S : pm_S) (d : Nat) (L : List Value) (x : Int32) (r : List Value) (M : pm_M) : fr S (d) (9, 688, L, .int x :: r) M = if ¬ x = 0 then fr S d (9, 703, L, r) M else fr S d (9, 691, L, r) M := (fr_eq S (d) (9, 688, L, .int x :: r) M).trans (x_oc1ne _ _ 9 691 703 L r x M)
set_option maxRecDepth 20000 in
theorem f9_691 (S : pm_S) (d : Nat) (L : List Value) (st : List Value) (M : pm_M) : fr S (d) (9, 691, L, st) M = if pm_ty (L.getD 3 pm_U) = 2 then fr S d (9, 692, L, L.getD 3 pm_U :: st) M else none := (fr_eq S (d) (9, 691, L, st) M).trans (x_old _ _ 2 3 9 692 L st M)
set_option maxRecDepth 20000 in
theorem f9_692 (S : pm_S) (d : Nat) (L : List Value) (st : List Value) (M : pm_M) : fr S (d) (9, 692, L, st) M = fr S d (9, 693, L, .int 0 :: st) M := (fr_eq S (d) (9, 692, L, st) M).trans (x_ocs _ _ (.int 0) 9 693 L st M)
set_option maxRecDepth 20000 in
theorem f9_693 (S : pm_S) (d : Nat) (L : List Value) (i : Int32) (q : Nat) (hq : ¬ q = 1) (r : List Value) (M : pm_M) : fr S (d) (9, 693, L, .int i :: .ref q :: r) M = match (pm_get M q).bind (fun c => pm_el 2 c i) with
  | some v => fr S d (9, 694, L, v :: r) M
  | none => none := (fr_eq S (d) (9, 693, L, .int i :: .ref q :: r) M).trans (x_oal _ _ S 2 9 694 L r i q hq M)
set_option maxRecDepth 20000 in
theorem f9_694 (S : pm_S) (d : Nat) (L : List Value) (st : List Value) (M : pm_M) : fr S (d) (9, 694, L, st) M = if pm_ty (L.getD 6 pm_U) = 0 then fr S d (9, 696, L, L.getD 6 pm_U :: st) M else none := (fr_eq S (d) (9, 694, L, st) M).trans (x_old _ _ 0 6 9 696 L st M)
set_option maxRecDepth 20000 in
theorem f9_696 (S : pm_S) (d : Nat) (L : List Value) (x : Int32) (r : List Value) (M : pm_M) : fr S (d) (9, 696, L, .int x :: r) M = fr S d (9, 697, L, .long x.toInt64 :: r) M := (fr_eq S (d) (9, 696, L, .int x :: r) M).trans (x_oi1 _ _ (fun x => .long x.toInt64) 9 697 L r x M)
set_option maxRecDepth 20000 in
theorem f9_697 (S : pm_S) (d : Nat) (L : List Value) (x y : Int64) (r : List Value) (M : pm_M) : fr S (d) (9, 697, L, .long y :: .long x :: r) M = fr S d (9, 698, L, .int (if y < x then 1 else if x = y then 0 else -1) :: r) M := (fr_eq S (d) (9, 697, L, .long y :: .long x :: r) M).trans (x_oll _ _ (fun x y => .int (if y < x then 1 else if x = y then 0 else -1)) 9 698 L r x y M)
set_option maxRecDepth 20000 in
theorem f9_698 (S : pm_S) (d : Nat) (L : List Value) (x : Int32) (r : List Value) (M : pm_M) : fr S (d) (9, 698, L, .int x :: r) M = if x = 0 then fr S d (9, 703, L, r) M else fr S d (9, 701, L, r) M := (fr_eq S (d) (9, 698, L, .int x :: r) M).trans (x_oc1eq _ _ 9 701 703 L r x M)
set_option maxRecDepth 20000 in
theorem f9_701 (S : pm_S) (d : Nat) (L : List Value) (st : List Value) (M : pm_M) : fr S (d) (9, 701, L, st) M = fr S d (9, 702, L, .int 0 :: st) M := (fr_eq S (d) (9, 701, L, st) M).trans (x_ocs _ _ (.int 0) 9 702 L st M)
set_option maxRecDepth 20000 in
theorem f9_702 (S : pm_S) (d : Nat) (L : List Value) (v : Value) (M : pm_M) : fr S (d) (9, 702, L, [v]) M = if pm_fit 3 v = true then some (.inl (some v), M) else none := (fr_eq S (d) (9, 702, L, [v]) M).trans (x_ort _ _ 3 v M)
set_option maxRecDepth 20000 in
theorem f9_703 (S : pm_S) (d : Nat) (L : List Value) (st : List Value) (M : pm_M) : fr S (d) (9, 703, L, st) M = fr S d (9, 935, L, st) M := (fr_eq S (d) (9, 703, L, st) M).trans (x_ogo _ _ 9 935 L st M)
set_option maxRecDepth 20000 in
theorem f9_706 (S : pm_S) (d : Nat) (L : List Value) (st : List Value) (M : pm_M) : fr S (d) (9, 706, L, st) M = if pm_ty (L.getD 1 pm_U) = 2 then fr S d (9, 707, L, L.getD 1 pm_U :: st) M else none := (fr_eq S (d) (9, 706, L, st) M).trans (x_old _ _ 2 1 9 707 L st M)
set_option maxRecDepth 20000 in
theorem f9_707 (S : pm_S) (d : Nat) (L : List Value) (st : List Value) (M : pm_M) : fr S (d) (9, 707, L, st) M = if pm_ty (L.getD 0 pm_U) = 2 then fr S d (9, 708, L, L.getD 0 pm_U :: st) M else none := (fr_eq S (d) (9, 707, L, st) M).trans (x_old _ _ 2 0 9 708 L st M)
set_option maxRecDepth 20000 in
theorem f9_708 (S : pm_S) (d : Nat) (L : List Value) (st : List Value) (M : pm_M) : fr S (d) (9, 708, L, st) M = if pm_ty (L.getD 4 pm_U) = 0 then fr S d (9, 710, L, L.getD 4 pm_U :: st) M else none := (fr_eq S (d) (9, 708, L, st) M).trans (x_old _ _ 0 4 9 710 L st M)
set_option maxRecDepth 20000 in
theorem f9_710 (S : pm_S) (d : Nat) (L : List Value) (st : List Value) (M : pm_M) : fr S (d) (9, 710, L, st) M = fr S d (9, 711, L, .int 1 :: st) M := (fr_eq S (d) (9, 710, L, st) M).trans (x_ocs _ _ (.int 1) 9 711 L st M)
set_option maxRecDepth 20000 in
theorem f9_711 (S : pm_S) (d : Nat) (L : List Value) (x y : Int32) (r : List Value) (M : pm_M) : fr S (d) (9, 711, L, .int y :: .int x :: r) M = fr S d (9, 712, L, .int (x + y) :: r) M := (fr_eq S (d) (9, 711, L, .int y :: .int x :: r) M).trans (x_oii _ _ (fun x y => x + y) 9 712 L r x y M)
set_option maxRecDepth 20000 in
theorem f9_712 (S : pm_S) (d : Nat) (L : List Value) (i : Int32) (q : Nat) (hq : ¬ q = 1) (r : List Value) (M : pm_M) : fr S (d) (9, 712, L, .int i :: .ref q :: r) M = match (pm_get M q).bind (fun c => pm_el 0 c i) with
  | some v => fr S d (9, 713, L, v :: r) M
  | none => none := (fr_eq S (d) (9, 712, L, .int i :: .ref q :: r) M).trans (x_oal _ _ S 0 9 713 L r i q hq M)
set_option maxRecDepth 20000 in
theorem f9_713 (S : pm_S) (d : Nat) (L : List Value) (st : List Value) (M : pm_M) : fr S (d) (9, 713, L, st) M = if pm_ty (L.getD 3 pm_U) = 2 then fr S d (9, 714, L, L.getD 3 pm_U :: st) M else none := (fr_eq S (d) (9, 713, L, st) M).trans (x_old _ _ 2 3 9 714 L st M)
set_option maxRecDepth 20000 in
theorem f9_714 (S : pm_S) (d : Nat) (L : List Value) (st : List Value) (M : pm_M) : fr S (d + 1) (9, 714, L, st) M = match pm_ag 3 [] st with
  | some (a, r) => if r.length ≤ 4 ∧ (0 = 0 ∨ pm_obj M 4 (a.headD pm_U) = true) then (match fr S d (6, 0, a ++ [pm_U], []) M with
    | none => none
    | some (.inl v, M') => fr S (d + 1) (9, 717, L, v.toList ++ r) M'
    | some (.inr E, M') => some (.inr E, M')) else none
  | none => none := (fr_eq S (d + 1) (9, 714, L, st) M).trans (x_ocl _ _ 0 6 3 4 [pm_U] 9 717 L st M)
set_option maxRecDepth 20000 in
theorem f9_717 (S : pm_S) (d : Nat) (L : List Value) (v : Value) (r : List Value) (M : pm_M) : fr S (d) (9, 717, L, v :: r) M = if pm_ty v = 0 ∧ 5 < L.length ∧ ¬ pm_ty (L.getD (5 - 1) pm_U) = 1 then fr S d (9, 719, L.set 5 v, r) M else none := (fr_eq S (d) (9, 717, L, v :: r) M).trans (x_ost _ _ 0 5 9 719 L r v M)
set_option maxRecDepth 20000 in
theorem f9_719 (S : pm_S) (d : Nat) (L : List Value) (st : List Value) (M : pm_M) : fr S (d) (9, 719, L, st) M = if pm_ty (L.getD 2 pm_U) = 2 then fr S d (9, 720, L, L.getD 2 pm_U :: st) M else none := (fr_eq S (d) (9, 719, L, st) M).trans (x_old _ _ 2 2 9 720 L st M)
set_option maxRecDepth 20000 in
theorem f9_720 (S : pm_S) (d : Nat) (L : List Value) (st : List Value) (M : pm_M) : fr S (d) (9, 720, L, st) M = if pm_ty (L.getD 0 pm_U) = 2 then fr S d (9, 721, L, L.getD 0 pm_U :: st) M else none := (fr_eq S (d) (9, 720, L, st) M).trans (x_old _ _ 2 0 9 721 L st M)
set_option maxRecDepth 20000 in
theorem f9_721 (S : pm_S) (d : Nat) (L : List Value) (st : List Value) (M : pm_M) : fr S (d) (9, 721, L, st) M = if pm_ty (L.getD 4 pm_U) = 0 then fr S d (9, 723, L, L.getD 4 pm_U :: st) M else none := (fr_eq S (d) (9, 721, L, st) M).trans (x_old _ _ 0 4 9 723 L st M)
set_option maxRecDepth 20000 in
theorem f9_723 (S : pm_S) (d : Nat) (L : List Value) (st : List Value) (M : pm_M) : fr S (d) (9, 723, L, st) M = fr S d (9, 724, L, .int 1 :: st) M := (fr_eq S (d) (9, 723, L, st) M).trans (x_ocs _ _ (.int 1) 9 724 L st M)
set_option maxRecDepth 20000 in
theorem f9_724 (S : pm_S) (d : Nat) (L : List Value) (x y : Int32) (r : List Value) (M : pm_M) : fr S (d) (9, 724, L, .int y :: .int x :: r) M = fr S d (9, 725, L, .int (x + y) :: r) M := (fr_eq S (d) (9, 724, L, .int y :: .int x :: r) M).trans (x_oii _ _ (fun x y => x + y) 9 725 L r x y M)
set_option maxRecDepth 20000 in
theorem f9_725 (S : pm_S) (d : Nat) (L : List Value) (i : Int32) (q : Nat) (hq : ¬ q = 1) (r : List Value) (M : pm_M) : fr S (d) (9, 725, L, .int i :: .ref q :: r) M = match (pm_get M q).bind (fun c => pm_el 0 c i) with
  | some v => fr S d (9, 726, L, v :: r) M
  | none => none := (fr_eq S (d) (9, 725, L, .int i :: .ref q :: r) M).trans (x_oal _ _ S 0 9 726 L r i q hq M)
set_option maxRecDepth 20000 in
theorem f9_726 (S : pm_S) (d : Nat) (L : List Value) (st : List Value) (M : pm_M) : fr S (d + 1) (9, 726, L, st) M = match pm_ag 2 [] st with
  | some (a, r) => if r.length ≤ 4 ∧ (1 = 0 ∨ pm_obj M 3 (a.headD pm_U) = true) then (match fr S d (135, 0, a ++ [pm_U], []) M with
    | none => none
    | some (.inl v, M') => fr S (d + 1) (9, 729, L, v.toList ++ r) M'
    | some (.inr E, M') => some (.inr E, M')) else none
  | none => none := (fr_eq S (d + 1) (9, 726, L, st) M).trans (x_ocl _ _ 1 135 2 3 [pm_U] 9 729 L st M)
set_option maxRecDepth 20000 in
theorem f9_729 (S : pm_S) (d : Nat) (L : List Value) (v : Value) (r : List Value) (M : pm_M) : fr S (d) (9, 729, L, v :: r) M = if pm_ty v = 0 ∧ 6 < L.length ∧ ¬ pm_ty (L.getD (6 - 1) pm_U) = 1 then fr S d (9, 731, L.set 6 v, r) M else none := (fr_eq S (d) (9, 729, L, v :: r) M).trans (x_ost _ _ 0 6 9 731 L r v M)
set_option maxRecDepth 20000 in
theorem f9_731 (S : pm_S) (d : Nat) (L : List Value) (st : List Value) (M : pm_M) : fr S (d) (9, 731, L, st) M = if pm_ty (L.getD 2 pm_U) = 2 then fr S d (9, 732, L, L.getD 2 pm_U :: st) M else none := (fr_eq S (d) (9, 731, L, st) M).trans (x_old _ _ 2 2 9 732 L st M)
set_option maxRecDepth 20000 in
theorem f9_732 (S : pm_S) (d : Nat) (L : List Value) (st : List Value) (M : pm_M) : fr S (d + 1) (9, 732, L, st) M = match pm_ag 1 [] st with
  | some (a, r) => if r.length ≤ 4 ∧ (1 = 0 ∨ pm_obj M 3 (a.headD pm_U) = true) then (match fr S d (102, 0, a ++ [], []) M with
    | none => none
    | some (.inl v, M') => fr S (d + 1) (9, 735, L, v.toList ++ r) M'
    | some (.inr E, M') => some (.inr E, M')) else none
  | none => none := (fr_eq S (d + 1) (9, 732, L, st) M).trans (x_ocl _ _ 1 102 1 3 [] 9 735 L st M)
set_option maxRecDepth 20000 in
theorem f9_735 (S : pm_S) (d : Nat) (L : List Value) (st : List Value) (M : pm_M) : fr S (d) (9, 735, L, st) M = if pm_ty (L.getD 5 pm_U) = 0 then fr S d (9, 737, L, L.getD 5 pm_U :: st) M else none := (fr_eq S (d) (9, 735, L, st) M).trans (x_old _ _ 0 5 9 737 L st M)
set_option maxRecDepth 20000 in
theorem f9_737 (S : pm_S) (d : Nat) (L : List Value) (x y : Int32) (r : List Value) (M : pm_M) : fr S (d) (9, 737, L, .int y :: .int x :: r) M = if x = y then fr S d (9, 742, L, r) M else fr S d (9, 740, L, r) M := (fr_eq S (d) (9, 737, L, .int y :: .int x :: r) M).trans (x_oc2eq _ _ 9 740 742 L r x y M)
set_option maxRecDepth 20000 in
theorem f9_740 (S : pm_S) (d : Nat) (L : List Value) (st : List Value) (M : pm_M) : fr S (d) (9, 740, L, st) M = fr S d (9, 741, L, .int 0 :: st) M := (fr_eq S (d) (9, 740, L, st) M).trans (x_ocs _ _ (.int 0) 9 741 L st M)
set_option maxRecDepth 20000 in
theorem f9_741 (S : pm_S) (d : Nat) (L : List Value) (v : Value) (M : pm_M) : fr S (d) (9, 741, L, [v]) M = if pm_fit 3 v = true then some (.inl (some v), M) else none := (fr_eq S (d) (9, 741, L, [v]) M).trans (x_ort _ _ 3 v M)
set_option maxRecDepth 20000 in
theorem f9_742 (S : pm_S) (d : Nat) (L : List Value) (st : List Value) (M : pm_M) : fr S (d) (9, 742, L, st) M = if pm_ty (L.getD 5 pm_U) = 0 then fr S d (9, 744, L, L.getD 5 pm_U :: st) M else none := (fr_eq S (d) (9, 742, L, st) M).trans (x_old _ _ 0 5 9 744 L st M)
set_option maxRecDepth 20000 in
theorem f9_744 (S : pm_S) (d : Nat) (L : List Value) (x : Int32) (r : List Value) (M : pm_M) : fr S (d) (9, 744, L, .int x :: r) M = if ¬ x = 0 then fr S d (9, 759, L, r) M else fr S d (9, 747, L, r) M := (fr_eq S (d) (9, 744, L, .int x :: r) M).trans (x_oc1ne _ _ 9 747 759 L r x M)
set_option maxRecDepth 20000 in
theorem f9_747 (S : pm_S) (d : Nat) (L : List Value) (st : List Value) (M : pm_M) : fr S (d) (9, 747, L, st) M = if pm_ty (L.getD 3 pm_U) = 2 then fr S d (9, 748, L, L.getD 3 pm_U :: st) M else none := (fr_eq S (d) (9, 747, L, st) M).trans (x_old _ _ 2 3 9 748 L st M)
set_option maxRecDepth 20000 in
theorem f9_748 (S : pm_S) (d : Nat) (L : List Value) (st : List Value) (M : pm_M) : fr S (d) (9, 748, L, st) M = fr S d (9, 749, L, .int 0 :: st) M := (fr_eq S (d) (9, 748, L, st) M).trans (x_ocs _ _ (.int 0) 9 749 L st M)
set_option maxRecDepth 20000 in
theorem f9_749 (S : pm_S) (d : Nat) (L : List Value) (i : Int32) (q : Nat) (hq : ¬ q = 1) (r : List Value) (M : pm_M) : fr S (d) (9, 749, L, .int i :: .ref q :: r) M = match (pm_get M q).bind (fun c => pm_el 2 c i) with
  | some v => fr S d (9, 750, L, v :: r) M
  | none => none := (fr_eq S (d) (9, 749, L, .int i :: .ref q :: r) M).trans (x_oal _ _ S 2 9 750 L r i q hq M)
set_option maxRecDepth 20000 in
theorem f9_750 (S : pm_S) (d : Nat) (L : List Value) (st : List Value) (M : pm_M) : fr S (d) (9, 750, L, st) M = if pm_ty (L.getD 6 pm_U) = 0 then fr S d (9, 752, L, L.getD 6 pm_U :: st) M else none := (fr_eq S (d) (9, 750, L, st) M).trans (x_old _ _ 0 6 9 752 L st M)
set_option maxRecDepth 20000 in
theorem f9_752 (S : pm_S) (d : Nat) (L : List Value) (x : Int32) (r : List Value) (M : pm_M) : fr S (d) (9, 752, L, .int x :: r) M = fr S d (9, 753, L, .long x.toInt64 :: r) M := (fr_eq S (d) (9, 752, L, .int x :: r) M).trans (x_oi1 _ _ (fun x => .long x.toInt64) 9 753 L r x M)
set_option maxRecDepth 20000 in
theorem f9_753 (S : pm_S) (d : Nat) (L : List Value) (x y : Int64) (r : List Value) (M : pm_M) : fr S (d) (9, 753, L, .long y :: .long x :: r) M = fr S d (9, 754, L, .int (if y < x then 1 else if x = y then 0 else -1) :: r) M := (fr_eq S (d) (9, 753, L, .long y :: .long x :: r) M).trans (x_oll _ _ (fun x y => .int (if y < x then 1 else if x = y then 0 else -1)) 9 754 L r x y M)
set_option maxRecDepth 20000 in
theorem f9_754 (S : pm_S) (d : Nat) (L : List Value) (x : Int32) (r : List Value) (M : pm_M) : fr S (d) (9, 754, L, .int x :: r) M = if x = 0 then fr S d (9, 759, L, r) M else fr S d (9, 757, L, r) M := (fr_eq S (d) (9, 754, L, .int x :: r) M).trans (x_oc1eq _ _ 9 757 759 L r x M)
set_option maxRecDepth 20000 in
theorem f9_757 (S : pm_S) (d : Nat) (L : List Value) (st : List Value) (M : pm_M) : fr S (d) (9, 757, L, st) M = fr S d (9, 758, L, .int 0 :: st) M := (fr_eq S (d) (9, 757, L, st) M).trans (x_ocs _ _ (.int 0) 9 758 L st M)
set_option maxRecDepth 20000 in
theorem f9_758 (S : pm_S) (d : Nat) (L : List Value) (v : Value) (M : pm_M) : fr S (d) (9, 758, L, [v]) M = if pm_fit 3 v = true then some (.inl (some v), M) else none := (fr_eq S (d) (9, 758, L, [v]) M).trans (x_ort _ _ 3 v M)
set_option maxRecDepth 20000 in
theorem f9_759 (S : pm_S) (d : Nat) (L : List Value) (st : List Value) (M : pm_M) : fr S (d) (9, 759, L, st) M = fr S d (9, 935, L, st) M := (fr_eq S (d) (9, 759, L, st) M).trans (x_ogo _ _ 9 935 L st M)
set_option maxRecDepth 20000 in
theorem f9_762 (S : pm_S) (d : Nat) (L : List Value) (st : List Value) (M : pm_M) : fr S (d) (9, 762, L, st) M = if pm_ty (L.getD 1 pm_U) = 2 then fr S d (9, 763, L, L.getD 1 pm_U :: st) M else none := (fr_eq S (d) (9, 762, L, st) M).trans (x_old _ _ 2 1 9 763 L st M)
