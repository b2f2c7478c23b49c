theorem f130_51 (S : pm_S) (d : Nat) (L : List Value) (st : List Value) (M : pm_M) : fr S (d) (130, 51, L, st) M = if pm_ty (L.getD 0 pm_U) = 2 then fr S d (130, 52, L, L.getD 0 pm_U :: st) M else none := (fr_eq S (d) (130, 51, L, st) M).trans (x_old _ _ 2 0 130 52 L st M)
theorem f130_52 (S : pm_S) (d : Nat) (L : List Value) (q : Nat) (r : List Value) (M : pm_M) : fr S (d) (130, 52, L, .ref q :: r) M = match pm_get M q with
  | some (.inr (c, fs)) => if c = 3 ∧ 8 < fs.length then fr S d (130, 55, L, fs.getD 8 pm_U :: r) M else none
  | _ => none := (fr_eq S (d) (130, 52, L, .ref q :: r) M).trans (x_ogf _ _ 3 8 130 55 L r q M)
theorem f130_55 (S : pm_S) (d : Nat) (L : List Value) (st : List Value) (M : pm_M) : fr S (d) (130, 55, L, st) M = if pm_ty (L.getD 1 pm_U) = 0 then fr S d (130, 56, L, L.getD 1 pm_U :: st) M else none := (fr_eq S (d) (130, 55, L, st) M).trans (x_old _ _ 0 1 130 56 L st M)
theorem f130_56 (S : pm_S) (d : Nat) (L : List Value) (i : Int32) (q : Nat) (hq : ¬ q = 1) (r : List Value) (M : pm_M) : fr S (d) (130, 56, L, .int i :: .ref q :: r) M = match (pm_get M q).bind (fun c => pm_el 0 c i) with
  | some v => fr S d (130, 57, L, v :: r) M
  | none => none := (fr_eq S (d) (130, 56, L, .int i :: .ref q :: r) M).trans (x_oal _ _ S 0 130 57 L r i q hq M)
theorem f130_57 (S : pm_S) (d : Nat) (L : List Value) (st : List Value) (M : pm_M) : fr S (d) (130, 57, L, st) M = fr S d (130, 58, L, .int 1 :: st) M := (fr_eq S (d) (130, 57, L, st) M).trans (x_ocs _ _ (.int 1) 130 58 L st M)
theorem f130_58 (S : pm_S) (d : Nat) (L : List Value) (x y : Int32) (r : List Value) (M : pm_M) : fr S (d) (130, 58, L, .int y :: .int x :: r) M = if ¬ x = y then fr S d (130, 76, L, r) M else fr S d (130, 61, L, r) M := (fr_eq S (d) (130, 58, L, .int y :: .int x :: r) M).trans (x_oc2ne _ _ 130 61 76 L r x y M)
theorem f130_61 (S : pm_S) (d : Nat) (L : List Value) (st : List Value) (M : pm_M) : fr S (d) (130, 61, L, st) M = if pm_ty (L.getD 0 pm_U) = 2 then fr S d (130, 62, L, L.getD 0 pm_U :: st) M else none := (fr_eq S (d) (130, 61, L, st) M).trans (x_old _ _ 2 0 130 62 L st M)
theorem f130_62 (S : pm_S) (d : Nat) (L : List Value) (q : Nat) (r : List Value) (M : pm_M) : fr S (d) (130, 62, L, .ref q :: r) M = match pm_get M q with
  | some (.inr (c, fs)) => if c = 3 ∧ 11 < fs.length then fr S d (130, 65, L, fs.getD 11 pm_U :: r) M else none
  | _ => none := (fr_eq S (d) (130, 62, L, .ref q :: r) M).trans (x_ogf _ _ 3 11 130 65 L r q M)
theorem f130_65 (S : pm_S) (d : Nat) (L : List Value) (st : List Value) (M : pm_M) : fr S (d) (130, 65, L, st) M = if pm_ty (L.getD 2 pm_U) = 0 then fr S d (130, 66, L, L.getD 2 pm_U :: st) M else none := (fr_eq S (d) (130, 65, L, st) M).trans (x_old _ _ 0 2 130 66 L st M)
theorem f130_66 (S : pm_S) (d : Nat) (L : List Value) (st : List Value) (M : pm_M) : fr S (d) (130, 66, L, st) M = if pm_ty (L.getD 3 pm_U) = 0 then fr S d (130, 67, L, L.getD 3 pm_U :: st) M else none := (fr_eq S (d) (130, 66, L, st) M).trans (x_old _ _ 0 3 130 67 L st M)
theorem f130_67 (S : pm_S) (d : Nat) (L : List Value) (st : List Value) (M : pm_M) : fr S (d) (130, 67, L, st) M = if pm_ty (L.getD 4 pm_U) = 0 then fr S d (130, 69, L, L.getD 4 pm_U :: st) M else none := (fr_eq S (d) (130, 67, L, st) M).trans (x_old _ _ 0 4 130 69 L st M)
theorem f130_69 (S : pm_S) (d : Nat) (L : List Value) (st : List Value) (M : pm_M) : fr S (d + 1) (130, 69, L, st) M = match pm_ag 3 [] st with
  | some (a, r) => if r.length ≤ 4 ∧ (0 = 0 ∨ pm_obj M 3 (a.headD pm_U) = true) then (match fr S d (108, 0, a ++ [], []) M with
    | none => none
    | some (.inl v, M') => fr S (d + 1) (130, 72, L, v.toList ++ r) M'
    | some (.inr E, M') => some (.inr E, M')) else none
  | none => none := (fr_eq S (d + 1) (130, 69, L, st) M).trans (x_ocl _ _ 0 108 3 3 [] 130 72 L st M)
theorem f130_72 (S : pm_S) (d : Nat) (L : List Value) (i : Int32) (q : Nat) (hq : ¬ q = 1) (r : List Value) (M : pm_M) : fr S (d) (130, 72, L, .int i :: .ref q :: r) M = match (pm_get M q).bind (fun c => pm_el 1 c i) with
  | some v => fr S d (130, 73, L, v :: r) M
  | none => none := (fr_eq S (d) (130, 72, L, .int i :: .ref q :: r) M).trans (x_oal _ _ S 1 130 73 L r i q hq M)
theorem f130_73 (S : pm_S) (d : Nat) (L : List Value) (x : Int32) (r : List Value) (M : pm_M) : fr S (d) (130, 73, L, .int x :: r) M = if x = 0 then fr S d (130, 80, L, r) M else fr S d (130, 76, L, r) M := (fr_eq S (d) (130, 73, L, .int x :: r) M).trans (x_oc1eq _ _ 130 76 80 L r x M)
theorem f130_76 (S : pm_S) (d : Nat) (L : List Value) (st : List Value) (M : pm_M) : fr S (d) (130, 76, L, st) M = fr S d (130, 77, L, .int 1 :: st) M := (fr_eq S (d) (130, 76, L, st) M).trans (x_ocs _ _ (.int 1) 130 77 L st M)
theorem f130_77 (S : pm_S) (d : Nat) (L : List Value) (st : List Value) (M : pm_M) : fr S (d) (130, 77, L, st) M = fr S d (130, 81, L, st) M := (fr_eq S (d) (130, 77, L, st) M).trans (x_ogo _ _ 130 81 L st M)
theorem f130_80 (S : pm_S) (d : Nat) (L : List Value) (st : List Value) (M : pm_M) : fr S (d) (130, 80, L, st) M = fr S d (130, 81, L, .int 0 :: st) M := (fr_eq S (d) (130, 80, L, st) M).trans (x_ocs _ _ (.int 0) 130 81 L st M)
theorem f130_81 (S : pm_S) (d : Nat) (L : List Value) (v : Value) (M : pm_M) : fr S (d) (130, 81, L, [v]) M = if pm_fit 3 v = true then some (.inl (some v), M) else none := (fr_eq S (d) (130, 81, L, [v]) M).trans (x_ort _ _ 3 v M)
theorem f131_0 (S : pm_S) (d : Nat) (L : List Value) (st : List Value) (M : pm_M) : fr S (d) (131, 0, L, st) M = fr S d (131, 1, L, .int 0 :: st) M := (fr_eq S (d) (131, 0, L, st) M).trans (x_ocs _ _ (.int 0) 131 1 L st M)
theorem f131_1 (S : pm_S) (d : Nat) (L : List Value) (v : Value) (r : List Value) (M : pm_M) : fr S (d) (131, 1, L, v :: r) M = if pm_ty v = 0 ∧ 5 < L.length ∧ ¬ pm_ty (L.getD (5 - 1) pm_U) = 1 then fr S d (131, 3, L.set 5 v, r) M else none := (fr_eq S (d) (131, 1, L, v :: r) M).trans (x_ost _ _ 0 5 131 3 L r v M)
theorem f131_3 (S : pm_S) (d : Nat) (L : List Value) (st : List Value) (M : pm_M) : fr S (d) (131, 3, L, st) M = fr S d (131, 4, L, .int 0 :: st) M := (fr_eq S (d) (131, 3, L, st) M).trans (x_ocs _ _ (.int 0) 131 4 L st M)
theorem f131_4 (S : pm_S) (d : Nat) (L : List Value) (v : Value) (r : List Value) (M : pm_M) : fr S (d) (131, 4, L, v :: r) M = if pm_ty v = 0 ∧ 6 < L.length ∧ ¬ pm_ty (L.getD (6 - 1) pm_U) = 1 then fr S d (131, 6, L.set 6 v, r) M else none := (fr_eq S (d) (131, 4, L, v :: r) M).trans (x_ost _ _ 0 6 131 6 L r v M)
theorem f131_6 (S : pm_S) (d : Nat) (L : List Value) (st : List Value) (M : pm_M) : fr S (d) (131, 6, L, st) M = if pm_ty (L.getD 6 pm_U) = 0 then fr S d (131, 8, L, L.getD 6 pm_U :: st) M else none := (fr_eq S (d) (131, 6, L, st) M).trans (x_old _ _ 0 6 131 8 L st M)
theorem f131_8 (S : pm_S) (d : Nat) (L : List Value) (st : List Value) (M : pm_M) : fr S (d) (131, 8, L, st) M = if pm_ty (L.getD 4 pm_U) = 0 then fr S d (131, 10, L, L.getD 4 pm_U :: st) M else none := (fr_eq S (d) (131, 8, L, st) M).trans (x_old _ _ 0 4 131 10 L st M)
theorem f131_10 (S : pm_S) (d : Nat) (L : List Value) (x y : Int32) (r : List Value) (M : pm_M) : fr S (d) (131, 10, L, .int y :: .int x :: r) M = if y ≤ x then fr S d (131, 52, L, r) M else fr S d (131, 13, L, r) M := (fr_eq S (d) (131, 10, L, .int y :: .int x :: r) M).trans (x_oc2ge _ _ 131 13 52 L r x y M)
theorem f131_13 (S : pm_S) (d : Nat) (L : List Value) (st : List Value) (M : pm_M) : fr S (d) (131, 13, L, st) M = if pm_ty (L.getD 5 pm_U) = 0 then fr S d (131, 15, L, L.getD 5 pm_U :: st) M else none := (fr_eq S (d) (131, 13, L, st) M).trans (x_old _ _ 0 5 131 15 L st M)
theorem f131_15 (S : pm_S) (d : Nat) (L : List Value) (st : List Value) (M : pm_M) : fr S (d) (131, 15, L, st) M = if pm_ty (L.getD 0 pm_U) = 2 then fr S d (131, 16, L, L.getD 0 pm_U :: st) M else none := (fr_eq S (d) (131, 15, L, st) M).trans (x_old _ _ 2 0 131 16 L st M)
theorem f131_16 (S : pm_S) (d : Nat) (L : List Value) (st : List Value) (M : pm_M) : fr S (d) (131, 16, L, st) M = if pm_ty (L.getD 2 pm_U) = 0 then fr S d (131, 17, L, L.getD 2 pm_U :: st) M else none := (fr_eq S (d) (131, 16, L, st) M).trans (x_old _ _ 0 2 131 17 L st M)
theorem f131_17 (S : pm_S) (d : Nat) (L : List Value) (st : List Value) (M : pm_M) : fr S (d) (131, 17, L, st) M = if pm_ty (L.getD 3 pm_U) = 0 then fr S d (131, 18, L, L.getD 3 pm_U :: st) M else none := (fr_eq S (d) (131, 17, L, st) M).trans (x_old _ _ 0 3 131 18 L st M)
theorem f131_18 (S : pm_S) (d : Nat) (L : List Value) (st : List Value) (M : pm_M) : fr S (d) (131, 18, L, st) M = if pm_ty (L.getD 6 pm_U) = 0 then fr S d (131, 20, L, L.getD 6 pm_U :: st) M else none := (fr_eq S (d) (131, 18, L, st) M).trans (x_old _ _ 0 6 131 20 L st M)
theorem f131_20 (S : pm_S) (d : Nat) (L : List Value) (st : List Value) (M : pm_M) : fr S (d + 1) (131, 20, L, st) M = match pm_ag 4 [] st with
  | some (a, r) => if r.length ≤ 4 ∧ (1 = 0 ∨ pm_obj M 3 (a.headD pm_U) = true) then (match fr S d (116, 0, a ++ [], []) M with
    | none => none
    | some (.inl v, M') => fr S (d + 1) (131, 23, L, v.toList ++ r) M'
    | some (.inr E, M') => some (.inr E, M')) else none
  | none => none := (fr_eq S (d + 1) (131, 20, L, st) M).trans (x_ocl _ _ 1 116 4 3 [] 131 23 L st M)
theorem f131_23 (S : pm_S) (d : Nat) (L : List Value) (x : Int32) (r : List Value) (M : pm_M) : fr S (d) (131, 23, L, .int x :: r) M = if 0 ≤ x then fr S d (131, 30, L, r) M else fr S d (131, 26, L, r) M := (fr_eq S (d) (131, 23, L, .int x :: r) M).trans (x_oc1ge _ _ 131 26 30 L r x M)
theorem f131_26 (S : pm_S) (d : Nat) (L : List Value) (st : List Value) (M : pm_M) : fr S (d) (131, 26, L, st) M = fr S d (131, 27, L, .int 0 :: st) M := (fr_eq S (d) (131, 26, L, st) M).trans (x_ocs _ _ (.int 0) 131 27 L st M)
theorem f131_27 (S : pm_S) (d : Nat) (L : List Value) (st : List Value) (M : pm_M) : fr S (d) (131, 27, L, st) M = fr S d (131, 43, L, st) M := (fr_eq S (d) (131, 27, L, st) M).trans (x_ogo _ _ 131 43 L st M)
theorem f131_30 (S : pm_S) (d : Nat) (L : List Value) (st : List Value) (M : pm_M) : fr S (d) (131, 30, L, st) M = if pm_ty (L.getD 0 pm_U) = 2 then fr S d (131, 31, L, L.getD 0 pm_U :: st) M else none := (fr_eq S (d) (131, 30, L, st) M).trans (x_old _ _ 2 0 131 31 L st M)
theorem f131_31 (S : pm_S) (d : Nat) (L : List Value) (q : Nat) (r : List Value) (M : pm_M) : fr S (d) (131, 31, L, .ref q :: r) M = match pm_get M q with
  | some (.inr (c, fs)) => if c = 3 ∧ 6 < fs.length then fr S d (131, 34, L, fs.getD 6 pm_U :: r) M else none
  | _ => none := (fr_eq S (d) (131, 31, L, .ref q :: r) M).trans (x_ogf _ _ 3 6 131 34 L r q M)
theorem f131_34 (S : pm_S) (d : Nat) (L : List Value) (st : List Value) (M : pm_M) : fr S (d) (131, 34, L, st) M = if pm_ty (L.getD 0 pm_U) = 2 then fr S d (131, 35, L, L.getD 0 pm_U :: st) M else none := (fr_eq S (d) (131, 34, L, st) M).trans (x_old _ _ 2 0 131 35 L st M)
theorem f131_35 (S : pm_S) (d : Nat) (L : List Value) (st : List Value) (M : pm_M) : fr S (d) (131, 35, L, st) M = if pm_ty (L.getD 2 pm_U) = 0 then fr S d (131, 36, L, L.getD 2 pm_U :: st) M else none := (fr_eq S (d) (131, 35, L, st) M).trans (x_old _ _ 0 2 131 36 L st M)
theorem f131_36 (S : pm_S) (d : Nat) (L : List Value) (st : List Value) (M : pm_M) : fr S (d) (131, 36, L, st) M = if pm_ty (L.getD 3 pm_U) = 0 then fr S d (131, 37, L, L.getD 3 pm_U :: st) M else none := (fr_eq S (d) (131, 36, L, st) M).trans (x_old _ _ 0 3 131 37 L st M)
theorem f131_37 (S : pm_S) (d : Nat) (L : List Value) (st : List Value) (M : pm_M) : fr S (d) (131, 37, L, st) M = if pm_ty (L.getD 6 pm_U) = 0 then fr S d (131, 39, L, L.getD 6 pm_U :: st) M else none := (fr_eq S (d) (131, 37, L, st) M).trans (x_old _ _ 0 6 131 39 L st M)
theorem f131_39 (S : pm_S) (d : Nat) (L : List Value) (st : List Value) (M : pm_M) : fr S (d + 1) (131, 39, L, st) M = match pm_ag 4 [] st with
  | some (a, r) => if r.length ≤ 4 ∧ (1 = 0 ∨ pm_obj M 3 (a.headD pm_U) = true) then (match fr S d (116, 0, a ++ [], []) M with
    | none => none
    | some (.inl v, M') => fr S (d + 1) (131, 42, L, v.toList ++ r) M'
    | some (.inr E, M') => some (.inr E, M')) else none
  | none => none := (fr_eq S (d + 1) (131, 39, L, st) M).trans (x_ocl _ _ 1 116 4 3 [] 131 42 L st M)
theorem f131_42 (S : pm_S) (d : Nat) (L : List Value) (i : Int32) (q : Nat) (hq : ¬ q = 1) (r : List Value) (M : pm_M) : fr S (d) (131, 42, L, .int i :: .ref q :: r) M = match (pm_get M q).bind (fun c => pm_el 0 c i) with
  | some v => fr S d (131, 43, L, v :: r) M
  | none => none := (fr_eq S (d) (131, 42, L, .int i :: .ref q :: r) M).trans (x_oal _ _ S 0 131 43 L r i q hq M)
theorem f131_43 (S : pm_S) (d : Nat) (L : List Value) (x y : Int32) (r : List Value) (M : pm_M) : fr S (d) (131, 43, L, .int y :: .int x :: r) M = fr S d (131, 44, L, .int (x + y) :: r) M := (fr_eq S (d) (131, 43, L, .int y :: .int x :: r) M).trans (x_oii _ _ (fun x y => x + y) 131 44 L r x y M)
theorem f131_44 (S : pm_S) (d : Nat) (L : List Value) (v : Value) (r : List Value) (M : pm_M) : fr S (d) (131, 44, L, v :: r) M = if pm_ty v = 0 ∧ 5 < L.length ∧ ¬ pm_ty (L.getD (5 - 1) pm_U) = 1 then fr S d (131, 46, L.set 5 v, r) M else none := (fr_eq S (d) (131, 44, L, v :: r) M).trans (x_ost _ _ 0 5 131 46 L r v M)
theorem f131_46 (S : pm_S) (d : Nat) (L : List Value) (st : List Value) (M : pm_M) : fr S (d) (131, 46, L, st) M = match L.getD 6 pm_U with
  | .int x => if 6 < L.length ∧ ¬ pm_ty (L.getD (6 - 1) pm_U) = 1 then fr S d (131, 49, L.set 6 (.int (x + 1)), st) M else none
  | _ => none := (fr_eq S (d) (131, 46, L, st) M).trans (x_oinc _ _ 6 1 131 49 L st M)
theorem f131_49 (S : pm_S) (d : Nat) (L : List Value) (st : List Value) (M : pm_M) : fr S (d) (131, 49, L, st) M = fr S d (131, 6, L, st) M := (fr_eq S (d) (131, 49, L, st) M).trans (x_ogo _ _ 131 6 L st M)
theorem f131_52 (S : pm_S) (d : Nat) (L : List Value) (st : List Value) (M : pm_M) : fr S (d) (131, 52, L, st) M = if pm_ty (L.getD 5 pm_U) = 0 then fr S d (131, 54, L, L.getD 5 pm_U :: st) M else none := (fr_eq S (d) (131, 52, L, st) M).trans (x_old _ _ 0 5 131 54 L st M)
theorem f131_54 (S : pm_S) (d : Nat) (L : List Value) (st : List Value) (M : pm_M) : fr S (d) (131, 54, L, st) M = if pm_ty (L.getD 0 pm_U) = 2 then fr S d (131, 55, L, L.getD 0 pm_U :: st) M else none := (fr_eq S (d) (131, 54, L, st) M).trans (x_old _ _ 2 0 131 55 L st M)
theorem f131_55 (S : pm_S) (d : Nat) (L : List Value) (q : Nat) (r : List Value) (M : pm_M) : fr S (d) (131, 55, L, .ref q :: r) M = match pm_get M q with
  | some (.inr (c, fs)) => if c = 3 ∧ 6 < fs.length then fr S d (131, 58, L, fs.getD 6 pm_U :: r) M else none
  | _ => none := (fr_eq S (d) (131, 55, L, .ref q :: r) M).trans (x_ogf _ _ 3 6 131 58 L r q M)
theorem f131_58 (S : pm_S) (d : Nat) (L : List Value) (st : List Value) (M : pm_M) : fr S (d) (131, 58, L, st) M = if pm_ty (L.getD 1 pm_U) = 0 then fr S d (131, 59, L, L.getD 1 pm_U :: st) M else none := (fr_eq S (d) (131, 58, L, st) M).trans (x_old _ _ 0 1 131 59 L st M)
theorem f131_59 (S : pm_S) (d : Nat) (L : List Value) (i : Int32) (q : Nat) (hq : ¬ q = 1) (r : List Value) (M : pm_M) : fr S (d) (131, 59, L, .int i :: .ref q :: r) M = match (pm_get M q).bind (fun c => pm_el 0 c i) with
  | some v => fr S d (131, 60, L, v :: r) M
  | none => none := (fr_eq S (d) (131, 59, L, .int i :: .ref q :: r) M).trans (x_oal _ _ S 0 131 60 L r i q hq M)
theorem f131_60 (S : pm_S) (d : Nat) (L : List Value) (x y : Int32) (r : List Value) (M : pm_M) : fr S (d) (131, 60, L, .int y :: .int x :: r) M = fr S d (131, 61, L, .int (x + y) :: r) M := (fr_eq S (d) (131, 60, L, .int y :: .int x :: r) M).trans (x_oii _ _ (fun x y => x + y) 131 61 L r x y M)
theorem f131_61 (S : pm_S) (d : Nat) (L : List Value) (st : List Value) (M : pm_M) : fr S (d) (131, 61, L, st) M = if pm_ty (L.getD 0 pm_U) = 2 then fr S d (131, 62, L, L.getD 0 pm_U :: st) M else none := (fr_eq S (d) (131, 61, L, st) M).trans (x_old _ _ 2 0 131 62 L st M)
theorem f131_62 (S : pm_S) (d : Nat) (L : List Value) (q : Nat) (r : List Value) (M : pm_M) : fr S (d) (131, 62, L, .ref q :: r) M = match pm_get M q with
  | some (.inr (c, fs)) => if c = 3 ∧ 12 < fs.length then fr S d (131, 65, L, fs.getD 12 pm_U :: r) M else none
  | _ => none := (fr_eq S (d) (131, 62, L, .ref q :: r) M).trans (x_ogf _ _ 3 12 131 65 L r q M)
theorem f131_65 (S : pm_S) (d : Nat) (L : List Value) (st : List Value) (M : pm_M) : fr S (d) (131, 65, L, st) M = if pm_ty (L.getD 2 pm_U) = 0 then fr S d (131, 66, L, L.getD 2 pm_U :: st) M else none := (fr_eq S (d) (131, 65, L, st) M).trans (x_old _ _ 0 2 131 66 L st M)
theorem f131_66 (S : pm_S) (d : Nat) (L : List Value) (i : Int32) (q : Nat) (hq : ¬ q = 1) (r : List Value) (M : pm_M) : fr S (d) (131, 66, L, .int i :: .ref q :: r) M = match (pm_get M q).bind (fun c => pm_el 0 c i) with
  | some v => fr S d (131, 67, L, v :: r) M
  | none => none := (fr_eq S (d) (131, 66, L, .int i :: .ref q :: r) M).trans (x_oal _ _ S 0 131 67 L r i q hq M)
theorem f131_67 (S : pm_S) (d : Nat) (L : List Value) (x y : Int32) (r : List Value) (M : pm_M) : fr S (d) (131, 67, L, .int y :: .int x :: r) M = if x ≤ y then fr S d (131, 85, L, r) M else fr S d (131, 70, L, r) M := (fr_eq S (d) (131, 67, L, .int y :: .int x :: r) M).trans (x_oc2le _ _ 131 70 85 L r x y M)
theorem f131_70 (S : pm_S) (d : Nat) (L : List Value) (st : List Value) (M : pm_M) : fr S (d) (131, 70, L, st) M = if pm_ty (L.getD 5 pm_U) = 0 then fr S d (131, 72, L, L.getD 5 pm_U :: st) M else none := (fr_eq S (d) (131, 70, L, st) M).trans (x_old _ _ 0 5 131 72 L st M)
theorem f131_72 (S : pm_S) (d : Nat) (L : List Value) (st : List Value) (M : pm_M) : fr S (d) (131, 72, L, st) M = if pm_ty (L.getD 0 pm_U) = 2 then fr S d (131, 73, L, L.getD 0 pm_U :: st) M else none := (fr_eq S (d) (131, 72, L, st) M).trans (x_old _ _ 2 0 131 73 L st M)
theorem f131_73 (S : pm_S) (d : Nat) (L : List Value) (q : Nat) (r : List Value) (M : pm_M) : fr S (d) (131, 73, L, .ref q :: r) M = match pm_get M q with
  | some (.inr (c, fs)) => if c = 3 ∧ 12 < fs.length then fr S d (131, 76, L, fs.getD 12 pm_U :: r) M else none
  | _ => none := (fr_eq S (d) (131, 73, L, .ref q :: r) M).trans (x_ogf _ _ 3 12 131 76 L r q M)
theorem f131_76 (S : pm_S) (d : Nat) (L : List Value) (st : List Value) (M : pm_M) : fr S (d) (131, 76, L, st) M = if pm_ty (L.getD 2 pm_U) = 0 then fr S d (131, 77, L, L.getD 2 pm_U :: st) M else none := (fr_eq S (d) (131, 76, L, st) M).trans (x_old _ _ 0 2 131 77 L st M)
theorem f131_77 (S : pm_S) (d : Nat) (L : List Value) (i : Int32) (q : Nat) (hq : ¬ q = 1) (r : List Value) (M : pm_M) : fr S (d) (131, 77, L, .int i :: .ref q :: r) M = match (pm_get M q).bind (fun c => pm_el 0 c i) with
  | some v => fr S d (131, 78, L, v :: r) M
  | none => none := (fr_eq S (d) (131, 77, L, .int i :: .ref q :: r) M).trans (x_oal _ _ S 0 131 78 L r i q hq M)
theorem f131_78 (S : pm_S) (d : Nat) (L : List Value) (x y : Int32) (r : List Value) (M : pm_M) : fr S (d) (131, 78, L, .int y :: .int x :: r) M = if y < x then fr S d (131, 85, L, r) M else fr S d (131, 81, L, r) M := (fr_eq S (d) (131, 78, L, .int y :: .int x :: r) M).trans (x_oc2gt _ _ 131 81 85 L r x y M)
theorem f131_81 (S : pm_S) (d : Nat) (L : List Value) (st : List Value) (M : pm_M) : fr S (d) (131, 81, L, st) M = fr S d (131, 82, L, .int 1 :: st) M := (fr_eq S (d) (131, 81, L, st) M).trans (x_ocs _ _ (.int 1) 131 82 L st M)
theorem f131_82 (S : pm_S) (d : Nat) (L : List Value) (st : List Value) (M : pm_M) : fr S (d) (131, 82, L, st) M = fr S d (131, 86, L, st) M := (fr_eq S (d) (131, 82, L, st) M).trans (x_ogo _ _ 131 86 L st M)
theorem f131_85 (S : pm_S) (d : Nat) (L : List Value) (st : List Value) (M : pm_M) : fr S (d) (131, 85, L, st) M = fr S d (131, 86, L, .int 0 :: st) M := (fr_eq S (d) (131, 85, L, st) M).trans (x_ocs _ _ (.int 0) 131 86 L st M)
theorem f131_86 (S : pm_S) (d : Nat) (L : List Value) (v : Value) (M : pm_M) : fr S (d) (131, 86, L, [v]) M = if pm_fit 3 v = true then some (.inl (some v), M) else none := (fr_eq S (d) (131, 86, L, [v]) M).trans (x_ort _ _ 3 v M)
theorem f132_0 (S : pm_S) (d : Nat) (L : List Value) (st : List Value) (M : pm_M) : fr S (d) (132, 0, L, st) M = fr S d (132, 1, L, .int 0 :: st) M := (fr_eq S (d) (132, 0, L, st) M).trans (x_ocs _ _ (.int 0) 132 1 L st M)
theorem f132_1 (S : pm_S) (d : Nat) (L : List Value) (v : Value) (r : List Value) (M : pm_M) : fr S (d) (132, 1, L, v :: r) M = if pm_ty v = 0 ∧ 4 < L.length ∧ ¬ pm_ty (L.getD (4 - 1) pm_U) = 1 then fr S d (132, 3, L.set 4 v, r) M else none := (fr_eq S (d) (132, 1, L, v :: r) M).trans (x_ost _ _ 0 4 132 3 L r v M)
theorem f132_3 (S : pm_S) (d : Nat) (L : List Value) (st : List Value) (M : pm_M) : fr S (d) (132, 3, L, st) M = if pm_ty (L.getD 3 pm_U) = 0 then fr S d (132, 4, L, L.getD 3 pm_U :: st) M else none := (fr_eq S (d) (132, 3, L, st) M).trans (x_old _ _ 0 3 132 4 L st M)
theorem f132_4 (S : pm_S) (d : Nat) (L : List Value) (st : List Value) (M : pm_M) : fr S (d) (132, 4, L, st) M = fr S d (132, 5, L, .int 1 :: st) M := (fr_eq S (d) (132, 4, L, st) M).trans (x_ocs _ _ (.int 1) 132 5 L st M)
theorem f132_5 (S : pm_S) (d : Nat) (L : List Value) (x y : Int32) (r : List Value) (M : pm_M) : fr S (d) (132, 5, L, .int y :: .int x :: r) M = fr S d (132, 6, L, .int (x - y) :: r) M := (fr_eq S (d) (132, 5, L, .int y :: .int x :: r) M).trans (x_oii _ _ (fun x y => x - y) 132 6 L r x y M)
theorem f132_6 (S : pm_S) (d : Nat) (L : List Value) (v : Value) (r : List Value) (M : pm_M) : fr S (d) (132, 6, L, v :: r) M = if pm_ty v = 0 ∧ 5 < L.length ∧ ¬ pm_ty (L.getD (5 - 1) pm_U) = 1 then fr S d (132, 8, L.set 5 v, r) M else none := (fr_eq S (d) (132, 6, L, v :: r) M).trans (x_ost _ _ 0 5 132 8 L r v M)
theorem f132_8 (S : pm_S) (d : Nat) (L : List Value) (st : List Value) (M : pm_M) : fr S (d) (132, 8, L, st) M = if pm_ty (L.getD 5 pm_U) = 0 then fr S d (132, 10, L, L.getD 5 pm_U :: st) M else none := (fr_eq S (d) (132, 8, L, st) M).trans (x_old _ _ 0 5 132 10 L st M)
theorem f132_10 (S : pm_S) (d : Nat) (L : List Value) (x : Int32) (r : List Value) (M : pm_M) : fr S (d) (132, 10, L, .int x :: r) M = if x < 0 then fr S d (132, 148, L, r) M else fr S d (132, 13, L, r) M := (fr_eq S (d) (132, 10, L, .int x :: r) M).trans (x_oc1lt _ _ 132 13 148 L r x M)
theorem f132_13 (S : pm_S) (d : Nat) (L : List Value) (st : List Value) (M : pm_M) : fr S (d) (132, 13, L, st) M = if pm_ty (L.getD 2 pm_U) = 0 then fr S d (132, 14, L, L.getD 2 pm_U :: st) M else none := (fr_eq S (d) (132, 13, L, st) M).trans (x_old _ _ 0 2 132 14 L st M)
theorem f132_14 (S : pm_S) (d : Nat) (L : List Value) (st : List Value) (M : pm_M) : fr S (d) (132, 14, L, st) M = fr S d (132, 15, L, .int 4 :: st) M := (fr_eq S (d) (132, 14, L, st) M).trans (x_ocs _ _ (.int 4) 132 15 L st M)
theorem f132_15 (S : pm_S) (d : Nat) (L : List Value) (st : List Value) (M : pm_M) : fr S (d) (132, 15, L, st) M = if pm_ty (L.getD 5 pm_U) = 0 then fr S d (132, 17, L, L.getD 5 pm_U :: st) M else none := (fr_eq S (d) (132, 15, L, st) M).trans (x_old _ _ 0 5 132 17 L st M)
theorem f132_17 (S : pm_S) (d : Nat) (L : List Value) (x y : Int32) (r : List Value) (M : pm_M) : fr S (d) (132, 17, L, .int y :: .int x :: r) M = fr S d (132, 18, L, .int (x * y) :: r) M := (fr_eq S (d) (132, 17, L, .int y :: .int x :: r) M).trans (x_oii _ _ (fun x y => x * y) 132 18 L r x y M)
theorem f132_18 (S : pm_S) (d : Nat) (L : List Value) (x y : Int32) (r : List Value) (M : pm_M) : fr S (d) (132, 18, L, .int y :: .int x :: r) M = fr S d (132, 19, L, .int (x >>> (y &&& 31)) :: r) M := (fr_eq S (d) (132, 18, L, .int y :: .int x :: r) M).trans (x_oii _ _ (fun x y => x >>> (y &&& 31)) 132 19 L r x y M)
theorem f132_19 (S : pm_S) (d : Nat) (L : List Value) (st : List Value) (M : pm_M) : fr S (d) (132, 19, L, st) M = fr S d (132, 21, L, .int 15 :: st) M := (fr_eq S (d) (132, 19, L, st) M).trans (x_ocs _ _ (.int 15) 132 21 L st M)
theorem f132_21 (S : pm_S) (d : Nat) (L : List Value) (x y : Int32) (r : List Value) (M : pm_M) : fr S (d) (132, 21, L, .int y :: .int x :: r) M = fr S d (132, 22, L, .int (x &&& y) :: r) M := (fr_eq S (d) (132, 21, L, .int y :: .int x :: r) M).trans (x_oii _ _ (fun x y => x &&& y) 132 22 L r x y M)
theorem f132_22 (S : pm_S) (d : Nat) (L : List Value) (v : Value) (r : List Value) (M : pm_M) : fr S (d) (132, 22, L, v :: r) M = if pm_ty v = 0 ∧ 6 < L.length ∧ ¬ pm_ty (L.getD (6 - 1) pm_U) = 1 then fr S d (132, 24, L.set 6 v, r) M else none := (fr_eq S (d) (132, 22, L, v :: r) M).trans (x_ost _ _ 0 6 132 24 L r v M)
theorem f132_24 (S : pm_S) (d : Nat) (L : List Value) (st : List Value) (M : pm_M) : fr S (d) (132, 24, L, st) M = if pm_ty (L.getD 6 pm_U) = 0 then fr S d (132, 26, L, L.getD 6 pm_U :: st) M else none := (fr_eq S (d) (132, 24, L, st) M).trans (x_old _ _ 0 6 132 26 L st M)
theorem f132_26 (S : pm_S) (d : Nat) (L : List Value) (st : List Value) (M : pm_M) : fr S (d) (132, 26, L, st) M = fr S d (132, 27, L, .int 4 :: st) M := (fr_eq S (d) (132, 26, L, st) M).trans (x_ocs _ _ (.int 4) 132 27 L st M)
theorem f132_27 (S : pm_S) (d : Nat) (L : List Value) (x y : Int32) (r : List Value) (M : pm_M) : fr S (d) (132, 27, L, .int y :: .int x :: r) M = if y = 0 then none else fr S d (132, 28, L, .int (x / y) :: r) M := (fr_eq S (d) (132, 27, L, .int y :: .int x :: r) M).trans (x_oir _ _ 132 28 L r x y M true)
theorem f132_28 (S : pm_S) (d : Nat) (L : List Value) (st : List Value) (M : pm_M) : fr S (d) (132, 28, L, st) M = if pm_ty (L.getD 0 pm_U) = 2 then fr S d (132, 29, L, L.getD 0 pm_U :: st) M else none := (fr_eq S (d) (132, 28, L, st) M).trans (x_old _ _ 2 0 132 29 L st M)
theorem f132_29 (S : pm_S) (d : Nat) (L : List Value) (q : Nat) (r : List Value) (M : pm_M) : fr S (d) (132, 29, L, .ref q :: r) M = match pm_get M q with
  | some (.inr (c, fs)) => if c = 3 ∧ 15 < fs.length then fr S d (132, 32, L, fs.getD 15 pm_U :: r) M else none
  | _ => none := (fr_eq S (d) (132, 29, L, .ref q :: r) M).trans (x_ogf _ _ 3 15 132 32 L r q M)
theorem f132_32 (S : pm_S) (d : Nat) (L : List Value) (x y : Int32) (r : List Value) (M : pm_M) : fr S (d) (132, 32, L, .int y :: .int x :: r) M = if y ≤ x then fr S d (132, 47, L, r) M else fr S d (132, 35, L, r) M := (fr_eq S (d) (132, 32, L, .int y :: .int x :: r) M).trans (x_oc2ge _ _ 132 35 47 L r x y M)
theorem f132_35 (S : pm_S) (d : Nat) (L : List Value) (st : List Value) (M : pm_M) : fr S (d) (132, 35, L, st) M = if pm_ty (L.getD 0 pm_U) = 2 then fr S d (132, 36, L, L.getD 0 pm_U :: st) M else none := (fr_eq S (d) (132, 35, L, st) M).trans (x_old _ _ 2 0 132 36 L st M)
theorem f132_36 (S : pm_S) (d : Nat) (L : List Value) (q : Nat) (r : List Value) (M : pm_M) : fr S (d) (132, 36, L, .ref q :: r) M = match pm_get M q with
  | some (.inr (c, fs)) => if c = 3 ∧ 14 < fs.length then fr S d (132, 39, L, fs.getD 14 pm_U :: r) M else none
  | _ => none := (fr_eq S (d) (132, 36, L, .ref q :: r) M).trans (x_ogf _ _ 3 14 132 39 L r q M)
theorem f132_39 (S : pm_S) (d : Nat) (L : List Value) (st : List Value) (M : pm_M) : fr S (d) (132, 39, L, st) M = if pm_ty (L.getD 6 pm_U) = 0 then fr S d (132, 41, L, L.getD 6 pm_U :: st) M else none := (fr_eq S (d) (132, 39, L, st) M).trans (x_old _ _ 0 6 132 41 L st M)
theorem f132_41 (S : pm_S) (d : Nat) (L : List Value) (st : List Value) (M : pm_M) : fr S (d) (132, 41, L, st) M = fr S d (132, 42, L, .int 4 :: st) M := (fr_eq S (d) (132, 41, L, st) M).trans (x_ocs _ _ (.int 4) 132 42 L st M)
theorem f132_42 (S : pm_S) (d : Nat) (L : List Value) (x y : Int32) (r : List Value) (M : pm_M) : fr S (d) (132, 42, L, .int y :: .int x :: r) M = if y = 0 then none else fr S d (132, 43, L, .int (x / y) :: r) M := (fr_eq S (d) (132, 42, L, .int y :: .int x :: r) M).trans (x_oir _ _ 132 43 L r x y M true)
theorem f132_43 (S : pm_S) (d : Nat) (L : List Value) (i : Int32) (q : Nat) (hq : ¬ q = 1) (r : List Value) (M : pm_M) : fr S (d) (132, 43, L, .int i :: .ref q :: r) M = match (pm_get M q).bind (fun c => pm_el 0 c i) with
  | some v => fr S d (132, 44, L, v :: r) M
  | none => none := (fr_eq S (d) (132, 43, L, .int i :: .ref q :: r) M).trans (x_oal _ _ S 0 132 44 L r i q hq M)
theorem f132_44 (S : pm_S) (d : Nat) (L : List Value) (st : List Value) (M : pm_M) : fr S (d) (132, 44, L, st) M = fr S d (132, 48, L, st) M := (fr_eq S (d) (132, 44, L, st) M).trans (x_ogo _ _ 132 48 L st M)
theorem f132_47 (S : pm_S) (d : Nat) (L : List Value) (st : List Value) (M : pm_M) : fr S (d) (132, 47, L, st) M = fr S d (132, 48, L, .int (-1) :: st) M := (fr_eq S (d) (132, 47, L, st) M).trans (x_ocs _ _ (.int (-1)) 132 48 L st M)
theorem f132_48 (S : pm_S) (d : Nat) (L : List Value) (v : Value) (r : List Value) (M : pm_M) : fr S (d) (132, 48, L, v :: r) M = if pm_ty v = 0 ∧ 7 < L.length ∧ ¬ pm_ty (L.getD (7 - 1) pm_U) = 1 then fr S d (132, 50, L.set 7 v, r) M else none := (fr_eq S (d) (132, 48, L, v :: r) M).trans (x_ost _ _ 0 7 132 50 L r v M)
theorem f132_50 (S : pm_S) (d : Nat) (L : List Value) (st : List Value) (M : pm_M) : fr S (d) (132, 50, L, st) M = if pm_ty (L.getD 6 pm_U) = 0 then fr S d (132, 52, L, L.getD 6 pm_U :: st) M else none := (fr_eq S (d) (132, 50, L, st) M).trans (x_old _ _ 0 6 132 52 L st M)
theorem f132_52 (S : pm_S) (d : Nat) (L : List Value) (st : List Value) (M : pm_M) : fr S (d) (132, 52, L, st) M = fr S d (132, 53, L, .int 4 :: st) M := (fr_eq S (d) (132, 52, L, st) M).trans (x_ocs _ _ (.int 4) 132 53 L st M)
theorem f132_53 (S : pm_S) (d : Nat) (L : List Value) (x y : Int32) (r : List Value) (M : pm_M) : fr S (d) (132, 53, L, .int y :: .int x :: r) M = if y = 0 then none else fr S d (132, 54, L, .int (x - x / y * y) :: r) M := (fr_eq S (d) (132, 53, L, .int y :: .int x :: r) M).trans (x_oir _ _ 132 54 L r x y M false)
theorem f132_54 (S : pm_S) (d : Nat) (L : List Value) (v : Value) (r : List Value) (M : pm_M) : fr S (d) (132, 54, L, v :: r) M = if pm_ty v = 0 ∧ 8 < L.length ∧ ¬ pm_ty (L.getD (8 - 1) pm_U) = 1 then fr S d (132, 56, L.set 8 v, r) M else none := (fr_eq S (d) (132, 54, L, v :: r) M).trans (x_ost _ _ 0 8 132 56 L r v M)
theorem f132_56 (S : pm_S) (d : Nat) (L : List Value) (st : List Value) (M : pm_M) : fr S (d) (132, 56, L, st) M = if pm_ty (L.getD 7 pm_U) = 0 then fr S d (132, 58, L, L.getD 7 pm_U :: st) M else none := (fr_eq S (d) (132, 56, L, st) M).trans (x_old _ _ 0 7 132 58 L st M)
theorem f132_58 (S : pm_S) (d : Nat) (L : List Value) (x : Int32) (r : List Value) (M : pm_M) : fr S (d) (132, 58, L, .int x :: r) M = if x < 0 then fr S d (132, 142, L, r) M else fr S d (132, 61, L, r) M := (fr_eq S (d) (132, 58, L, .int x :: r) M).trans (x_oc1lt _ _ 132 61 142 L r x M)
theorem f132_61 (S : pm_S) (d : Nat) (L : List Value) (st : List Value) (M : pm_M) : fr S (d) (132, 61, L, st) M = if pm_ty (L.getD 8 pm_U) = 0 then fr S d (132, 63, L, L.getD 8 pm_U :: st) M else none := (fr_eq S (d) (132, 61, L, st) M).trans (x_old _ _ 0 8 132 63 L st M)
theorem f132_63 (S : pm_S) (d : Nat) (L : List Value) (st : List Value) (M : pm_M) : fr S (d) (132, 63, L, st) M = if pm_ty (L.getD 0 pm_U) = 2 then fr S d (132, 64, L, L.getD 0 pm_U :: st) M else none := (fr_eq S (d) (132, 63, L, st) M).trans (x_old _ _ 2 0 132 64 L st M)
theorem f132_64 (S : pm_S) (d : Nat) (L : List Value) (q : Nat) (r : List Value) (M : pm_M) : fr S (d) (132, 64, L, .ref q :: r) M = match pm_get M q with
  | some (.inr (c, fs)) => if c = 3 ∧ 2 < fs.length then fr S d (132, 67, L, fs.getD 2 pm_U :: r) M else none
  | _ => none := (fr_eq S (d) (132, 64, L, .ref q :: r) M).trans (x_ogf _ _ 3 2 132 67 L r q M)
theorem f132_67 (S : pm_S) (d : Nat) (L : List Value) (x y : Int32) (r : List Value) (M : pm_M) : fr S (d) (132, 67, L, .int y :: .int x :: r) M = if y ≤ x then fr S d (132, 142, L, r) M else fr S d (132, 70, L, r) M := (fr_eq S (d) (132, 67, L, .int y :: .int x :: r) M).trans (x_oc2ge _ _ 132 70 142 L r x y M)
theorem f132_70 (S : pm_S) (d : Nat) (L : List Value) (st : List Value) (M : pm_M) : fr S (d) (132, 70, L, st) M = if pm_ty (L.getD 4 pm_U) = 0 then fr S d (132, 72, L, L.getD 4 pm_U :: st) M else none := (fr_eq S (d) (132, 70, L, st) M).trans (x_old _ _ 0 4 132 72 L st M)
theorem f132_72 (S : pm_S) (d : Nat) (L : List Value) (st : List Value) (M : pm_M) : fr S (d) (132, 72, L, st) M = if pm_ty (L.getD 3 pm_U) = 0 then fr S d (132, 73, L, L.getD 3 pm_U :: st) M else none := (fr_eq S (d) (132, 72, L, st) M).trans (x_old _ _ 0 3 132 73 L st M)
theorem f132_73 (S : pm_S) (d : Nat) (L : List Value) (st : List Value) (M : pm_M) : fr S (d) (132, 73, L, st) M = fr S d (132, 74, L, .int 1 :: st) M := (fr_eq S (d) (132, 73, L, st) M).trans (x_ocs _ _ (.int 1) 132 74 L st M)
theorem f132_74 (S : pm_S) (d : Nat) (L : List Value) (x y : Int32) (r : List Value) (M : pm_M) : fr S (d) (132, 74, L, .int y :: .int x :: r) M = fr S d (132, 75, L, .int (x - y) :: r) M := (fr_eq S (d) (132, 74, L, .int y :: .int x :: r) M).trans (x_oii _ _ (fun x y => x - y) 132 75 L r x y M)
theorem f132_75 (S : pm_S) (d : Nat) (L : List Value) (st : List Value) (M : pm_M) : fr S (d) (132, 75, L, st) M = if pm_ty (L.getD 5 pm_U) = 0 then fr S d (132, 77, L, L.getD 5 pm_U :: st) M else none := (fr_eq S (d) (132, 75, L, st) M).trans (x_old _ _ 0 5 132 77 L st M)
theorem f132_77 (S : pm_S) (d : Nat) (L : List Value) (x y : Int32) (r : List Value) (M : pm_M) : fr S (d) (132, 77, L, .int y :: .int x :: r) M = fr S d (132, 78, L, .int (x - y) :: r) M := (fr_eq S (d) (132, 77, L, .int y :: .int x :: r) M).trans (x_oii _ _ (fun x y => x - y) 132 78 L r x y M)
theorem f132_78 (S : pm_S) (d : Nat) (L : List Value) (x y : Int32) (r : List Value) (M : pm_M) : fr S (d) (132, 78, L, .int y :: .int x :: r) M = if x < y then fr S d (132, 142, L, r) M else fr S d (132, 81, L, r) M := (fr_eq S (d) (132, 78, L, .int y :: .int x :: r) M).trans (x_oc2lt _ _ 132 81 142 L r x y M)
theorem f132_81 (S : pm_S) (d : Nat) (L : List Value) (st : List Value) (M : pm_M) : fr S (d) (132, 81, L, st) M = if pm_ty (L.getD 0 pm_U) = 2 then fr S d (132, 82, L, L.getD 0 pm_U :: st) M else none := (fr_eq S (d) (132, 81, L, st) M).trans (x_old _ _ 2 0 132 82 L st M)
theorem f132_82 (S : pm_S) (d : Nat) (L : List Value) (st : List Value) (M : pm_M) : fr S (d) (132, 82, L, st) M = if pm_ty (L.getD 7 pm_U) = 0 then fr S d (132, 84, L, L.getD 7 pm_U :: st) M else none := (fr_eq S (d) (132, 82, L, st) M).trans (x_old _ _ 0 7 132 84 L st M)
theorem f132_84 (S : pm_S) (d : Nat) (L : List Value) (st : List Value) (M : pm_M) : fr S (d) (132, 84, L, st) M = if pm_ty (L.getD 1 pm_U) = 0 then fr S d (132, 85, L, L.getD 1 pm_U :: st) M else none := (fr_eq S (d) (132, 84, L, st) M).trans (x_old _ _ 0 1 132 85 L st M)
theorem f132_85 (S : pm_S) (d : Nat) (L : List Value) (st : List Value) (M : pm_M) : fr S (d) (132, 85, L, st) M = if pm_ty (L.getD 8 pm_U) = 0 then fr S d (132, 87, L, L.getD 8 pm_U :: st) M else none := (fr_eq S (d) (132, 85, L, st) M).trans (x_old _ _ 0 8 132 87 L st M)
theorem f132_87 (S : pm_S) (d : Nat) (L : List Value) (st : List Value) (M : pm_M) : fr S (d + 1) (132, 87, L, st) M = match pm_ag 4 [] st with
  | some (a, r) => if r.length ≤ 4 ∧ (1 = 0 ∨ pm_obj M 3 (a.headD pm_U) = true) then (match fr S d (130, 0, a ++ [pm_U], []) M with
    | none => none
    | some (.inl v, M') => fr S (d + 1) (132, 90, L, v.toList ++ r) M'
    | some (.inr E, M') => some (.inr E, M')) else none
  | none => none := (fr_eq S (d + 1) (132, 87, L, st) M).trans (x_ocl _ _ 1 130 4 3 [pm_U] 132 90 L st M)
theorem f132_90 (S : pm_S) (d : Nat) (L : List Value) (x : Int32) (r : List Value) (M : pm_M) : fr S (d) (132, 90, L, .int x :: r) M = if ¬ x = 0 then fr S d (132, 96, L, r) M else fr S d (132, 93, L, r) M := (fr_eq S (d) (132, 90, L, .int x :: r) M).trans (x_oc1ne _ _ 132 93 96 L r x M)
theorem f132_93 (S : pm_S) (d : Nat) (L : List Value) (st : List Value) (M : pm_M) : fr S (d) (132, 93, L, st) M = fr S d (132, 142, L, st) M := (fr_eq S (d) (132, 93, L, st) M).trans (x_ogo _ _ 132 142 L st M)
theorem f132_96 (S : pm_S) (d : Nat) (L : List Value) (st : List Value) (M : pm_M) : fr S (d) (132, 96, L, st) M = if pm_ty (L.getD 1 pm_U) = 0 then fr S d (132, 97, L, L.getD 1 pm_U :: st) M else none := (fr_eq S (d) (132, 96, L, st) M).trans (x_old _ _ 0 1 132 97 L st M)
theorem f132_97 (S : pm_S) (d : Nat) (L : List Value) (st : List Value) (M : pm_M) : fr S (d) (132, 97, L, st) M = if pm_ty (L.getD 8 pm_U) = 0 then fr S d (132, 99, L, L.getD 8 pm_U :: st) M else none := (fr_eq S (d) (132, 97, L, st) M).trans (x_old _ _ 0 8 132 99 L st M)
theorem f132_99 (S : pm_S) (d : Nat) (L : List Value) (st : List Value) (M : pm_M) : fr S (d) (132, 99, L, st) M = if pm_ty (L.getD 0 pm_U) = 2 then fr S d (132, 100, L, L.getD 0 pm_U :: st) M else none := (fr_eq S (d) (132, 99, L, st) M).trans (x_old _ _ 2 0 132 100 L st M)
theorem f132_100 (S : pm_S) (d : Nat) (L : List Value) (st : List Value) (M : pm_M) : fr S (d) (132, 100, L, st) M = if pm_ty (L.getD 1 pm_U) = 0 then fr S d (132, 101, L, L.getD 1 pm_U :: st) M else none := (fr_eq S (d) (132, 100, L, st) M).trans (x_old _ _ 0 1 132 101 L st M)
theorem f132_101 (S : pm_S) (d : Nat) (L : List Value) (st : List Value) (M : pm_M) : fr S (d) (132, 101, L, st) M = if pm_ty (L.getD 8 pm_U) = 0 then fr S d (132, 103, L, L.getD 8 pm_U :: st) M else none := (fr_eq S (d) (132, 101, L, st) M).trans (x_old _ _ 0 8 132 103 L st M)
theorem f132_103 (S : pm_S) (d : Nat) (L : List Value) (st : List Value) (M : pm_M) : fr S (d + 1) (132, 103, L, st) M = match pm_ag 3 [] st with
  | some (a, r) => if r.length ≤ 4 ∧ (1 = 0 ∨ pm_obj M 3 (a.headD pm_U) = true) then (match fr S d (129, 0, a ++ [pm_U, pm_U], []) M with
    | none => none
    | some (.inl v, M') => fr S (d + 1) (132, 106, L, v.toList ++ r) M'
    | some (.inr E, M') => some (.inr E, M')) else none
  | none => none := (fr_eq S (d + 1) (132, 103, L, st) M).trans (x_ocl _ _ 1 129 3 3 [pm_U, pm_U] 132 106 L st M)
theorem f132_106 (S : pm_S) (d : Nat) (L : List Value) (st : List Value) (M : pm_M) : fr S (d + 1) (132, 106, L, st) M = match pm_ag 3 [] st with
  | some (a, r) => if r.length ≤ 4 ∧ (0 = 0 ∨ pm_obj M 3 (a.headD pm_U) = true) then (match fr S d (108, 0, a ++ [], []) M with
    | none => none
    | some (.inl v, M') => fr S (d + 1) (132, 109, L, v.toList ++ r) M'
    | some (.inr E, M') => some (.inr E, M')) else none
  | none => none := (fr_eq S (d + 1) (132, 106, L, st) M).trans (x_ocl _ _ 0 108 3 3 [] 132 109 L st M)
theorem f132_109 (S : pm_S) (d : Nat) (L : List Value) (v : Value) (r : List Value) (M : pm_M) : fr S (d) (132, 109, L, v :: r) M = if pm_ty v = 0 ∧ 9 < L.length ∧ ¬ pm_ty (L.getD (9 - 1) pm_U) = 1 then fr S d (132, 111, L.set 9 v, r) M else none := (fr_eq S (d) (132, 109, L, v :: r) M).trans (x_ost _ _ 0 9 132 111 L r v M)
theorem f132_111 (S : pm_S) (d : Nat) (L : List Value) (st : List Value) (M : pm_M) : fr S (d) (132, 111, L, st) M = if pm_ty (L.getD 0 pm_U) = 2 then fr S d (132, 112, L, L.getD 0 pm_U :: st) M else none := (fr_eq S (d) (132, 111, L, st) M).trans (x_old _ _ 2 0 132 112 L st M)
theorem f132_112 (S : pm_S) (d : Nat) (L : List Value) (q : Nat) (r : List Value) (M : pm_M) : fr S (d) (132, 112, L, .ref q :: r) M = match pm_get M q with
  | some (.inr (c, fs)) => if c = 3 ∧ 16 < fs.length then fr S d (132, 115, L, fs.getD 16 pm_U :: r) M else none
  | _ => none := (fr_eq S (d) (132, 112, L, .ref q :: r) M).trans (x_ogf _ _ 3 16 132 115 L r q M)
theorem f132_115 (S : pm_S) (d : Nat) (L : List Value) (st : List Value) (M : pm_M) : fr S (d) (132, 115, L, st) M = if pm_ty (L.getD 4 pm_U) = 0 then fr S d (132, 117, L, L.getD 4 pm_U :: st) M else none := (fr_eq S (d) (132, 115, L, st) M).trans (x_old _ _ 0 4 132 117 L st M)
theorem f132_117 (S : pm_S) (d : Nat) (L : List Value) (st : List Value) (M : pm_M) : fr S (d) (132, 117, L, st) M = if pm_ty (L.getD 7 pm_U) = 0 then fr S d (132, 119, L, L.getD 7 pm_U :: st) M else none := (fr_eq S (d) (132, 117, L, st) M).trans (x_old _ _ 0 7 132 119 L st M)
theorem f132_119 (S : pm_S) (d : Nat) (L : List Value) (v : Value) (i : Int32) (q : Nat) (r : List Value) (M : pm_M) : fr S (d) (132, 119, L, v :: .int i :: .ref q :: r) M = if pm_sq M 9 v = true then (match (pm_get M q).bind (fun c => pm_ev 0 0 c i v) with
  | some c => fr S d (132, 120, L, r) (pm_set M q c)
  | none => none) else none := (fr_eq S (d) (132, 119, L, v :: .int i :: .ref q :: r) M).trans (x_oas _ _ 0 0 9 132 120 L r v i q M)
theorem f132_120 (S : pm_S) (d : Nat) (L : List Value) (st : List Value) (M : pm_M) : fr S (d) (132, 120, L, st) M = if pm_ty (L.getD 0 pm_U) = 2 then fr S d (132, 121, L, L.getD 0 pm_U :: st) M else none := (fr_eq S (d) (132, 120, L, st) M).trans (x_old _ _ 2 0 132 121 L st M)
theorem f132_121 (S : pm_S) (d : Nat) (L : List Value) (st : List Value) (M : pm_M) : fr S (d) (132, 121, L, st) M = if pm_ty (L.getD 7 pm_U) = 0 then fr S d (132, 123, L, L.getD 7 pm_U :: st) M else none := (fr_eq S (d) (132, 121, L, st) M).trans (x_old _ _ 0 7 132 123 L st M)
theorem f132_123 (S : pm_S) (d : Nat) (L : List Value) (st : List Value) (M : pm_M) : fr S (d) (132, 123, L, st) M = if pm_ty (L.getD 9 pm_U) = 0 then fr S d (132, 125, L, L.getD 9 pm_U :: st) M else none := (fr_eq S (d) (132, 123, L, st) M).trans (x_old _ _ 0 9 132 125 L st M)
theorem f132_125 (S : pm_S) (d : Nat) (L : List Value) (st : List Value) (M : pm_M) : fr S (d) (132, 125, L, st) M = if pm_ty (L.getD 7 pm_U) = 0 then fr S d (132, 127, L, L.getD 7 pm_U :: st) M else none := (fr_eq S (d) (132, 125, L, st) M).trans (x_old _ _ 0 7 132 127 L st M)
theorem f132_127 (S : pm_S) (d : Nat) (L : List Value) (st : List Value) (M : pm_M) : fr S (d + 1) (132, 127, L, st) M = match pm_ag 4 [] st with
  | some (a, r) => if r.length ≤ 4 ∧ (1 = 0 ∨ pm_obj M 3 (a.headD pm_U) = true) then (match fr S d (110, 0, a ++ [], []) M with
    | none => none
    | some (.inl v, M') => fr S (d + 1) (132, 130, L, v.toList ++ r) M'
    | some (.inr E, M') => some (.inr E, M')) else none
  | none => none := (fr_eq S (d + 1) (132, 127, L, st) M).trans (x_ocl _ _ 1 110 4 3 [] 132 130 L st M)
theorem f132_130 (S : pm_S) (d : Nat) (L : List Value) (st : List Value) (M : pm_M) : fr S (d) (132, 130, L, st) M = if pm_ty (L.getD 0 pm_U) = 2 then fr S d (132, 131, L, L.getD 0 pm_U :: st) M else none := (fr_eq S (d) (132, 130, L, st) M).trans (x_old _ _ 2 0 132 131 L st M)
theorem f132_131 (S : pm_S) (d : Nat) (L : List Value) (q : Nat) (r : List Value) (M : pm_M) : fr S (d) (132, 131, L, .ref q :: r) M = match pm_get M q with
  | some (.inr (c, fs)) => if c = 3 ∧ 9 < fs.length then fr S d (132, 134, L, fs.getD 9 pm_U :: r) M else none
  | _ => none := (fr_eq S (d) (132, 131, L, .ref q :: r) M).trans (x_ogf _ _ 3 9 132 134 L r q M)
theorem f132_134 (S : pm_S) (d : Nat) (L : List Value) (st : List Value) (M : pm_M) : fr S (d) (132, 134, L, st) M = if pm_ty (L.getD 7 pm_U) = 0 then fr S d (132, 136, L, L.getD 7 pm_U :: st) M else none := (fr_eq S (d) (132, 134, L, st) M).trans (x_old _ _ 0 7 132 136 L st M)
theorem f132_136 (S : pm_S) (d : Nat) (L : List Value) (st : List Value) (M : pm_M) : fr S (d) (132, 136, L, st) M = if pm_ty (L.getD 9 pm_U) = 0 then fr S d (132, 138, L, L.getD 9 pm_U :: st) M else none := (fr_eq S (d) (132, 136, L, st) M).trans (x_old _ _ 0 9 132 138 L st M)
theorem f132_138 (S : pm_S) (d : Nat) (L : List Value) (v : Value) (i : Int32) (q : Nat) (r : List Value) (M : pm_M) : fr S (d) (132, 138, L, v :: .int i :: .ref q :: r) M = if pm_sq M 9 v = true then (match (pm_get M q).bind (fun c => pm_ev 0 0 c i v) with
  | some c => fr S d (132, 139, L, r) (pm_set M q c)
  | none => none) else none := (fr_eq S (d) (132, 138, L, v :: .int i :: .ref q :: r) M).trans (x_oas _ _ 0 0 9 132 139 L r v i q M)
theorem f132_139 (S : pm_S) (d : Nat) (L : List Value) (st : List Value) (M : pm_M) : fr S (d) (132, 139, L, st) M = match L.getD 4 pm_U with
  | .int x => if 4 < L.length ∧ ¬ pm_ty (L.getD (4 - 1) pm_U) = 1 then fr S d (132, 142, L.set 4 (.int (x + 1)), st) M else none
  | _ => none := (fr_eq S (d) (132, 139, L, st) M).trans (x_oinc _ _ 4 1 132 142 L st M)
theorem f132_142 (S : pm_S) (d : Nat) (L : List Value) (st : List Value) (M : pm_M) : fr S (d) (132, 142, L, st) M = match L.getD 5 pm_U with
  | .int x => if 5 < L.length ∧ ¬ pm_ty (L.getD (5 - 1) pm_U) = 1 then fr S d (132, 145, L.set 5 (.int (x + (-1))), st) M else none
  | _ => none := (fr_eq S (d) (132, 142, L, st) M).trans (x_oinc _ _ 5 (-1) 132 145 L st M)
theorem f132_145 (S : pm_S) (d : Nat) (L : List Value) (st : List Value) (M : pm_M) : fr S (d) (132, 145, L, st) M = fr S d (132, 8, L, st) M := (fr_eq S (d) (132, 145, L, st) M).trans (x_ogo _ _ 132 8 L st M)
theorem f132_148 (S : pm_S) (d : Nat) (L : List Value) (st : List Value) (M : pm_M) : fr S (d) (132, 148, L, st) M = if pm_ty (L.getD 4 pm_U) = 0 then fr S d (132, 150, L, L.getD 4 pm_U :: st) M else none := (fr_eq S (d) (132, 148, L, st) M).trans (x_old _ _ 0 4 132 150 L st M)
theorem f132_150 (S : pm_S) (d : Nat) (L : List Value) (v : Value) (M : pm_M) : fr S (d) (132, 150, L, [v]) M = if pm_fit 0 v = true then some (.inl (some v), M) else none := (fr_eq S (d) (132, 150, L, [v]) M).trans (x_ort _ _ 0 v M)
theorem f133_0 (S : pm_S) (d : Nat) (L : List Value) (st : List Value) (M : pm_M) : fr S (d) (133, 0, L, st) M = fr S d (133, 1, L, .int 0 :: st) M := (fr_eq S (d) (133, 0, L, st) M).trans (x_ocs _ _ (.int 0) 133 1 L st M)
theorem f133_1 (S : pm_S) (d : Nat) (L : List Value) (v : Value) (r : List Value) (M : pm_M) : fr S (d) (133, 1, L, v :: r) M = if pm_ty v = 0 ∧ 2 < L.length ∧ ¬ pm_ty (L.getD (2 - 1) pm_U) = 1 then fr S d (133, 2, L.set 2 v, r) M else none := (fr_eq S (d) (133, 1, L, v :: r) M).trans (x_ost _ _ 0 2 133 2 L r v M)
theorem f133_2 (S : pm_S) (d : Nat) (L : List Value) (st : List Value) (M : pm_M) : fr S (d) (133, 2, L, st) M = if pm_ty (L.getD 2 pm_U) = 0 then fr S d (133, 3, L, L.getD 2 pm_U :: st) M else none := (fr_eq S (d) (133, 2, L, st) M).trans (x_old _ _ 0 2 133 3 L st M)
theorem f133_3 (S : pm_S) (d : Nat) (L : List Value) (st : List Value) (M : pm_M) : fr S (d) (133, 3, L, st) M = if pm_ty (L.getD 1 pm_U) = 0 then fr S d (133, 4, L, L.getD 1 pm_U :: st) M else none := (fr_eq S (d) (133, 3, L, st) M).trans (x_old _ _ 0 1 133 4 L st M)
theorem f133_4 (S : pm_S) (d : Nat) (L : List Value) (x y : Int32) (r : List Value) (M : pm_M) : fr S (d) (133, 4, L, .int y :: .int x :: r) M = if y ≤ x then fr S d (133, 47, L, r) M else fr S d (133, 7, L, r) M := (fr_eq S (d) (133, 4, L, .int y :: .int x :: r) M).trans (x_oc2ge _ _ 133 7 47 L r x y M)
theorem f133_7 (S : pm_S) (d : Nat) (L : List Value) (st : List Value) (M : pm_M) : fr S (d) (133, 7, L, st) M = if pm_ty (L.getD 0 pm_U) = 2 then fr S d (133, 8, L, L.getD 0 pm_U :: st) M else none := (fr_eq S (d) (133, 7, L, st) M).trans (x_old _ _ 2 0 133 8 L st M)
theorem f133_8 (S : pm_S) (d : Nat) (L : List Value) (st : List Value) (M : pm_M) : fr S (d) (133, 8, L, st) M = if pm_ty (L.getD 0 pm_U) = 2 then fr S d (133, 9, L, L.getD 0 pm_U :: st) M else none := (fr_eq S (d) (133, 8, L, st) M).trans (x_old _ _ 2 0 133 9 L st M)
theorem f133_9 (S : pm_S) (d : Nat) (L : List Value) (q : Nat) (r : List Value) (M : pm_M) : fr S (d) (133, 9, L, .ref q :: r) M = match pm_get M q with
  | some (.inr (c, fs)) => if c = 3 ∧ 16 < fs.length then fr S d (133, 12, L, fs.getD 16 pm_U :: r) M else none
  | _ => none := (fr_eq S (d) (133, 9, L, .ref q :: r) M).trans (x_ogf _ _ 3 16 133 12 L r q M)
theorem f133_12 (S : pm_S) (d : Nat) (L : List Value) (st : List Value) (M : pm_M) : fr S (d) (133, 12, L, st) M = if pm_ty (L.getD 2 pm_U) = 0 then fr S d (133, 13, L, L.getD 2 pm_U :: st) M else none := (fr_eq S (d) (133, 12, L, st) M).trans (x_old _ _ 0 2 133 13 L st M)
theorem f133_13 (S : pm_S) (d : Nat) (L : List Value) (i : Int32) (q : Nat) (hq : ¬ q = 1) (r : List Value) (M : pm_M) : fr S (d) (133, 13, L, .int i :: .ref q :: r) M = match (pm_get M q).bind (fun c => pm_el 0 c i) with
  | some v => fr S d (133, 14, L, v :: r) M
  | none => none := (fr_eq S (d) (133, 13, L, .int i :: .ref q :: r) M).trans (x_oal _ _ S 0 133 14 L r i q hq M)
theorem f133_14 (S : pm_S) (d : Nat) (L : List Value) (st : List Value) (M : pm_M) : fr S (d) (133, 14, L, st) M = if pm_ty (L.getD 0 pm_U) = 2 then fr S d (133, 15, L, L.getD 0 pm_U :: st) M else none := (fr_eq S (d) (133, 14, L, st) M).trans (x_old _ _ 2 0 133 15 L st M)
theorem f133_15 (S : pm_S) (d : Nat) (L : List Value) (q : Nat) (r : List Value) (M : pm_M) : fr S (d) (133, 15, L, .ref q :: r) M = match pm_get M q with
  | some (.inr (c, fs)) => if c = 3 ∧ 9 < fs.length then fr S d (133, 18, L, fs.getD 9 pm_U :: r) M else none
  | _ => none := (fr_eq S (d) (133, 15, L, .ref q :: r) M).trans (x_ogf _ _ 3 9 133 18 L r q M)
theorem f133_18 (S : pm_S) (d : Nat) (L : List Value) (st : List Value) (M : pm_M) : fr S (d) (133, 18, L, st) M = if pm_ty (L.getD 0 pm_U) = 2 then fr S d (133, 19, L, L.getD 0 pm_U :: st) M else none := (fr_eq S (d) (133, 18, L, st) M).trans (x_old _ _ 2 0 133 19 L st M)
theorem f133_19 (S : pm_S) (d : Nat) (L : List Value) (q : Nat) (r : List Value) (M : pm_M) : fr S (d) (133, 19, L, .ref q :: r) M = match pm_get M q with
  | some (.inr (c, fs)) => if c = 3 ∧ 16 < fs.length then fr S d (133, 22, L, fs.getD 16 pm_U :: r) M else none
  | _ => none := (fr_eq S (d) (133, 19, L, .ref q :: r) M).trans (x_ogf _ _ 3 16 133 22 L r q M)
theorem f133_22 (S : pm_S) (d : Nat) (L : List Value) (st : List Value) (M : pm_M) : fr S (d) (133, 22, L, st) M = if pm_ty (L.getD 2 pm_U) = 0 then fr S d (133, 23, L, L.getD 2 pm_U :: st) M else none := (fr_eq S (d) (133, 22, L, st) M).trans (x_old _ _ 0 2 133 23 L st M)
theorem f133_23 (S : pm_S) (d : Nat) (L : List Value) (i : Int32) (q : Nat) (hq : ¬ q = 1) (r : List Value) (M : pm_M) : fr S (d) (133, 23, L, .int i :: .ref q :: r) M = match (pm_get M q).bind (fun c => pm_el 0 c i) with
  | some v => fr S d (133, 24, L, v :: r) M
  | none => none := (fr_eq S (d) (133, 23, L, .int i :: .ref q :: r) M).trans (x_oal _ _ S 0 133 24 L r i q hq M)
theorem f133_24 (S : pm_S) (d : Nat) (L : List Value) (i : Int32) (q : Nat) (hq : ¬ q = 1) (r : List Value) (M : pm_M) : fr S (d) (133, 24, L, .int i :: .ref q :: r) M = match (pm_get M q).bind (fun c => pm_el 0 c i) with
  | some v => fr S d (133, 25, L, v :: r) M
  | none => none := (fr_eq S (d) (133, 24, L, .int i :: .ref q :: r) M).trans (x_oal _ _ S 0 133 25 L r i q hq M)
theorem f133_25 (S : pm_S) (d : Nat) (L : List Value) (st : List Value) (M : pm_M) : fr S (d) (133, 25, L, st) M = fr S d (133, 26, L, .int (-1) :: st) M := (fr_eq S (d) (133, 25, L, st) M).trans (x_ocs _ _ (.int (-1)) 133 26 L st M)
theorem f133_26 (S : pm_S) (d : Nat) (L : List Value) (st : List Value) (M : pm_M) : fr S (d + 1) (133, 26, L, st) M = match pm_ag 4 [] st with
  | some (a, r) => if r.length ≤ 4 ∧ (1 = 0 ∨ pm_obj M 3 (a.headD pm_U) = true) then (match fr S d (110, 0, a ++ [], []) M with
    | none => none
    | some (.inl v, M') => fr S (d + 1) (133, 29, L, v.toList ++ r) M'
    | some (.inr E, M') => some (.inr E, M')) else none
  | none => none := (fr_eq S (d + 1) (133, 26, L, st) M).trans (x_ocl _ _ 1 110 4 3 [] 133 29 L st M)
theorem f133_29 (S : pm_S) (d : Nat) (L : List Value) (st : List Value) (M : pm_M) : fr S (d) (133, 29, L, st) M = if pm_ty (L.getD 0 pm_U) = 2 then fr S d (133, 30, L, L.getD 0 pm_U :: st) M else none := (fr_eq S (d) (133, 29, L, st) M).trans (x_old _ _ 2 0 133 30 L st M)
theorem f133_30 (S : pm_S) (d : Nat) (L : List Value) (q : Nat) (r : List Value) (M : pm_M) : fr S (d) (133, 30, L, .ref q :: r) M = match pm_get M q with
  | some (.inr (c, fs)) => if c = 3 ∧ 9 < fs.length then fr S d (133, 33, L, fs.getD 9 pm_U :: r) M else none
  | _ => none := (fr_eq S (d) (133, 30, L, .ref q :: r) M).trans (x_ogf _ _ 3 9 133 33 L r q M)
theorem f133_33 (S : pm_S) (d : Nat) (L : List Value) (st : List Value) (M : pm_M) : fr S (d) (133, 33, L, st) M = if pm_ty (L.getD 0 pm_U) = 2 then fr S d (133, 34, L, L.getD 0 pm_U :: st) M else none := (fr_eq S (d) (133, 33, L, st) M).trans (x_old _ _ 2 0 133 34 L st M)
theorem f133_34 (S : pm_S) (d : Nat) (L : List Value) (q : Nat) (r : List Value) (M : pm_M) : fr S (d) (133, 34, L, .ref q :: r) M = match pm_get M q with
  | some (.inr (c, fs)) => if c = 3 ∧ 16 < fs.length then fr S d (133, 37, L, fs.getD 16 pm_U :: r) M else none
  | _ => none := (fr_eq S (d) (133, 34, L, .ref q :: r) M).trans (x_ogf _ _ 3 16 133 37 L r q M)
theorem f133_37 (S : pm_S) (d : Nat) (L : List Value) (st : List Value) (M : pm_M) : fr S (d) (133, 37, L, st) M = if pm_ty (L.getD 2 pm_U) = 0 then fr S d (133, 38, L, L.getD 2 pm_U :: st) M else none := (fr_eq S (d) (133, 37, L, st) M).trans (x_old _ _ 0 2 133 38 L st M)
theorem f133_38 (S : pm_S) (d : Nat) (L : List Value) (i : Int32) (q : Nat) (hq : ¬ q = 1) (r : List Value) (M : pm_M) : fr S (d) (133, 38, L, .int i :: .ref q :: r) M = match (pm_get M q).bind (fun c => pm_el 0 c i) with
  | some v => fr S d (133, 39, L, v :: r) M
  | none => none := (fr_eq S (d) (133, 38, L, .int i :: .ref q :: r) M).trans (x_oal _ _ S 0 133 39 L r i q hq M)
theorem f133_39 (S : pm_S) (d : Nat) (L : List Value) (st : List Value) (M : pm_M) : fr S (d) (133, 39, L, st) M = fr S d (133, 40, L, .int (-1) :: st) M := (fr_eq S (d) (133, 39, L, st) M).trans (x_ocs _ _ (.int (-1)) 133 40 L st M)
theorem f133_40 (S : pm_S) (d : Nat) (L : List Value) (v : Value) (i : Int32) (q : Nat) (r : List Value) (M : pm_M) : fr S (d) (133, 40, L, v :: .int i :: .ref q :: r) M = if pm_sq M 9 v = true then (match (pm_get M q).bind (fun c => pm_ev 0 0 c i v) with
  | some c => fr S d (133, 41, L, r) (pm_set M q c)
  | none => none) else none := (fr_eq S (d) (133, 40, L, v :: .int i :: .ref q :: r) M).trans (x_oas _ _ 0 0 9 133 41 L r v i q M)
theorem f133_41 (S : pm_S) (d : Nat) (L : List Value) (st : List Value) (M : pm_M) : fr S (d) (133, 41, L, st) M = match L.getD 2 pm_U with
  | .int x => if 2 < L.length ∧ ¬ pm_ty (L.getD (2 - 1) pm_U) = 1 then fr S d (133, 44, L.set 2 (.int (x + 1)), st) M else none
  | _ => none := (fr_eq S (d) (133, 41, L, st) M).trans (x_oinc _ _ 2 1 133 44 L st M)
theorem f133_44 (S : pm_S) (d : Nat) (L : List Value) (st : List Value) (M : pm_M) : fr S (d) (133, 44, L, st) M = fr S d (133, 2, L, st) M := (fr_eq S (d) (133, 44, L, st) M).trans (x_ogo _ _ 133 2 L st M)
theorem f133_47 (S : pm_S) (d : Nat) (L : List Value)  (M : pm_M) : fr S (d) (133, 47, L, []) M = some (.inl none, M) := (fr_eq S (d) (133, 47, L, []) M).trans (x_orv _ _ M)
theorem f134_0 (S : pm_S) (d : Nat) (L : List Value) (st : List Value) (M : pm_M) : fr S (d) (134, 0, L, st) M = if pm_ty (L.getD 0 pm_U) = 2 then fr S d (134, 1, L, L.getD 0 pm_U :: st) M else none := (fr_eq S (d) (134, 0, L, st) M).trans (x_old _ _ 2 0 134 1 L st M)
theorem f134_1 (S : pm_S) (d : Nat) (L : List Value) (q : Nat) (r : List Value) (M : pm_M) : fr S (d) (134, 1, L, .ref q :: r) M = match pm_get M q with
  | some (.inr (c, fs)) => if c = 3 ∧ 15 < fs.length then fr S d (134, 4, L, fs.getD 15 pm_U :: r) M else none
  | _ => none := (fr_eq S (d) (134, 1, L, .ref q :: r) M).trans (x_ogf _ _ 3 15 134 4 L r q M)
theorem f134_4 (S : pm_S) (d : Nat) (L : List Value) (v : Value) (r : List Value) (M : pm_M) : fr S (d) (134, 4, L, v :: r) M = if pm_ty v = 0 ∧ 2 < L.length ∧ ¬ pm_ty (L.getD (2 - 1) pm_U) = 1 then fr S d (134, 5, L.set 2 v, r) M else none := (fr_eq S (d) (134, 4, L, v :: r) M).trans (x_ost _ _ 0 2 134 5 L r v M)
theorem f134_5 (S : pm_S) (d : Nat) (L : List Value) (st : List Value) (M : pm_M) : fr S (d) (134, 5, L, st) M = if pm_ty (L.getD 2 pm_U) = 0 then fr S d (134, 6, L, L.getD 2 pm_U :: st) M else none := (fr_eq S (d) (134, 5, L, st) M).trans (x_old _ _ 0 2 134 6 L st M)
theorem f134_6 (S : pm_S) (d : Nat) (L : List Value) (x : Int32) (r : List Value) (M : pm_M) : fr S (d) (134, 6, L, .int x :: r) M = if x ≤ 0 then fr S d (134, 110, L, r) M else fr S d (134, 9, L, r) M := (fr_eq S (d) (134, 6, L, .int x :: r) M).trans (x_oc1le _ _ 134 9 110 L r x M)
theorem f134_9 (S : pm_S) (d : Nat) (L : List Value) (st : List Value) (M : pm_M) : fr S (d) (134, 9, L, st) M = fr S d (134, 10, L, .int (-1) :: st) M := (fr_eq S (d) (134, 9, L, st) M).trans (x_ocs _ _ (.int (-1)) 134 10 L st M)
theorem f134_10 (S : pm_S) (d : Nat) (L : List Value) (v : Value) (r : List Value) (M : pm_M) : fr S (d) (134, 10, L, v :: r) M = if pm_ty v = 0 ∧ 3 < L.length ∧ ¬ pm_ty (L.getD (3 - 1) pm_U) = 1 then fr S d (134, 11, L.set 3 v, r) M else none := (fr_eq S (d) (134, 10, L, v :: r) M).trans (x_ost _ _ 0 3 134 11 L r v M)
theorem f134_11 (S : pm_S) (d : Nat) (L : List Value) (st : List Value) (M : pm_M) : fr S (d) (134, 11, L, st) M = fr S d (134, 12, L, .int 0 :: st) M := (fr_eq S (d) (134, 11, L, st) M).trans (x_ocs _ _ (.int 0) 134 12 L st M)
theorem f134_12 (S : pm_S) (d : Nat) (L : List Value) (v : Value) (r : List Value) (M : pm_M) : fr S (d) (134, 12, L, v :: r) M = if pm_ty v = 0 ∧ 4 < L.length ∧ ¬ pm_ty (L.getD (4 - 1) pm_U) = 1 then fr S d (134, 14, L.set 4 v, r) M else none := (fr_eq S (d) (134, 12, L, v :: r) M).trans (x_ost _ _ 0 4 134 14 L r v M)
theorem f134_14 (S : pm_S) (d : Nat) (L : List Value) (st : List Value) (M : pm_M) : fr S (d) (134, 14, L, st) M = fr S d (134, 15, L, .int 0 :: st) M := (fr_eq S (d) (134, 14, L, st) M).trans (x_ocs _ _ (.int 0) 134 15 L st M)
theorem f134_15 (S : pm_S) (d : Nat) (L : List Value) (v : Value) (r : List Value) (M : pm_M) : fr S (d) (134, 15, L, v :: r) M = if pm_ty v = 0 ∧ 5 < L.length ∧ ¬ pm_ty (L.getD (5 - 1) pm_U) = 1 then fr S d (134, 17, L.set 5 v, r) M else none := (fr_eq S (d) (134, 15, L, v :: r) M).trans (x_ost _ _ 0 5 134 17 L r v M)
theorem f134_17 (S : pm_S) (d : Nat) (L : List Value) (st : List Value) (M : pm_M) : fr S (d) (134, 17, L, st) M = if pm_ty (L.getD 5 pm_U) = 0 then fr S d (134, 19, L, L.getD 5 pm_U :: st) M else none := (fr_eq S (d) (134, 17, L, st) M).trans (x_old _ _ 0 5 134 19 L st M)
theorem f134_19 (S : pm_S) (d : Nat) (L : List Value) (st : List Value) (M : pm_M) : fr S (d) (134, 19, L, st) M = fr S d (134, 20, L, .int 1 :: st) M := (fr_eq S (d) (134, 19, L, st) M).trans (x_ocs _ _ (.int 1) 134 20 L st M)
theorem f134_20 (S : pm_S) (d : Nat) (L : List Value) (st : List Value) (M : pm_M) : fr S (d) (134, 20, L, st) M = fr S d (134, 21, L, .int 4 :: st) M := (fr_eq S (d) (134, 20, L, st) M).trans (x_ocs _ _ (.int 4) 134 21 L st M)
theorem f134_21 (S : pm_S) (d : Nat) (L : List Value) (st : List Value) (M : pm_M) : fr S (d) (134, 21, L, st) M = if pm_ty (L.getD 2 pm_U) = 0 then fr S d (134, 22, L, L.getD 2 pm_U :: st) M else none := (fr_eq S (d) (134, 21, L, st) M).trans (x_old _ _ 0 2 134 22 L st M)
theorem f134_22 (S : pm_S) (d : Nat) (L : List Value) (x y : Int32) (r : List Value) (M : pm_M) : fr S (d) (134, 22, L, .int y :: .int x :: r) M = fr S d (134, 23, L, .int (x * y) :: r) M := (fr_eq S (d) (134, 22, L, .int y :: .int x :: r) M).trans (x_oii _ _ (fun x y => x * y) 134 23 L r x y M)
theorem f134_23 (S : pm_S) (d : Nat) (L : List Value) (x y : Int32) (r : List Value) (M : pm_M) : fr S (d) (134, 23, L, .int y :: .int x :: r) M = fr S d (134, 24, L, .int (x <<< (y &&& 31)) :: r) M := (fr_eq S (d) (134, 23, L, .int y :: .int x :: r) M).trans (x_oii _ _ (fun x y => x <<< (y &&& 31)) 134 24 L r x y M)
theorem f134_24 (S : pm_S) (d : Nat) (L : List Value) (x y : Int32) (r : List Value) (M : pm_M) : fr S (d) (134, 24, L, .int y :: .int x :: r) M = if y ≤ x then fr S d (134, 92, L, r) M else fr S d (134, 27, L, r) M := (fr_eq S (d) (134, 24, L, .int y :: .int x :: r) M).trans (x_oc2ge _ _ 134 27 92 L r x y M)
theorem f134_27 (S : pm_S) (d : Nat) (L : List Value) (st : List Value) (M : pm_M) : fr S (d) (134, 27, L, st) M = if pm_ty (L.getD 0 pm_U) = 2 then fr S d (134, 28, L, L.getD 0 pm_U :: st) M else none := (fr_eq S (d) (134, 27, L, st) M).trans (x_old _ _ 2 0 134 28 L st M)
theorem f134_28 (S : pm_S) (d : Nat) (L : List Value) (st : List Value) (M : pm_M) : fr S (d) (134, 28, L, st) M = if pm_ty (L.getD 1 pm_U) = 0 then fr S d (134, 29, L, L.getD 1 pm_U :: st) M else none := (fr_eq S (d) (134, 28, L, st) M).trans (x_old _ _ 0 1 134 29 L st M)
theorem f134_29 (S : pm_S) (d : Nat) (L : List Value) (st : List Value) (M : pm_M) : fr S (d) (134, 29, L, st) M = if pm_ty (L.getD 5 pm_U) = 0 then fr S d (134, 31, L, L.getD 5 pm_U :: st) M else none := (fr_eq S (d) (134, 29, L, st) M).trans (x_old _ _ 0 5 134 31 L st M)
theorem f134_31 (S : pm_S) (d : Nat) (L : List Value) (st : List Value) (M : pm_M) : fr S (d) (134, 31, L, st) M = if pm_ty (L.getD 2 pm_U) = 0 then fr S d (134, 32, L, L.getD 2 pm_U :: st) M else none := (fr_eq S (d) (134, 31, L, st) M).trans (x_old _ _ 0 2 134 32 L st M)
theorem f134_32 (S : pm_S) (d : Nat) (L : List Value) (st : List Value) (M : pm_M) : fr S (d + 1) (134, 32, L, st) M = match pm_ag 4 [] st with
  | some (a, r) => if r.length ≤ 4 ∧ (1 = 0 ∨ pm_obj M 3 (a.headD pm_U) = true) then (match fr S d (132, 0, a ++ [pm_U, pm_U, pm_U, pm_U, pm_U, pm_U], []) M with
    | none => none
    | some (.inl v, M') => fr S (d + 1) (134, 35, L, v.toList ++ r) M'
    | some (.inr E, M') => some (.inr E, M')) else none
  | none => none := (fr_eq S (d + 1) (134, 32, L, st) M).trans (x_ocl _ _ 1 132 4 3 [pm_U, pm_U, pm_U, pm_U, pm_U, pm_U] 134 35 L st M)
theorem f134_35 (S : pm_S) (d : Nat) (L : List Value) (v : Value) (r : List Value) (M : pm_M) : fr S (d) (134, 35, L, v :: r) M = if pm_ty v = 0 ∧ 6 < L.length ∧ ¬ pm_ty (L.getD (6 - 1) pm_U) = 1 then fr S d (134, 37, L.set 6 v, r) M else none := (fr_eq S (d) (134, 35, L, v :: r) M).trans (x_ost _ _ 0 6 134 37 L r v M)
theorem f134_37 (S : pm_S) (d : Nat) (L : List Value) (st : List Value) (M : pm_M) : fr S (d) (134, 37, L, st) M = if pm_ty (L.getD 6 pm_U) = 0 then fr S d (134, 39, L, L.getD 6 pm_U :: st) M else none := (fr_eq S (d) (134, 37, L, st) M).trans (x_old _ _ 0 6 134 39 L st M)
theorem f134_39 (S : pm_S) (d : Nat) (L : List Value) (st : List Value) (M : pm_M) : fr S (d) (134, 39, L, st) M = if pm_ty (L.getD 2 pm_U) = 0 then fr S d (134, 40, L, L.getD 2 pm_U :: st) M else none := (fr_eq S (d) (134, 39, L, st) M).trans (x_old _ _ 0 2 134 40 L st M)
theorem f134_40 (S : pm_S) (d : Nat) (L : List Value) (x y : Int32) (r : List Value) (M : pm_M) : fr S (d) (134, 40, L, .int y :: .int x :: r) M = if ¬ x = y then fr S d (134, 53, L, r) M else fr S d (134, 43, L, r) M := (fr_eq S (d) (134, 40, L, .int y :: .int x :: r) M).trans (x_oc2ne _ _ 134 43 53 L r x y M)
theorem f134_43 (S : pm_S) (d : Nat) (L : List Value) (st : List Value) (M : pm_M) : fr S (d) (134, 43, L, st) M = if pm_ty (L.getD 0 pm_U) = 2 then fr S d (134, 44, L, L.getD 0 pm_U :: st) M else none := (fr_eq S (d) (134, 43, L, st) M).trans (x_old _ _ 2 0 134 44 L st M)
theorem f134_44 (S : pm_S) (d : Nat) (L : List Value) (st : List Value) (M : pm_M) : fr S (d) (134, 44, L, st) M = if pm_ty (L.getD 1 pm_U) = 0 then fr S d (134, 45, L, L.getD 1 pm_U :: st) M else none := (fr_eq S (d) (134, 44, L, st) M).trans (x_old _ _ 0 1 134 45 L st M)
theorem f134_45 (S : pm_S) (d : Nat) (L : List Value) (st : List Value) (M : pm_M) : fr S (d) (134, 45, L, st) M = fr S d (134, 46, L, .int 0 :: st) M := (fr_eq S (d) (134, 45, L, st) M).trans (x_ocs _ _ (.int 0) 134 46 L st M)
theorem f134_46 (S : pm_S) (d : Nat) (L : List Value) (st : List Value) (M : pm_M) : fr S (d) (134, 46, L, st) M = fr S d (134, 47, L, .int 1 :: st) M := (fr_eq S (d) (134, 46, L, st) M).trans (x_ocs _ _ (.int 1) 134 47 L st M)
theorem f134_47 (S : pm_S) (d : Nat) (L : List Value) (st : List Value) (M : pm_M) : fr S (d + 1) (134, 47, L, st) M = match pm_ag 4 [] st with
  | some (a, r) => if r.length ≤ 4 ∧ (1 = 0 ∨ pm_obj M 3 (a.headD pm_U) = true) then (match fr S d (127, 0, a ++ [pm_U, pm_U, pm_U, pm_U, pm_U, pm_U, pm_U], []) M with
    | none => none
    | some (.inl v, M') => fr S (d + 1) (134, 50, L, v.toList ++ r) M'
    | some (.inr E, M') => some (.inr E, M')) else none
  | none => none := (fr_eq S (d + 1) (134, 47, L, st) M).trans (x_ocl _ _ 1 127 4 3 [pm_U, pm_U, pm_U, pm_U, pm_U, pm_U, pm_U] 134 50 L st M)
theorem f134_50 (S : pm_S) (d : Nat) (L : List Value) (st : List Value) (M : pm_M) : fr S (d) (134, 50, L, st) M = fr S d (134, 54, L, st) M := (fr_eq S (d) (134, 50, L, st) M).trans (x_ogo _ _ 134 54 L st M)
theorem f134_53 (S : pm_S) (d : Nat) (L : List Value) (st : List Value) (M : pm_M) : fr S (d) (134, 53, L, st) M = fr S d (134, 54, L, .int 0 :: st) M := (fr_eq S (d) (134, 53, L, st) M).trans (x_ocs _ _ (.int 0) 134 54 L st M)
theorem f134_54 (S : pm_S) (d : Nat) (L : List Value) (v : Value) (r : List Value) (M : pm_M) : fr S (d) (134, 54, L, v :: r) M = if pm_ty v = 0 ∧ 7 < L.length ∧ ¬ pm_ty (L.getD (7 - 1) pm_U) = 1 then fr S d (134, 56, L.set 7 v, r) M else none := (fr_eq S (d) (134, 54, L, v :: r) M).trans (x_ost _ _ 0 7 134 56 L r v M)
theorem f134_56 (S : pm_S) (d : Nat) (L : List Value) (st : List Value) (M : pm_M) : fr S (d) (134, 56, L, st) M = if pm_ty (L.getD 6 pm_U) = 0 then fr S d (134, 58, L, L.getD 6 pm_U :: st) M else none := (fr_eq S (d) (134, 56, L, st) M).trans (x_old _ _ 0 6 134 58 L st M)
theorem f134_58 (S : pm_S) (d : Nat) (L : List Value) (st : List Value) (M : pm_M) : fr S (d) (134, 58, L, st) M = if pm_ty (L.getD 2 pm_U) = 0 then fr S d (134, 59, L, L.getD 2 pm_U :: st) M else none := (fr_eq S (d) (134, 58, L, st) M).trans (x_old _ _ 0 2 134 59 L st M)
theorem f134_59 (S : pm_S) (d : Nat) (L : List Value) (x y : Int32) (r : List Value) (M : pm_M) : fr S (d) (134, 59, L, .int y :: .int x :: r) M = if ¬ x = y then fr S d (134, 80, L, r) M else fr S d (134, 62, L, r) M := (fr_eq S (d) (134, 59, L, .int y :: .int x :: r) M).trans (x_oc2ne _ _ 134 62 80 L r x y M)
theorem f134_62 (S : pm_S) (d : Nat) (L : List Value) (st : List Value) (M : pm_M) : fr S (d) (134, 62, L, st) M = if pm_ty (L.getD 3 pm_U) = 0 then fr S d (134, 63, L, L.getD 3 pm_U :: st) M else none := (fr_eq S (d) (134, 62, L, st) M).trans (x_old _ _ 0 3 134 63 L st M)
theorem f134_63 (S : pm_S) (d : Nat) (L : List Value) (x : Int32) (r : List Value) (M : pm_M) : fr S (d) (134, 63, L, .int x :: r) M = if x < 0 then fr S d (134, 73, L, r) M else fr S d (134, 66, L, r) M := (fr_eq S (d) (134, 63, L, .int x :: r) M).trans (x_oc1lt _ _ 134 66 73 L r x M)
theorem f134_66 (S : pm_S) (d : Nat) (L : List Value) (st : List Value) (M : pm_M) : fr S (d) (134, 66, L, st) M = if pm_ty (L.getD 7 pm_U) = 0 then fr S d (134, 68, L, L.getD 7 pm_U :: st) M else none := (fr_eq S (d) (134, 66, L, st) M).trans (x_old _ _ 0 7 134 68 L st M)
theorem f134_68 (S : pm_S) (d : Nat) (L : List Value) (st : List Value) (M : pm_M) : fr S (d) (134, 68, L, st) M = if pm_ty (L.getD 4 pm_U) = 0 then fr S d (134, 70, L, L.getD 4 pm_U :: st) M else none := (fr_eq S (d) (134, 68, L, st) M).trans (x_old _ _ 0 4 134 70 L st M)
theorem f134_70 (S : pm_S) (d : Nat) (L : List Value) (x y : Int32) (r : List Value) (M : pm_M) : fr S (d) (134, 70, L, .int y :: .int x :: r) M = if y ≤ x then fr S d (134, 80, L, r) M else fr S d (134, 73, L, r) M := (fr_eq S (d) (134, 70, L, .int y :: .int x :: r) M).trans (x_oc2ge _ _ 134 73 80 L r x y M)
theorem f134_73 (S : pm_S) (d : Nat) (L : List Value) (st : List Value) (M : pm_M) : fr S (d) (134, 73, L, st) M = if pm_ty (L.getD 5 pm_U) = 0 then fr S d (134, 75, L, L.getD 5 pm_U :: st) M else none := (fr_eq S (d) (134, 73, L, st) M).trans (x_old _ _ 0 5 134 75 L st M)
theorem f134_75 (S : pm_S) (d : Nat) (L : List Value) (v : Value) (r : List Value) (M : pm_M) : fr S (d) (134, 75, L, v :: r) M = if pm_ty v = 0 ∧ 3 < L.length ∧ ¬ pm_ty (L.getD (3 - 1) pm_U) = 1 then fr S d (134, 76, L.set 3 v, r) M else none := (fr_eq S (d) (134, 75, L, v :: r) M).trans (x_ost _ _ 0 3 134 76 L r v M)
theorem f134_76 (S : pm_S) (d : Nat) (L : List Value) (st : List Value) (M : pm_M) : fr S (d) (134, 76, L, st) M = if pm_ty (L.getD 7 pm_U) = 0 then fr S d (134, 78, L, L.getD 7 pm_U :: st) M else none := (fr_eq S (d) (134, 76, L, st) M).trans (x_old _ _ 0 7 134 78 L st M)
theorem f134_78 (S : pm_S) (d : Nat) (L : List Value) (v : Value) (r : List Value) (M : pm_M) : fr S (d) (134, 78, L, v :: r) M = if pm_ty v = 0 ∧ 4 < L.length ∧ ¬ pm_ty (L.getD (4 - 1) pm_U) = 1 then fr S d (134, 80, L.set 4 v, r) M else none := (fr_eq S (d) (134, 78, L, v :: r) M).trans (x_ost _ _ 0 4 134 80 L r v M)
theorem f134_80 (S : pm_S) (d : Nat) (L : List Value) (st : List Value) (M : pm_M) : fr S (d) (134, 80, L, st) M = if pm_ty (L.getD 0 pm_U) = 2 then fr S d (134, 81, L, L.getD 0 pm_U :: st) M else none := (fr_eq S (d) (134, 80, L, st) M).trans (x_old _ _ 2 0 134 81 L st M)
theorem f134_81 (S : pm_S) (d : Nat) (L : List Value) (st : List Value) (M : pm_M) : fr S (d) (134, 81, L, st) M = if pm_ty (L.getD 6 pm_U) = 0 then fr S d (134, 83, L, L.getD 6 pm_U :: st) M else none := (fr_eq S (d) (134, 81, L, st) M).trans (x_old _ _ 0 6 134 83 L st M)
theorem f134_83 (S : pm_S) (d : Nat) (L : List Value) (st : List Value) (M : pm_M) : fr S (d + 1) (134, 83, L, st) M = match pm_ag 2 [] st with
  | some (a, r) => if r.length ≤ 4 ∧ (1 = 0 ∨ pm_obj M 3 (a.headD pm_U) = true) then (match fr S d (133, 0, a ++ [pm_U], []) M with
    | none => none
    | some (.inl v, M') => fr S (d + 1) (134, 86, L, v.toList ++ r) M'
    | some (.inr E, M') => some (.inr E, M')) else none
  | none => none := (fr_eq S (d + 1) (134, 83, L, st) M).trans (x_ocl _ _ 1 133 2 3 [pm_U] 134 86 L st M)
theorem f134_86 (S : pm_S) (d : Nat) (L : List Value) (st : List Value) (M : pm_M) : fr S (d) (134, 86, L, st) M = match L.getD 5 pm_U with
  | .int x => if 5 < L.length ∧ ¬ pm_ty (L.getD (5 - 1) pm_U) = 1 then fr S d (134, 89, L.set 5 (.int (x + 1)), st) M else none
  | _ => none := (fr_eq S (d) (134, 86, L, st) M).trans (x_oinc _ _ 5 1 134 89 L st M)
theorem f134_89 (S : pm_S) (d : Nat) (L : List Value) (st : List Value) (M : pm_M) : fr S (d) (134, 89, L, st) M = fr S d (134, 17, L, st) M := (fr_eq S (d) (134, 89, L, st) M).trans (x_ogo _ _ 134 17 L st M)
theorem f134_92 (S : pm_S) (d : Nat) (L : List Value) (st : List Value) (M : pm_M) : fr S (d) (134, 92, L, st) M = if pm_ty (L.getD 3 pm_U) = 0 then fr S d (134, 93, L, L.getD 3 pm_U :: st) M else none := (fr_eq S (d) (134, 92, L, st) M).trans (x_old _ _ 0 3 134 93 L st M)
theorem f134_93 (S : pm_S) (d : Nat) (L : List Value) (x : Int32) (r : List Value) (M : pm_M) : fr S (d) (134, 93, L, .int x :: r) M = if x < 0 then fr S d (134, 104, L, r) M else fr S d (134, 96, L, r) M := (fr_eq S (d) (134, 93, L, .int x :: r) M).trans (x_oc1lt _ _ 134 96 104 L r x M)
theorem f134_96 (S : pm_S) (d : Nat) (L : List Value) (st : List Value) (M : pm_M) : fr S (d) (134, 96, L, st) M = if pm_ty (L.getD 0 pm_U) = 2 then fr S d (134, 97, L, L.getD 0 pm_U :: st) M else none := (fr_eq S (d) (134, 96, L, st) M).trans (x_old _ _ 2 0 134 97 L st M)
theorem f134_97 (S : pm_S) (d : Nat) (L : List Value) (st : List Value) (M : pm_M) : fr S (d) (134, 97, L, st) M = if pm_ty (L.getD 1 pm_U) = 0 then fr S d (134, 98, L, L.getD 1 pm_U :: st) M else none := (fr_eq S (d) (134, 97, L, st) M).trans (x_old _ _ 0 1 134 98 L st M)
theorem f134_98 (S : pm_S) (d : Nat) (L : List Value) (st : List Value) (M : pm_M) : fr S (d) (134, 98, L, st) M = if pm_ty (L.getD 3 pm_U) = 0 then fr S d (134, 99, L, L.getD 3 pm_U :: st) M else none := (fr_eq S (d) (134, 98, L, st) M).trans (x_old _ _ 0 3 134 99 L st M)
theorem f134_99 (S : pm_S) (d : Nat) (L : List Value) (st : List Value) (M : pm_M) : fr S (d) (134, 99, L, st) M = if pm_ty (L.getD 2 pm_U) = 0 then fr S d (134, 100, L, L.getD 2 pm_U :: st) M else none := (fr_eq S (d) (134, 99, L, st) M).trans (x_old _ _ 0 2 134 100 L st M)
theorem f134_100 (S : pm_S) (d : Nat) (L : List Value) (st : List Value) (M : pm_M) : fr S (d + 1) (134, 100, L, st) M = match pm_ag 4 [] st with
  | some (a, r) => if r.length ≤ 4 ∧ (1 = 0 ∨ pm_obj M 3 (a.headD pm_U) = true) then (match fr S d (132, 0, a ++ [pm_U, pm_U, pm_U, pm_U, pm_U, pm_U], []) M with
    | none => none
    | some (.inl v, M') => fr S (d + 1) (134, 103, L, v.toList ++ r) M'
    | some (.inr E, M') => some (.inr E, M')) else none
  | none => none := (fr_eq S (d + 1) (134, 100, L, st) M).trans (x_ocl _ _ 1 132 4 3 [pm_U, pm_U, pm_U, pm_U, pm_U, pm_U] 134 103 L st M)
theorem f134_103 (S : pm_S) (d : Nat) (L : List Value) (v : Value) (M : pm_M) : fr S (d) (134, 103, L, [v]) M = if pm_fit 0 v = true then some (.inl (some v), M) else none := (fr_eq S (d) (134, 103, L, [v]) M).trans (x_ort _ _ 0 v M)
theorem f134_104 (S : pm_S) (d : Nat) (L : List Value) (st : List Value) (M : pm_M) : fr S (d) (134, 104, L, st) M = match L.getD 2 pm_U with
  | .int x => if 2 < L.length ∧ ¬ pm_ty (L.getD (2 - 1) pm_U) = 1 then fr S d (134, 107, L.set 2 (.int (x + (-1))), st) M else none
  | _ => none := (fr_eq S (d) (134, 104, L, st) M).trans (x_oinc _ _ 2 (-1) 134 107 L st M)
theorem f134_107 (S : pm_S) (d : Nat) (L : List Value) (st : List Value) (M : pm_M) : fr S (d) (134, 107, L, st) M = fr S d (134, 5, L, st) M := (fr_eq S (d) (134, 107, L, st) M).trans (x_ogo _ _ 134 5 L st M)
theorem f134_110 (S : pm_S) (d : Nat) (L : List Value) (st : List Value) (M : pm_M) : fr S (d) (134, 110, L, st) M = fr S d (134, 111, L, .int 0 :: st) M := (fr_eq S (d) (134, 110, L, st) M).trans (x_ocs _ _ (.int 0) 134 111 L st M)
theorem f134_111 (S : pm_S) (d : Nat) (L : List Value) (v : Value) (M : pm_M) : fr S (d) (134, 111, L, [v]) M = if pm_fit 0 v = true then some (.inl (some v), M) else none := (fr_eq S (d) (134, 111, L, [v]) M).trans (x_ort _ _ 0 v M)
theorem f135_0 (S : pm_S) (d : Nat) (L : List Value) (st : List Value) (M : pm_M) : fr S (d) (135, 0, L, st) M = if pm_ty (L.getD 0 pm_U) = 2 then fr S d (135, 1, L, L.getD 0 pm_U :: st) M else none := (fr_eq S (d) (135, 0, L, st) M).trans (x_old _ _ 2 0 135 1 L st M)
theorem f135_1 (S : pm_S) (d : Nat) (L : List Value) (st : List Value) (M : pm_M) : fr S (d) (135, 1, L, st) M = if pm_ty (L.getD 1 pm_U) = 0 then fr S d (135, 2, L, L.getD 1 pm_U :: st) M else none := (fr_eq S (d) (135, 1, L, st) M).trans (x_old _ _ 0 1 135 2 L st M)
theorem f135_2 (S : pm_S) (d : Nat) (L : List Value) (st : List Value) (M : pm_M) : fr S (d + 1) (135, 2, L, st) M = match pm_ag 2 [] st with
  | some (a, r) => if r.length ≤ 4 ∧ (1 = 0 ∨ pm_obj M 3 (a.headD pm_U) = true) then (match fr S d (106, 0, a ++ [], []) M with
    | none => none
    | some (.inl v, M') => fr S (d + 1) (135, 5, L, v.toList ++ r) M'
    | some (.inr E, M') => some (.inr E, M')) else none
  | none => none := (fr_eq S (d + 1) (135, 2, L, st) M).trans (x_ocl _ _ 1 106 2 3 [] 135 5 L st M)
theorem f135_5 (S : pm_S) (d : Nat) (L : List Value) (x : Int32) (r : List Value) (M : pm_M) : fr S (d) (135, 5, L, .int x :: r) M = if ¬ x = 0 then fr S d (135, 14, L, r) M else fr S d (135, 8, L, r) M := (fr_eq S (d) (135, 5, L, .int x :: r) M).trans (x_oc1ne _ _ 135 8 14 L r x M)
theorem f135_8 (S : pm_S) (d : Nat) (L : List Value) (st : List Value) (M : pm_M) : fr S (d) (135, 8, L, st) M = if pm_ty (L.getD 0 pm_U) = 2 then fr S d (135, 9, L, L.getD 0 pm_U :: st) M else none := (fr_eq S (d) (135, 8, L, st) M).trans (x_old _ _ 2 0 135 9 L st M)
theorem f135_9 (S : pm_S) (d : Nat) (L : List Value) (st : List Value) (M : pm_M) : fr S (d) (135, 9, L, st) M = fr S d (135, 10, L, .int 1 :: st) M := (fr_eq S (d) (135, 9, L, st) M).trans (x_ocs _ _ (.int 1) 135 10 L st M)
theorem f135_10 (S : pm_S) (d : Nat) (L : List Value) (st : List Value) (M : pm_M) : fr S (d + 1) (135, 10, L, st) M = match pm_ag 2 [] st with
  | some (a, r) => if r.length ≤ 4 ∧ (1 = 0 ∨ pm_obj M 3 (a.headD pm_U) = true) then (match fr S d (103, 0, a ++ [], []) M with
    | none => none
    | some (.inl v, M') => fr S (d + 1) (135, 13, L, v.toList ++ r) M'
    | some (.inr E, M') => some (.inr E, M')) else none
  | none => none := (fr_eq S (d + 1) (135, 10, L, st) M).trans (x_ocl _ _ 1 103 2 3 [] 135 13 L st M)
theorem f135_13 (S : pm_S) (d : Nat) (L : List Value) (v : Value) (M : pm_M) : fr S (d) (135, 13, L, [v]) M = if pm_fit 0 v = true then some (.inl (some v), M) else none := (fr_eq S (d) (135, 13, L, [v]) M).trans (x_ort _ _ 0 v M)
theorem f135_14 (S : pm_S) (d : Nat) (L : List Value) (st : List Value) (M : pm_M) : fr S (d) (135, 14, L, st) M = if pm_ty (L.getD 0 pm_U) = 2 then fr S d (135, 15, L, L.getD 0 pm_U :: st) M else none := (fr_eq S (d) (135, 14, L, st) M).trans (x_old _ _ 2 0 135 15 L st M)
theorem f135_15 (S : pm_S) (d : Nat) (L : List Value) (st : List Value) (M : pm_M) : fr S (d) (135, 15, L, st) M = fr S d (135, 16, L, .int 0 :: st) M := (fr_eq S (d) (135, 15, L, st) M).trans (x_ocs _ _ (.int 0) 135 16 L st M)
theorem f135_16 (S : pm_S) (d : Nat) (L : List Value) (v : Value) (q : Nat) (r : List Value) (M : pm_M) : fr S (d) (135, 16, L, v :: .ref q :: r) M = match pm_get M q with
  | some (.inr (c, fs)) => if c = 3 ∧ 0 < fs.length ∧ pm_fit 0 v = true then fr S d (135, 19, L, r) (pm_set M q (.inr (c, fs.set 0 v))) else none
  | _ => none := (fr_eq S (d) (135, 16, L, v :: .ref q :: r) M).trans (x_opf _ _ 3 0 0 135 19 L r q v M)
theorem f135_19 (S : pm_S) (d : Nat) (L : List Value) (st : List Value) (M : pm_M) : fr S (d) (135, 19, L, st) M = if pm_ty (L.getD 0 pm_U) = 2 then fr S d (135, 20, L, L.getD 0 pm_U :: st) M else none := (fr_eq S (d) (135, 19, L, st) M).trans (x_old _ _ 2 0 135 20 L st M)
theorem f135_20 (S : pm_S) (d : Nat) (L : List Value) (st : List Value) (M : pm_M) : fr S (d) (135, 20, L, st) M = fr S d (135, 21, L, .int 0 :: st) M := (fr_eq S (d) (135, 20, L, st) M).trans (x_ocs _ _ (.int 0) 135 21 L st M)
theorem f135_21 (S : pm_S) (d : Nat) (L : List Value) (v : Value) (q : Nat) (r : List Value) (M : pm_M) : fr S (d) (135, 21, L, v :: .ref q :: r) M = match pm_get M q with
  | some (.inr (c, fs)) => if c = 3 ∧ 15 < fs.length ∧ pm_fit 0 v = true then fr S d (135, 24, L, r) (pm_set M q (.inr (c, fs.set 15 v))) else none
  | _ => none := (fr_eq S (d) (135, 21, L, v :: .ref q :: r) M).trans (x_opf _ _ 3 15 0 135 24 L r q v M)
theorem f135_24 (S : pm_S) (d : Nat) (L : List Value) (st : List Value) (M : pm_M) : fr S (d) (135, 24, L, st) M = fr S d (135, 25, L, .int 0 :: st) M := (fr_eq S (d) (135, 24, L, st) M).trans (x_ocs _ _ (.int 0) 135 25 L st M)
theorem f135_25 (S : pm_S) (d : Nat) (L : List Value) (v : Value) (r : List Value) (M : pm_M) : fr S (d) (135, 25, L, v :: r) M = if pm_ty v = 0 ∧ 2 < L.length ∧ ¬ pm_ty (L.getD (2 - 1) pm_U) = 1 then fr S d (135, 26, L.set 2 v, r) M else none := (fr_eq S (d) (135, 25, L, v :: r) M).trans (x_ost _ _ 0 2 135 26 L r v M)
theorem f135_26 (S : pm_S) (d : Nat) (L : List Value) (st : List Value) (M : pm_M) : fr S (d) (135, 26, L, st) M = if pm_ty (L.getD 2 pm_U) = 0 then fr S d (135, 27, L, L.getD 2 pm_U :: st) M else none := (fr_eq S (d) (135, 26, L, st) M).trans (x_old _ _ 0 2 135 27 L st M)
theorem f135_27 (S : pm_S) (d : Nat) (L : List Value) (st : List Value) (M : pm_M) : fr S (d) (135, 27, L, st) M = if pm_ty (L.getD 0 pm_U) = 2 then fr S d (135, 28, L, L.getD 0 pm_U :: st) M else none := (fr_eq S (d) (135, 27, L, st) M).trans (x_old _ _ 2 0 135 28 L st M)
theorem f135_28 (S : pm_S) (d : Nat) (L : List Value) (q : Nat) (r : List Value) (M : pm_M) : fr S (d) (135, 28, L, .ref q :: r) M = match pm_get M q with
  | some (.inr (c, fs)) => if c = 3 ∧ 4 < fs.length then fr S d (135, 31, L, fs.getD 4 pm_U :: r) M else none
  | _ => none := (fr_eq S (d) (135, 28, L, .ref q :: r) M).trans (x_ogf _ _ 3 4 135 31 L r q M)
theorem f135_31 (S : pm_S) (d : Nat) (L : List Value) (x y : Int32) (r : List Value) (M : pm_M) : fr S (d) (135, 31, L, .int y :: .int x :: r) M = if y ≤ x then fr S d (135, 89, L, r) M else fr S d (135, 34, L, r) M := (fr_eq S (d) (135, 31, L, .int y :: .int x :: r) M).trans (x_oc2ge _ _ 135 34 89 L r x y M)
theorem f135_34 (S : pm_S) (d : Nat) (L : List Value) (st : List Value) (M : pm_M) : fr S (d) (135, 34, L, st) M = if pm_ty (L.getD 0 pm_U) = 2 then fr S d (135, 35, L, L.getD 0 pm_U :: st) M else none := (fr_eq S (d) (135, 34, L, st) M).trans (x_old _ _ 2 0 135 35 L st M)
theorem f135_35 (S : pm_S) (d : Nat) (L : List Value) (q : Nat) (r : List Value) (M : pm_M) : fr S (d) (135, 35, L, .ref q :: r) M = match pm_get M q with
  | some (.inr (c, fs)) => if c = 3 ∧ 5 < fs.length then fr S d (135, 38, L, fs.getD 5 pm_U :: r) M else none
  | _ => none := (fr_eq S (d) (135, 35, L, .ref q :: r) M).trans (x_ogf _ _ 3 5 135 38 L r q M)
theorem f135_38 (S : pm_S) (d : Nat) (L : List Value) (st : List Value) (M : pm_M) : fr S (d) (135, 38, L, st) M = if pm_ty (L.getD 2 pm_U) = 0 then fr S d (135, 39, L, L.getD 2 pm_U :: st) M else none := (fr_eq S (d) (135, 38, L, st) M).trans (x_old _ _ 0 2 135 39 L st M)
theorem f135_39 (S : pm_S) (d : Nat) (L : List Value) (i : Int32) (q : Nat) (hq : ¬ q = 1) (r : List Value) (M : pm_M) : fr S (d) (135, 39, L, .int i :: .ref q :: r) M = match (pm_get M q).bind (fun c => pm_el 0 c i) with
  | some v => fr S d (135, 40, L, v :: r) M
  | none => none := (fr_eq S (d) (135, 39, L, .int i :: .ref q :: r) M).trans (x_oal _ _ S 0 135 40 L r i q hq M)
theorem f135_40 (S : pm_S) (d : Nat) (L : List Value) (st : List Value) (M : pm_M) : fr S (d) (135, 40, L, st) M = fr S d (135, 42, L, .int 20 :: st) M := (fr_eq S (d) (135, 40, L, st) M).trans (x_ocs _ _ (.int 20) 135 42 L st M)
theorem f135_42 (S : pm_S) (d : Nat) (L : List Value) (x y : Int32) (r : List Value) (M : pm_M) : fr S (d) (135, 42, L, .int y :: .int x :: r) M = if ¬ x = y then fr S d (135, 83, L, r) M else fr S d (135, 45, L, r) M := (fr_eq S (d) (135, 42, L, .int y :: .int x :: r) M).trans (x_oc2ne _ _ 135 45 83 L r x y M)
theorem f135_45 (S : pm_S) (d : Nat) (L : List Value) (st : List Value) (M : pm_M) : fr S (d) (135, 45, L, st) M = if pm_ty (L.getD 0 pm_U) = 2 then fr S d (135, 46, L, L.getD 0 pm_U :: st) M else none := (fr_eq S (d) (135, 45, L, st) M).trans (x_old _ _ 2 0 135 46 L st M)
theorem f135_46 (S : pm_S) (d : Nat) (L : List Value) (q : Nat) (r : List Value) (M : pm_M) : fr S (d) (135, 46, L, .ref q :: r) M = match pm_get M q with
  | some (.inr (c, fs)) => if c = 3 ∧ 9 < fs.length then fr S d (135, 49, L, fs.getD 9 pm_U :: r) M else none
  | _ => none := (fr_eq S (d) (135, 46, L, .ref q :: r) M).trans (x_ogf _ _ 3 9 135 49 L r q M)
theorem f135_49 (S : pm_S) (d : Nat) (L : List Value) (st : List Value) (M : pm_M) : fr S (d) (135, 49, L, st) M = if pm_ty (L.getD 2 pm_U) = 0 then fr S d (135, 50, L, L.getD 2 pm_U :: st) M else none := (fr_eq S (d) (135, 49, L, st) M).trans (x_old _ _ 0 2 135 50 L st M)
theorem f135_50 (S : pm_S) (d : Nat) (L : List Value) (i : Int32) (q : Nat) (hq : ¬ q = 1) (r : List Value) (M : pm_M) : fr S (d) (135, 50, L, .int i :: .ref q :: r) M = match (pm_get M q).bind (fun c => pm_el 0 c i) with
  | some v => fr S d (135, 51, L, v :: r) M
  | none => none := (fr_eq S (d) (135, 50, L, .int i :: .ref q :: r) M).trans (x_oal _ _ S 0 135 51 L r i q hq M)
theorem f135_51 (S : pm_S) (d : Nat) (L : List Value) (st : List Value) (M : pm_M) : fr S (d) (135, 51, L, st) M = fr S d (135, 52, L, .int (-1) :: st) M := (fr_eq S (d) (135, 51, L, st) M).trans (x_ocs _ _ (.int (-1)) 135 52 L st M)
theorem f135_52 (S : pm_S) (d : Nat) (L : List Value) (x y : Int32) (r : List Value) (M : pm_M) : fr S (d) (135, 52, L, .int y :: .int x :: r) M = if ¬ x = y then fr S d (135, 83, L, r) M else fr S d (135, 55, L, r) M := (fr_eq S (d) (135, 52, L, .int y :: .int x :: r) M).trans (x_oc2ne _ _ 135 55 83 L r x y M)
theorem f135_55 (S : pm_S) (d : Nat) (L : List Value) (st : List Value) (M : pm_M) : fr S (d) (135, 55, L, st) M = if pm_ty (L.getD 0 pm_U) = 2 then fr S d (135, 56, L, L.getD 0 pm_U :: st) M else none := (fr_eq S (d) (135, 55, L, st) M).trans (x_old _ _ 2 0 135 56 L st M)
theorem f135_56 (S : pm_S) (d : Nat) (L : List Value) (q : Nat) (r : List Value) (M : pm_M) : fr S (d) (135, 56, L, .ref q :: r) M = match pm_get M q with
  | some (.inr (c, fs)) => if c = 3 ∧ 15 < fs.length then fr S d (135, 59, L, fs.getD 15 pm_U :: r) M else none
  | _ => none := (fr_eq S (d) (135, 56, L, .ref q :: r) M).trans (x_ogf _ _ 3 15 135 59 L r q M)
theorem f135_59 (S : pm_S) (d : Nat) (L : List Value) (st : List Value) (M : pm_M) : fr S (d) (135, 59, L, st) M = fr S d (135, 60, L, .int 4 :: st) M := (fr_eq S (d) (135, 59, L, st) M).trans (x_ocs _ _ (.int 4) 135 60 L st M)
theorem f135_60 (S : pm_S) (d : Nat) (L : List Value) (x y : Int32) (r : List Value) (M : pm_M) : fr S (d) (135, 60, L, .int y :: .int x :: r) M = if y ≤ x then fr S d (135, 83, L, r) M else fr S d (135, 63, L, r) M := (fr_eq S (d) (135, 60, L, .int y :: .int x :: r) M).trans (x_oc2ge _ _ 135 63 83 L r x y M)
theorem f135_63 (S : pm_S) (d : Nat) (L : List Value) (st : List Value) (M : pm_M) : fr S (d) (135, 63, L, st) M = if pm_ty (L.getD 0 pm_U) = 2 then fr S d (135, 64, L, L.getD 0 pm_U :: st) M else none := (fr_eq S (d) (135, 63, L, st) M).trans (x_old _ _ 2 0 135 64 L st M)
theorem f135_64 (S : pm_S) (d : Nat) (L : List Value) (q : Nat) (r : List Value) (M : pm_M) : fr S (d) (135, 64, L, .ref q :: r) M = match pm_get M q with
  | some (.inr (c, fs)) => if c = 3 ∧ 14 < fs.length then fr S d (135, 67, L, fs.getD 14 pm_U :: r) M else none
  | _ => none := (fr_eq S (d) (135, 64, L, .ref q :: r) M).trans (x_ogf _ _ 3 14 135 67 L r q M)
theorem f135_67 (S : pm_S) (d : Nat) (L : List Value) (st : List Value) (M : pm_M) : fr S (d) (135, 67, L, st) M = if pm_ty (L.getD 0 pm_U) = 2 then fr S d (135, 68, L, L.getD 0 pm_U :: st) M else none := (fr_eq S (d) (135, 67, L, st) M).trans (x_old _ _ 2 0 135 68 L st M)
theorem f135_68 (S : pm_S) (d : Nat) (L : List Value) (q : Nat) (r : List Value) (M : pm_M) : fr S (d) (135, 68, L, .ref q :: r) M = match pm_get M q with
  | some (.inr (c, fs)) => if c = 3 ∧ 15 < fs.length then fr S d (135, 71, L, fs.getD 15 pm_U :: r) M else none
  | _ => none := (fr_eq S (d) (135, 68, L, .ref q :: r) M).trans (x_ogf _ _ 3 15 135 71 L r q M)
theorem f135_71 (S : pm_S) (d : Nat) (L : List Value) (st : List Value) (M : pm_M) : fr S (d) (135, 71, L, st) M = if pm_ty (L.getD 2 pm_U) = 0 then fr S d (135, 72, L, L.getD 2 pm_U :: st) M else none := (fr_eq S (d) (135, 71, L, st) M).trans (x_old _ _ 0 2 135 72 L st M)
theorem f135_72 (S : pm_S) (d : Nat) (L : List Value) (v : Value) (i : Int32) (q : Nat) (r : List Value) (M : pm_M) : fr S (d) (135, 72, L, v :: .int i :: .ref q :: r) M = if pm_sq M 9 v = true then (match (pm_get M q).bind (fun c => pm_ev 0 0 c i v) with
  | some c => fr S d (135, 73, L, r) (pm_set M q c)
  | none => none) else none := (fr_eq S (d) (135, 72, L, v :: .int i :: .ref q :: r) M).trans (x_oas _ _ 0 0 9 135 73 L r v i q M)
theorem f135_73 (S : pm_S) (d : Nat) (L : List Value) (st : List Value) (M : pm_M) : fr S (d) (135, 73, L, st) M = if pm_ty (L.getD 0 pm_U) = 2 then fr S d (135, 74, L, L.getD 0 pm_U :: st) M else none := (fr_eq S (d) (135, 73, L, st) M).trans (x_old _ _ 2 0 135 74 L st M)
theorem f135_74 (S : pm_S) (d : Nat) (L : List Value) (v : Value) (r : List Value) (M : pm_M) : fr S (d) (135, 74, L, v :: r) M = if ¬ pm_ty v = 1 ∧ ¬ pm_ty v = 9 then fr S d (135, 75, L, v :: v :: r) M else none := (fr_eq S (d) (135, 74, L, v :: r) M).trans (x_odup _ _ 135 75 L r v M)
theorem f135_75 (S : pm_S) (d : Nat) (L : List Value) (q : Nat) (r : List Value) (M : pm_M) : fr S (d) (135, 75, L, .ref q :: r) M = match pm_get M q with
  | some (.inr (c, fs)) => if c = 3 ∧ 15 < fs.length then fr S d (135, 78, L, fs.getD 15 pm_U :: r) M else none
  | _ => none := (fr_eq S (d) (135, 75, L, .ref q :: r) M).trans (x_ogf _ _ 3 15 135 78 L r q M)
theorem f135_78 (S : pm_S) (d : Nat) (L : List Value) (st : List Value) (M : pm_M) : fr S (d) (135, 78, L, st) M = fr S d (135, 79, L, .int 1 :: st) M := (fr_eq S (d) (135, 78, L, st) M).trans (x_ocs _ _ (.int 1) 135 79 L st M)
theorem f135_79 (S : pm_S) (d : Nat) (L : List Value) (x y : Int32) (r : List Value) (M : pm_M) : fr S (d) (135, 79, L, .int y :: .int x :: r) M = fr S d (135, 80, L, .int (x + y) :: r) M := (fr_eq S (d) (135, 79, L, .int y :: .int x :: r) M).trans (x_oii _ _ (fun x y => x + y) 135 80 L r x y M)
theorem f135_80 (S : pm_S) (d : Nat) (L : List Value) (v : Value) (q : Nat) (r : List Value) (M : pm_M) : fr S (d) (135, 80, L, v :: .ref q :: r) M = match pm_get M q with
  | some (.inr (c, fs)) => if c = 3 ∧ 15 < fs.length ∧ pm_fit 0 v = true then fr S d (135, 83, L, r) (pm_set M q (.inr (c, fs.set 15 v))) else none
  | _ => none := (fr_eq S (d) (135, 80, L, v :: .ref q :: r) M).trans (x_opf _ _ 3 15 0 135 83 L r q v M)
theorem f135_83 (S : pm_S) (d : Nat) (L : List Value) (st : List Value) (M : pm_M) : fr S (d) (135, 83, L, st) M = match L.getD 2 pm_U with
  | .int x => if 2 < L.length ∧ ¬ pm_ty (L.getD (2 - 1) pm_U) = 1 then fr S d (135, 86, L.set 2 (.int (x + 1)), st) M else none
  | _ => none := (fr_eq S (d) (135, 83, L, st) M).trans (x_oinc _ _ 2 1 135 86 L st M)
theorem f135_86 (S : pm_S) (d : Nat) (L : List Value) (st : List Value) (M : pm_M) : fr S (d) (135, 86, L, st) M = fr S d (135, 26, L, st) M := (fr_eq S (d) (135, 86, L, st) M).trans (x_ogo _ _ 135 26 L st M)
theorem f135_89 (S : pm_S) (d : Nat) (L : List Value) (st : List Value) (M : pm_M) : fr S (d) (135, 89, L, st) M = if pm_ty (L.getD 0 pm_U) = 2 then fr S d (135, 90, L, L.getD 0 pm_U :: st) M else none := (fr_eq S (d) (135, 89, L, st) M).trans (x_old _ _ 2 0 135 90 L st M)
theorem f135_90 (S : pm_S) (d : Nat) (L : List Value) (st : List Value) (M : pm_M) : fr S (d) (135, 90, L, st) M = if pm_ty (L.getD 1 pm_U) = 0 then fr S d (135, 91, L, L.getD 1 pm_U :: st) M else none := (fr_eq S (d) (135, 90, L, st) M).trans (x_old _ _ 0 1 135 91 L st M)
theorem f135_91 (S : pm_S) (d : Nat) (L : List Value) (st : List Value) (M : pm_M) : fr S (d + 1) (135, 91, L, st) M = match pm_ag 2 [] st with
  | some (a, r) => if r.length ≤ 4 ∧ (1 = 0 ∨ pm_obj M 3 (a.headD pm_U) = true) then (match fr S d (134, 0, a ++ [pm_U, pm_U, pm_U, pm_U, pm_U, pm_U], []) M with
    | none => none
    | some (.inl v, M') => fr S (d + 1) (135, 94, L, v.toList ++ r) M'
    | some (.inr E, M') => some (.inr E, M')) else none
  | none => none := (fr_eq S (d + 1) (135, 91, L, st) M).trans (x_ocl _ _ 1 134 2 3 [pm_U, pm_U, pm_U, pm_U, pm_U, pm_U] 135 94 L st M)
theorem f135_94 (S : pm_S) (d : Nat) (L : List Value) (v : Value) (M : pm_M) : fr S (d) (135, 94, L, [v]) M = if pm_fit 0 v = true then some (.inl (some v), M) else none := (fr_eq S (d) (135, 94, L, [v]) M).trans (x_ort _ _ 0 v M)
theorem f136_0 (S : pm_S) (d : Nat) (L : List Value) (st : List Value) (M : pm_M) : fr S (d) (136, 0, L, st) M = if pm_ty (L.getD 0 pm_U) = 2 then fr S d (136, 1, L, L.getD 0 pm_U :: st) M else none := (fr_eq S (d) (136, 0, L, st) M).trans (x_old _ _ 2 0 136 1 L st M)
theorem f136_1 (S : pm_S) (d : Nat) (L : List Value) (st : List Value) (M : pm_M) : fr S (d) (136, 1, L, st) M = if pm_ty (L.getD 0 pm_U) = 2 then fr S d (136, 2, L, L.getD 0 pm_U :: st) M else none := (fr_eq S (d) (136, 1, L, st) M).trans (x_old _ _ 2 0 136 2 L st M)
theorem f136_2 (S : pm_S) (d : Nat) (L : List Value) (st : List Value) (M : pm_M) : fr S (d) (136, 2, L, st) M = if pm_ty (L.getD 1 pm_U) = 0 then fr S d (136, 3, L, L.getD 1 pm_U :: st) M else none := (fr_eq S (d) (136, 2, L, st) M).trans (x_old _ _ 0 1 136 3 L st M)
theorem f136_3 (S : pm_S) (d : Nat) (L : List Value) (st : List Value) (M : pm_M) : fr S (d) (136, 3, L, st) M = if pm_ty (L.getD 2 pm_U) = 0 then fr S d (136, 4, L, L.getD 2 pm_U :: st) M else none := (fr_eq S (d) (136, 3, L, st) M).trans (x_old _ _ 0 2 136 4 L st M)
theorem f136_4 (S : pm_S) (d : Nat) (L : List Value) (st : List Value) (M : pm_M) : fr S (d) (136, 4, L, st) M = if pm_ty (L.getD 3 pm_U) = 0 then fr S d (136, 5, L, L.getD 3 pm_U :: st) M else none := (fr_eq S (d) (136, 4, L, st) M).trans (x_old _ _ 0 3 136 5 L st M)
theorem f136_5 (S : pm_S) (d : Nat) (L : List Value) (st : List Value) (M : pm_M) : fr S (d + 1) (136, 5, L, st) M = match pm_ag 4 [] st with
  | some (a, r) => if r.length ≤ 4 ∧ (1 = 0 ∨ pm_obj M 3 (a.headD pm_U) = true) then (match fr S d (107, 0, a ++ [], []) M with
    | none => none
    | some (.inl v, M') => fr S (d + 1) (136, 8, L, v.toList ++ r) M'
    | some (.inr E, M') => some (.inr E, M')) else none
  | none => none := (fr_eq S (d + 1) (136, 5, L, st) M).trans (x_ocl _ _ 1 107 4 3 [] 136 8 L st M)
theorem f136_8 (S : pm_S) (d : Nat) (L : List Value) (x : Int32) (r : List Value) (M : pm_M) : fr S (d) (136, 8, L, .int x :: r) M = if x = 0 then fr S d (136, 15, L, r) M else fr S d (136, 11, L, r) M := (fr_eq S (d) (136, 8, L, .int x :: r) M).trans (x_oc1eq _ _ 136 11 15 L r x M)
theorem f136_11 (S : pm_S) (d : Nat) (L : List Value) (st : List Value) (M : pm_M) : fr S (d) (136, 11, L, st) M = fr S d (136, 12, L, .int 0 :: st) M := (fr_eq S (d) (136, 11, L, st) M).trans (x_ocs _ _ (.int 0) 136 12 L st M)
theorem f136_12 (S : pm_S) (d : Nat) (L : List Value) (st : List Value) (M : pm_M) : fr S (d) (136, 12, L, st) M = fr S d (136, 16, L, st) M := (fr_eq S (d) (136, 12, L, st) M).trans (x_ogo _ _ 136 16 L st M)
theorem f136_15 (S : pm_S) (d : Nat) (L : List Value) (st : List Value) (M : pm_M) : fr S (d) (136, 15, L, st) M = fr S d (136, 16, L, .int 1 :: st) M := (fr_eq S (d) (136, 15, L, st) M).trans (x_ocs _ _ (.int 1) 136 16 L st M)
theorem f136_16 (S : pm_S) (d : Nat) (L : List Value) (v : Value) (q : Nat) (r : List Value) (M : pm_M) : fr S (d) (136, 16, L, v :: .ref q :: r) M = match pm_get M q with
  | some (.inr (c, fs)) => if c = 3 ∧ 0 < fs.length ∧ pm_fit 0 v = true then fr S d (136, 19, L, r) (pm_set M q (.inr (c, fs.set 0 v))) else none
  | _ => none := (fr_eq S (d) (136, 16, L, v :: .ref q :: r) M).trans (x_opf _ _ 3 0 0 136 19 L r q v M)
theorem f136_19 (S : pm_S) (d : Nat) (L : List Value) (st : List Value) (M : pm_M) : fr S (d) (136, 19, L, st) M = if pm_ty (L.getD 0 pm_U) = 2 then fr S d (136, 20, L, L.getD 0 pm_U :: st) M else none := (fr_eq S (d) (136, 19, L, st) M).trans (x_old _ _ 2 0 136 20 L st M)
theorem f136_20 (S : pm_S) (d : Nat) (L : List Value) (q : Nat) (r : List Value) (M : pm_M) : fr S (d) (136, 20, L, .ref q :: r) M = match pm_get M q with
  | some (.inr (c, fs)) => if c = 3 ∧ 0 < fs.length then fr S d (136, 23, L, fs.getD 0 pm_U :: r) M else none
  | _ => none := (fr_eq S (d) (136, 20, L, .ref q :: r) M).trans (x_ogf _ _ 3 0 136 23 L r q M)
theorem f136_23 (S : pm_S) (d : Nat) (L : List Value) (x : Int32) (r : List Value) (M : pm_M) : fr S (d) (136, 23, L, .int x :: r) M = if x ≤ 0 then fr S d (136, 30, L, r) M else fr S d (136, 26, L, r) M := (fr_eq S (d) (136, 23, L, .int x :: r) M).trans (x_oc1le _ _ 136 26 30 L r x M)
theorem f136_26 (S : pm_S) (d : Nat) (L : List Value) (st : List Value) (M : pm_M) : fr S (d) (136, 26, L, st) M = fr S d (136, 27, L, .int 0 :: st) M := (fr_eq S (d) (136, 26, L, st) M).trans (x_ocs _ _ (.int 0) 136 27 L st M)
theorem f136_27 (S : pm_S) (d : Nat) (L : List Value) (st : List Value) (M : pm_M) : fr S (d) (136, 27, L, st) M = fr S d (136, 37, L, st) M := (fr_eq S (d) (136, 27, L, st) M).trans (x_ogo _ _ 136 37 L st M)
theorem f136_30 (S : pm_S) (d : Nat) (L : List Value) (st : List Value) (M : pm_M) : fr S (d) (136, 30, L, st) M = if pm_ty (L.getD 0 pm_U) = 2 then fr S d (136, 31, L, L.getD 0 pm_U :: st) M else none := (fr_eq S (d) (136, 30, L, st) M).trans (x_old _ _ 2 0 136 31 L st M)
theorem f136_31 (S : pm_S) (d : Nat) (L : List Value) (st : List Value) (M : pm_M) : fr S (d) (136, 31, L, st) M = if pm_ty (L.getD 1 pm_U) = 0 then fr S d (136, 32, L, L.getD 1 pm_U :: st) M else none := (fr_eq S (d) (136, 31, L, st) M).trans (x_old _ _ 0 1 136 32 L st M)
theorem f136_32 (S : pm_S) (d : Nat) (L : List Value) (st : List Value) (M : pm_M) : fr S (d) (136, 32, L, st) M = if pm_ty (L.getD 2 pm_U) = 0 then fr S d (136, 33, L, L.getD 2 pm_U :: st) M else none := (fr_eq S (d) (136, 32, L, st) M).trans (x_old _ _ 0 2 136 33 L st M)
theorem f136_33 (S : pm_S) (d : Nat) (L : List Value) (st : List Value) (M : pm_M) : fr S (d) (136, 33, L, st) M = if pm_ty (L.getD 3 pm_U) = 0 then fr S d (136, 34, L, L.getD 3 pm_U :: st) M else none := (fr_eq S (d) (136, 33, L, st) M).trans (x_old _ _ 0 3 136 34 L st M)
theorem f136_34 (S : pm_S) (d : Nat) (L : List Value) (st : List Value) (M : pm_M) : fr S (d + 1) (136, 34, L, st) M = match pm_ag 4 [] st with
  | some (a, r) => if r.length ≤ 4 ∧ (1 = 0 ∨ pm_obj M 3 (a.headD pm_U) = true) then (match fr S d (116, 0, a ++ [], []) M with
    | none => none
    | some (.inl v, M') => fr S (d + 1) (136, 37, L, v.toList ++ r) M'
    | some (.inr E, M') => some (.inr E, M')) else none
  | none => none := (fr_eq S (d + 1) (136, 34, L, st) M).trans (x_ocl _ _ 1 116 4 3 [] 136 37 L st M)
theorem f136_37 (S : pm_S) (d : Nat) (L : List Value) (v : Value) (M : pm_M) : fr S (d) (136, 37, L, [v]) M = if pm_fit 0 v = true then some (.inl (some v), M) else none := (fr_eq S (d) (136, 37, L, [v]) M).trans (x_ort _ _ 0 v M)
theorem f137_0 (S : pm_S) (d : Nat) (L : List Value) (st : List Value) (M : pm_M) : fr S (d) (137, 0, L, st) M = if pm_ty (L.getD 0 pm_U) = 2 then fr S d (137, 1, L, L.getD 0 pm_U :: st) M else none := (fr_eq S (d) (137, 0, L, st) M).trans (x_old _ _ 2 0 137 1 L st M)
theorem f137_1 (S : pm_S) (d : Nat) (L : List Value) (st : List Value) (M : pm_M) : fr S (d) (137, 1, L, st) M = if pm_ty (L.getD 1 pm_U) = 0 then fr S d (137, 2, L, L.getD 1 pm_U :: st) M else none := (fr_eq S (d) (137, 1, L, st) M).trans (x_old _ _ 0 1 137 2 L st M)
theorem f137_2 (S : pm_S) (d : Nat) (L : List Value) (st : List Value) (M : pm_M) : fr S (d + 1) (137, 2, L, st) M = match pm_ag 2 [] st with
  | some (a, r) => if r.length ≤ 4 ∧ (1 = 0 ∨ pm_obj M 3 (a.headD pm_U) = true) then (match fr S d (105, 0, a ++ [], []) M with
    | none => none
    | some (.inl v, M') => fr S (d + 1) (137, 5, L, v.toList ++ r) M'
    | some (.inr E, M') => some (.inr E, M')) else none
  | none => none := (fr_eq S (d + 1) (137, 2, L, st) M).trans (x_ocl _ _ 1 105 2 3 [] 137 5 L st M)
theorem f137_5 (S : pm_S) (d : Nat) (L : List Value) (x : Int32) (r : List Value) (M : pm_M) : fr S (d) (137, 5, L, .int x :: r) M = if x = 0 then fr S d (137, 18, L, r) M else fr S d (137, 8, L, r) M := (fr_eq S (d) (137, 5, L, .int x :: r) M).trans (x_oc1eq _ _ 137 8 18 L r x M)
theorem f137_8 (S : pm_S) (d : Nat) (L : List Value) (st : List Value) (M : pm_M) : fr S (d) (137, 8, L, st) M = if pm_ty (L.getD 2 pm_U) = 0 then fr S d (137, 9, L, L.getD 2 pm_U :: st) M else none := (fr_eq S (d) (137, 8, L, st) M).trans (x_old _ _ 0 2 137 9 L st M)
theorem f137_9 (S : pm_S) (d : Nat) (L : List Value) (st : List Value) (M : pm_M) : fr S (d) (137, 9, L, st) M = fr S d (137, 10, L, .int 0 :: st) M := (fr_eq S (d) (137, 9, L, st) M).trans (x_ocs _ _ (.int 0) 137 10 L st M)
theorem f137_10 (S : pm_S) (d : Nat) (L : List Value) (st : List Value) (M : pm_M) : fr S (d) (137, 10, L, st) M = fr S d (137, 12, L, .int 6 :: st) M := (fr_eq S (d) (137, 10, L, st) M).trans (x_ocs _ _ (.int 6) 137 12 L st M)
theorem f137_12 (S : pm_S) (d : Nat) (L : List Value) (st : List Value) (M : pm_M) : fr S (d + 1) (137, 12, L, st) M = match pm_ag 3 [] st with
  | some (a, r) => if r.length ≤ 4 ∧ (0 = 0 ∨ pm_obj M 3 (a.headD pm_U) = true) then (match fr S d (104, 0, a ++ [], []) M with
    | none => none
    | some (.inl v, M') => fr S (d + 1) (137, 15, L, v.toList ++ r) M'
    | some (.inr E, M') => some (.inr E, M')) else none
  | none => none := (fr_eq S (d + 1) (137, 12, L, st) M).trans (x_ocl _ _ 0 104 3 3 [] 137 15 L st M)
theorem f137_15 (S : pm_S) (d : Nat) (L : List Value) (x : Int32) (r : List Value) (M : pm_M) : fr S (d) (137, 15, L, .int x :: r) M = if ¬ x = 0 then fr S d (137, 24, L, r) M else fr S d (137, 18, L, r) M := (fr_eq S (d) (137, 15, L, .int x :: r) M).trans (x_oc1ne _ _ 137 18 24 L r x M)
theorem f137_18 (S : pm_S) (d : Nat) (L : List Value) (st : List Value) (M : pm_M) : fr S (d) (137, 18, L, st) M = if pm_ty (L.getD 0 pm_U) = 2 then fr S d (137, 19, L, L.getD 0 pm_U :: st) M else none := (fr_eq S (d) (137, 18, L, st) M).trans (x_old _ _ 2 0 137 19 L st M)
theorem f137_19 (S : pm_S) (d : Nat) (L : List Value) (st : List Value) (M : pm_M) : fr S (d) (137, 19, L, st) M = fr S d (137, 20, L, .int 1 :: st) M := (fr_eq S (d) (137, 19, L, st) M).trans (x_ocs _ _ (.int 1) 137 20 L st M)
theorem f137_20 (S : pm_S) (d : Nat) (L : List Value) (st : List Value) (M : pm_M) : fr S (d + 1) (137, 20, L, st) M = match pm_ag 2 [] st with
  | some (a, r) => if r.length ≤ 4 ∧ (1 = 0 ∨ pm_obj M 3 (a.headD pm_U) = true) then (match fr S d (103, 0, a ++ [], []) M with
    | none => none
    | some (.inl v, M') => fr S (d + 1) (137, 23, L, v.toList ++ r) M'
    | some (.inr E, M') => some (.inr E, M')) else none
  | none => none := (fr_eq S (d + 1) (137, 20, L, st) M).trans (x_ocl _ _ 1 103 2 3 [] 137 23 L st M)
theorem f137_23 (S : pm_S) (d : Nat) (L : List Value) (v : Value) (M : pm_M) : fr S (d) (137, 23, L, [v]) M = if pm_fit 0 v = true then some (.inl (some v), M) else none := (fr_eq S (d) (137, 23, L, [v]) M).trans (x_ort _ _ 0 v M)
theorem f137_24 (S : pm_S) (d : Nat) (L : List Value) (st : List Value) (M : pm_M) : fr S (d) (137, 24, L, st) M = if pm_ty (L.getD 0 pm_U) = 2 then fr S d (137, 25, L, L.getD 0 pm_U :: st) M else none := (fr_eq S (d) (137, 24, L, st) M).trans (x_old _ _ 2 0 137 25 L st M)
theorem f137_25 (S : pm_S) (d : Nat) (L : List Value) (st : List Value) (M : pm_M) : fr S (d) (137, 25, L, st) M = fr S d (137, 26, L, .int 0 :: st) M := (fr_eq S (d) (137, 25, L, st) M).trans (x_ocs _ _ (.int 0) 137 26 L st M)
theorem f137_26 (S : pm_S) (d : Nat) (L : List Value) (v : Value) (q : Nat) (r : List Value) (M : pm_M) : fr S (d) (137, 26, L, v :: .ref q :: r) M = match pm_get M q with
  | some (.inr (c, fs)) => if c = 3 ∧ 0 < fs.length ∧ pm_fit 0 v = true then fr S d (137, 29, L, r) (pm_set M q (.inr (c, fs.set 0 v))) else none
  | _ => none := (fr_eq S (d) (137, 26, L, v :: .ref q :: r) M).trans (x_opf _ _ 3 0 0 137 29 L r q v M)
theorem f137_29 (S : pm_S) (d : Nat) (L : List Value) (st : List Value) (M : pm_M) : fr S (d) (137, 29, L, st) M = if pm_ty (L.getD 0 pm_U) = 2 then fr S d (137, 30, L, L.getD 0 pm_U :: st) M else none := (fr_eq S (d) (137, 29, L, st) M).trans (x_old _ _ 2 0 137 30 L st M)
theorem f137_30 (S : pm_S) (d : Nat) (L : List Value) (q : Nat) (r : List Value) (M : pm_M) : fr S (d) (137, 30, L, .ref q :: r) M = match pm_get M q with
  | some (.inr (c, fs)) => if c = 3 ∧ 9 < fs.length then fr S d (137, 33, L, fs.getD 9 pm_U :: r) M else none
  | _ => none := (fr_eq S (d) (137, 30, L, .ref q :: r) M).trans (x_ogf _ _ 3 9 137 33 L r q M)
theorem f137_33 (S : pm_S) (d : Nat) (L : List Value) (st : List Value) (M : pm_M) : fr S (d) (137, 33, L, st) M = if pm_ty (L.getD 1 pm_U) = 0 then fr S d (137, 34, L, L.getD 1 pm_U :: st) M else none := (fr_eq S (d) (137, 33, L, st) M).trans (x_old _ _ 0 1 137 34 L st M)
theorem f137_34 (S : pm_S) (d : Nat) (L : List Value) (i : Int32) (q : Nat) (hq : ¬ q = 1) (r : List Value) (M : pm_M) : fr S (d) (137, 34, L, .int i :: .ref q :: r) M = match (pm_get M q).bind (fun c => pm_el 0 c i) with
  | some v => fr S d (137, 35, L, v :: r) M
  | none => none := (fr_eq S (d) (137, 34, L, .int i :: .ref q :: r) M).trans (x_oal _ _ S 0 137 35 L r i q hq M)
theorem f137_35 (S : pm_S) (d : Nat) (L : List Value) (v : Value) (r : List Value) (M : pm_M) : fr S (d) (137, 35, L, v :: r) M = if pm_ty v = 0 ∧ 3 < L.length ∧ ¬ pm_ty (L.getD (3 - 1) pm_U) = 1 then fr S d (137, 36, L.set 3 v, r) M else none := (fr_eq S (d) (137, 35, L, v :: r) M).trans (x_ost _ _ 0 3 137 36 L r v M)
theorem f137_36 (S : pm_S) (d : Nat) (L : List Value) (st : List Value) (M : pm_M) : fr S (d) (137, 36, L, st) M = if pm_ty (L.getD 2 pm_U) = 0 then fr S d (137, 37, L, L.getD 2 pm_U :: st) M else none := (fr_eq S (d) (137, 36, L, st) M).trans (x_old _ _ 0 2 137 37 L st M)
theorem f137_37 (S : pm_S) (d : Nat) (L : List Value) (x : Int32) (r : List Value) (M : pm_M) : fr S (d) (137, 37, L, .int x :: r) M = if x.toInt < 0 ∨ 0 + (([76, 83, 90, 97, 104, 117] : List Nat).length : Int) ≤ x.toInt then fr S d (137, 131, L, r) M else fr S d (137, ([76, 83, 90, 97, 104, 117] : List Nat).getD (x.toInt - 0).toNat 131, L, r) M := (fr_eq S (d) (137, 37, L, .int x :: r) M).trans (x_ots _ _ 131 0 [76, 83, 90, 97, 104, 117] 137 L r x M)
theorem f137_76 (S : pm_S) (d : Nat) (L : List Value) (st : List Value) (M : pm_M) : fr S (d) (137, 76, L, st) M = if pm_ty (L.getD 0 pm_U) = 2 then fr S d (137, 77, L, L.getD 0 pm_U :: st) M else none := (fr_eq S (d) (137, 76, L, st) M).trans (x_old _ _ 2 0 137 77 L st M)
theorem f137_77 (S : pm_S) (d : Nat) (L : List Value) (q : Nat) (r : List Value) (M : pm_M) : fr S (d) (137, 77, L, .ref q :: r) M = match pm_get M q with
  | some (.inr (c, fs)) => if c = 3 ∧ 5 < fs.length then fr S d (137, 80, L, fs.getD 5 pm_U :: r) M else none
  | _ => none := (fr_eq S (d) (137, 77, L, .ref q :: r) M).trans (x_ogf _ _ 3 5 137 80 L r q M)
theorem f137_80 (S : pm_S) (d : Nat) (L : List Value) (st : List Value) (M : pm_M) : fr S (d) (137, 80, L, st) M = if pm_ty (L.getD 1 pm_U) = 0 then fr S d (137, 81, L, L.getD 1 pm_U :: st) M else none := (fr_eq S (d) (137, 80, L, st) M).trans (x_old _ _ 0 1 137 81 L st M)
theorem f137_81 (S : pm_S) (d : Nat) (L : List Value) (i : Int32) (q : Nat) (hq : ¬ q = 1) (r : List Value) (M : pm_M) : fr S (d) (137, 81, L, .int i :: .ref q :: r) M = match (pm_get M q).bind (fun c => pm_el 0 c i) with
  | some v => fr S d (137, 82, L, v :: r) M
  | none => none := (fr_eq S (d) (137, 81, L, .int i :: .ref q :: r) M).trans (x_oal _ _ S 0 137 82 L r i q hq M)
theorem f137_82 (S : pm_S) (d : Nat) (L : List Value) (v : Value) (M : pm_M) : fr S (d) (137, 82, L, [v]) M = if pm_fit 0 v = true then some (.inl (some v), M) else none := (fr_eq S (d) (137, 82, L, [v]) M).trans (x_ort _ _ 0 v M)
theorem f137_83 (S : pm_S) (d : Nat) (L : List Value) (st : List Value) (M : pm_M) : fr S (d) (137, 83, L, st) M = if pm_ty (L.getD 0 pm_U) = 2 then fr S d (137, 84, L, L.getD 0 pm_U :: st) M else none := (fr_eq S (d) (137, 83, L, st) M).trans (x_old _ _ 2 0 137 84 L st M)
theorem f137_84 (S : pm_S) (d : Nat) (L : List Value) (q : Nat) (r : List Value) (M : pm_M) : fr S (d) (137, 84, L, .ref q :: r) M = match pm_get M q with
  | some (.inr (c, fs)) => if c = 3 ∧ 6 < fs.length then fr S d (137, 87, L, fs.getD 6 pm_U :: r) M else none
  | _ => none := (fr_eq S (d) (137, 84, L, .ref q :: r) M).trans (x_ogf _ _ 3 6 137 87 L r q M)
theorem f137_87 (S : pm_S) (d : Nat) (L : List Value) (st : List Value) (M : pm_M) : fr S (d) (137, 87, L, st) M = if pm_ty (L.getD 1 pm_U) = 0 then fr S d (137, 88, L, L.getD 1 pm_U :: st) M else none := (fr_eq S (d) (137, 87, L, st) M).trans (x_old _ _ 0 1 137 88 L st M)
theorem f137_88 (S : pm_S) (d : Nat) (L : List Value) (i : Int32) (q : Nat) (hq : ¬ q = 1) (r : List Value) (M : pm_M) : fr S (d) (137, 88, L, .int i :: .ref q :: r) M = match (pm_get M q).bind (fun c => pm_el 0 c i) with
  | some v => fr S d (137, 89, L, v :: r) M
  | none => none := (fr_eq S (d) (137, 88, L, .int i :: .ref q :: r) M).trans (x_oal _ _ S 0 137 89 L r i q hq M)
theorem f137_89 (S : pm_S) (d : Nat) (L : List Value) (v : Value) (M : pm_M) : fr S (d) (137, 89, L, [v]) M = if pm_fit 0 v = true then some (.inl (some v), M) else none := (fr_eq S (d) (137, 89, L, [v]) M).trans (x_ort _ _ 0 v M)
theorem f137_90 (S : pm_S) (d : Nat) (L : List Value) (st : List Value) (M : pm_M) : fr S (d) (137, 90, L, st) M = if pm_ty (L.getD 0 pm_U) = 2 then fr S d (137, 91, L, L.getD 0 pm_U :: st) M else none := (fr_eq S (d) (137, 90, L, st) M).trans (x_old _ _ 2 0 137 91 L st M)
theorem f137_91 (S : pm_S) (d : Nat) (L : List Value) (q : Nat) (r : List Value) (M : pm_M) : fr S (d) (137, 91, L, .ref q :: r) M = match pm_get M q with
  | some (.inr (c, fs)) => if c = 3 ∧ 7 < fs.length then fr S d (137, 94, L, fs.getD 7 pm_U :: r) M else none
  | _ => none := (fr_eq S (d) (137, 91, L, .ref q :: r) M).trans (x_ogf _ _ 3 7 137 94 L r q M)
theorem f137_94 (S : pm_S) (d : Nat) (L : List Value) (st : List Value) (M : pm_M) : fr S (d) (137, 94, L, st) M = if pm_ty (L.getD 1 pm_U) = 0 then fr S d (137, 95, L, L.getD 1 pm_U :: st) M else none := (fr_eq S (d) (137, 94, L, st) M).trans (x_old _ _ 0 1 137 95 L st M)
theorem f137_95 (S : pm_S) (d : Nat) (L : List Value) (i : Int32) (q : Nat) (hq : ¬ q = 1) (r : List Value) (M : pm_M) : fr S (d) (137, 95, L, .int i :: .ref q :: r) M = match (pm_get M q).bind (fun c => pm_el 0 c i) with
  | some v => fr S d (137, 96, L, v :: r) M
  | none => none := (fr_eq S (d) (137, 95, L, .int i :: .ref q :: r) M).trans (x_oal _ _ S 0 137 96 L r i q hq M)
theorem f137_96 (S : pm_S) (d : Nat) (L : List Value) (v : Value) (M : pm_M) : fr S (d) (137, 96, L, [v]) M = if pm_fit 0 v = true then some (.inl (some v), M) else none := (fr_eq S (d) (137, 96, L, [v]) M).trans (x_ort _ _ 0 v M)
theorem f137_97 (S : pm_S) (d : Nat) (L : List Value) (st : List Value) (M : pm_M) : fr S (d) (137, 97, L, st) M = if pm_ty (L.getD 0 pm_U) = 2 then fr S d (137, 98, L, L.getD 0 pm_U :: st) M else none := (fr_eq S (d) (137, 97, L, st) M).trans (x_old _ _ 2 0 137 98 L st M)
theorem f137_98 (S : pm_S) (d : Nat) (L : List Value) (q : Nat) (r : List Value) (M : pm_M) : fr S (d) (137, 98, L, .ref q :: r) M = match pm_get M q with
  | some (.inr (c, fs)) => if c = 3 ∧ 8 < fs.length then fr S d (137, 101, L, fs.getD 8 pm_U :: r) M else none
  | _ => none := (fr_eq S (d) (137, 98, L, .ref q :: r) M).trans (x_ogf _ _ 3 8 137 101 L r q M)
theorem f137_101 (S : pm_S) (d : Nat) (L : List Value) (st : List Value) (M : pm_M) : fr S (d) (137, 101, L, st) M = if pm_ty (L.getD 1 pm_U) = 0 then fr S d (137, 102, L, L.getD 1 pm_U :: st) M else none := (fr_eq S (d) (137, 101, L, st) M).trans (x_old _ _ 0 1 137 102 L st M)
theorem f137_102 (S : pm_S) (d : Nat) (L : List Value) (i : Int32) (q : Nat) (hq : ¬ q = 1) (r : List Value) (M : pm_M) : fr S (d) (137, 102, L, .int i :: .ref q :: r) M = match (pm_get M q).bind (fun c => pm_el 0 c i) with
  | some v => fr S d (137, 103, L, v :: r) M
  | none => none := (fr_eq S (d) (137, 102, L, .int i :: .ref q :: r) M).trans (x_oal _ _ S 0 137 103 L r i q hq M)
theorem f137_103 (S : pm_S) (d : Nat) (L : List Value) (v : Value) (M : pm_M) : fr S (d) (137, 103, L, [v]) M = if pm_fit 0 v = true then some (.inl (some v), M) else none := (fr_eq S (d) (137, 103, L, [v]) M).trans (x_ort _ _ 0 v M)
theorem f137_104 (S : pm_S) (d : Nat) (L : List Value) (st : List Value) (M : pm_M) : fr S (d) (137, 104, L, st) M = if pm_ty (L.getD 3 pm_U) = 0 then fr S d (137, 105, L, L.getD 3 pm_U :: st) M else none := (fr_eq S (d) (137, 104, L, st) M).trans (x_old _ _ 0 3 137 105 L st M)
theorem f137_105 (S : pm_S) (d : Nat) (L : List Value) (x : Int32) (r : List Value) (M : pm_M) : fr S (d) (137, 105, L, .int x :: r) M = if 0 ≤ x then fr S d (137, 112, L, r) M else fr S d (137, 108, L, r) M := (fr_eq S (d) (137, 105, L, .int x :: r) M).trans (x_oc1ge _ _ 137 108 112 L r x M)
theorem f137_108 (S : pm_S) (d : Nat) (L : List Value) (st : List Value) (M : pm_M) : fr S (d) (137, 108, L, st) M = fr S d (137, 109, L, .int (-1) :: st) M := (fr_eq S (d) (137, 108, L, st) M).trans (x_ocs _ _ (.int (-1)) 137 109 L st M)
theorem f137_109 (S : pm_S) (d : Nat) (L : List Value) (st : List Value) (M : pm_M) : fr S (d) (137, 109, L, st) M = fr S d (137, 116, L, st) M := (fr_eq S (d) (137, 109, L, st) M).trans (x_ogo _ _ 137 116 L st M)
theorem f137_112 (S : pm_S) (d : Nat) (L : List Value) (st : List Value) (M : pm_M) : fr S (d) (137, 112, L, st) M = if pm_ty (L.getD 3 pm_U) = 0 then fr S d (137, 113, L, L.getD 3 pm_U :: st) M else none := (fr_eq S (d) (137, 112, L, st) M).trans (x_old _ _ 0 3 137 113 L st M)
theorem f137_113 (S : pm_S) (d : Nat) (L : List Value) (st : List Value) (M : pm_M) : fr S (d) (137, 113, L, st) M = fr S d (137, 115, L, .int 20 :: st) M := (fr_eq S (d) (137, 113, L, st) M).trans (x_ocs _ _ (.int 20) 137 115 L st M)
theorem f137_115 (S : pm_S) (d : Nat) (L : List Value) (x y : Int32) (r : List Value) (M : pm_M) : fr S (d) (137, 115, L, .int y :: .int x :: r) M = if y = 0 then none else fr S d (137, 116, L, .int (x / y) :: r) M := (fr_eq S (d) (137, 115, L, .int y :: .int x :: r) M).trans (x_oir _ _ 137 116 L r x y M true)
theorem f137_116 (S : pm_S) (d : Nat) (L : List Value) (v : Value) (M : pm_M) : fr S (d) (137, 116, L, [v]) M = if pm_fit 0 v = true then some (.inl (some v), M) else none := (fr_eq S (d) (137, 116, L, [v]) M).trans (x_ort _ _ 0 v M)
theorem f137_117 (S : pm_S) (d : Nat) (L : List Value) (st : List Value) (M : pm_M) : fr S (d) (137, 117, L, st) M = if pm_ty (L.getD 3 pm_U) = 0 then fr S d (137, 118, L, L.getD 3 pm_U :: st) M else none := (fr_eq S (d) (137, 117, L, st) M).trans (x_old _ _ 0 3 137 118 L st M)
theorem f137_118 (S : pm_S) (d : Nat) (L : List Value) (x : Int32) (r : List Value) (M : pm_M) : fr S (d) (137, 118, L, .int x :: r) M = if 0 ≤ x then fr S d (137, 125, L, r) M else fr S d (137, 121, L, r) M := (fr_eq S (d) (137, 118, L, .int x :: r) M).trans (x_oc1ge _ _ 137 121 125 L r x M)
theorem f137_121 (S : pm_S) (d : Nat) (L : List Value) (st : List Value) (M : pm_M) : fr S (d) (137, 121, L, st) M = fr S d (137, 122, L, .int (-1) :: st) M := (fr_eq S (d) (137, 121, L, st) M).trans (x_ocs _ _ (.int (-1)) 137 122 L st M)
theorem f137_122 (S : pm_S) (d : Nat) (L : List Value) (st : List Value) (M : pm_M) : fr S (d) (137, 122, L, st) M = fr S d (137, 130, L, st) M := (fr_eq S (d) (137, 122, L, st) M).trans (x_ogo _ _ 137 130 L st M)
theorem f137_125 (S : pm_S) (d : Nat) (L : List Value) (st : List Value) (M : pm_M) : fr S (d) (137, 125, L, st) M = if pm_ty (L.getD 3 pm_U) = 0 then fr S d (137, 126, L, L.getD 3 pm_U :: st) M else none := (fr_eq S (d) (137, 125, L, st) M).trans (x_old _ _ 0 3 137 126 L st M)
theorem f137_126 (S : pm_S) (d : Nat) (L : List Value) (st : List Value) (M : pm_M) : fr S (d) (137, 126, L, st) M = fr S d (137, 127, L, .int 5 :: st) M := (fr_eq S (d) (137, 126, L, st) M).trans (x_ocs _ _ (.int 5) 137 127 L st M)
theorem f137_127 (S : pm_S) (d : Nat) (L : List Value) (x y : Int32) (r : List Value) (M : pm_M) : fr S (d) (137, 127, L, .int y :: .int x :: r) M = if y = 0 then none else fr S d (137, 128, L, .int (x / y) :: r) M := (fr_eq S (d) (137, 127, L, .int y :: .int x :: r) M).trans (x_oir _ _ 137 128 L r x y M true)
theorem f137_128 (S : pm_S) (d : Nat) (L : List Value) (st : List Value) (M : pm_M) : fr S (d) (137, 128, L, st) M = fr S d (137, 129, L, .int 4 :: st) M := (fr_eq S (d) (137, 128, L, st) M).trans (x_ocs _ _ (.int 4) 137 129 L st M)
theorem f137_129 (S : pm_S) (d : Nat) (L : List Value) (x y : Int32) (r : List Value) (M : pm_M) : fr S (d) (137, 129, L, .int y :: .int x :: r) M = if y = 0 then none else fr S d (137, 130, L, .int (x - x / y * y) :: r) M := (fr_eq S (d) (137, 129, L, .int y :: .int x :: r) M).trans (x_oir _ _ 137 130 L r x y M false)
theorem f137_130 (S : pm_S) (d : Nat) (L : List Value) (v : Value) (M : pm_M) : fr S (d) (137, 130, L, [v]) M = if pm_fit 0 v = true then some (.inl (some v), M) else none := (fr_eq S (d) (137, 130, L, [v]) M).trans (x_ort _ _ 0 v M)
theorem f137_131 (S : pm_S) (d : Nat) (L : List Value) (st : List Value) (M : pm_M) : fr S (d) (137, 131, L, st) M = if pm_ty (L.getD 3 pm_U) = 0 then fr S d (137, 132, L, L.getD 3 pm_U :: st) M else none := (fr_eq S (d) (137, 131, L, st) M).trans (x_old _ _ 0 3 137 132 L st M)
theorem f137_132 (S : pm_S) (d : Nat) (L : List Value) (x : Int32) (r : List Value) (M : pm_M) : fr S (d) (137, 132, L, .int x :: r) M = if 0 ≤ x then fr S d (137, 139, L, r) M else fr S d (137, 135, L, r) M := (fr_eq S (d) (137, 132, L, .int x :: r) M).trans (x_oc1ge _ _ 137 135 139 L r x M)
theorem f137_135 (S : pm_S) (d : Nat) (L : List Value) (st : List Value) (M : pm_M) : fr S (d) (137, 135, L, st) M = fr S d (137, 136, L, .int (-1) :: st) M := (fr_eq S (d) (137, 135, L, st) M).trans (x_ocs _ _ (.int (-1)) 137 136 L st M)
theorem f137_136 (S : pm_S) (d : Nat) (L : List Value) (st : List Value) (M : pm_M) : fr S (d) (137, 136, L, st) M = fr S d (137, 142, L, st) M := (fr_eq S (d) (137, 136, L, st) M).trans (x_ogo _ _ 137 142 L st M)
theorem f137_139 (S : pm_S) (d : Nat) (L : List Value) (st : List Value) (M : pm_M) : fr S (d) (137, 139, L, st) M = if pm_ty (L.getD 3 pm_U) = 0 then fr S d (137, 140, L, L.getD 3 pm_U :: st) M else none := (fr_eq S (d) (137, 139, L, st) M).trans (x_old _ _ 0 3 137 140 L st M)
theorem f137_140 (S : pm_S) (d : Nat) (L : List Value) (st : List Value) (M : pm_M) : fr S (d) (137, 140, L, st) M = fr S d (137, 141, L, .int 5 :: st) M := (fr_eq S (d) (137, 140, L, st) M).trans (x_ocs _ _ (.int 5) 137 141 L st M)
theorem f137_141 (S : pm_S) (d : Nat) (L : List Value) (x y : Int32) (r : List Value) (M : pm_M) : fr S (d) (137, 141, L, .int y :: .int x :: r) M = if y = 0 then none else fr S d (137, 142, L, .int (x - x / y * y) :: r) M := (fr_eq S (d) (137, 141, L, .int y :: .int x :: r) M).trans (x_oir _ _ 137 142 L r x y M false)
theorem f137_142 (S : pm_S) (d : Nat) (L : List Value) (v : Value) (M : pm_M) : fr S (d) (137, 142, L, [v]) M = if pm_fit 0 v = true then some (.inl (some v), M) else none := (fr_eq S (d) (137, 142, L, [v]) M).trans (x_ort _ _ 0 v M)
theorem f138_0 (S : pm_S) (d : Nat) (L : List Value) (st : List Value) (M : pm_M) : fr S (d) (138, 0, L, st) M = fr S d (138, 1, L, .int 0 :: st) M := (fr_eq S (d) (138, 0, L, st) M).trans (x_ocs _ _ (.int 0) 138 1 L st M)
theorem f138_1 (S : pm_S) (d : Nat) (L : List Value) (v : Value) (r : List Value) (M : pm_M) : fr S (d) (138, 1, L, v :: r) M = if pm_ty v = 0 ∧ 2 < L.length ∧ ¬ pm_ty (L.getD (2 - 1) pm_U) = 1 then fr S d (138, 2, L.set 2 v, r) M else none := (fr_eq S (d) (138, 1, L, v :: r) M).trans (x_ost _ _ 0 2 138 2 L r v M)
theorem f138_2 (S : pm_S) (d : Nat) (L : List Value) (st : List Value) (M : pm_M) : fr S (d) (138, 2, L, st) M = fr S d (138, 3, L, .int 0 :: st) M := (fr_eq S (d) (138, 2, L, st) M).trans (x_ocs _ _ (.int 0) 138 3 L st M)
theorem f138_3 (S : pm_S) (d : Nat) (L : List Value) (v : Value) (r : List Value) (M : pm_M) : fr S (d) (138, 3, L, v :: r) M = if pm_ty v = 0 ∧ 3 < L.length ∧ ¬ pm_ty (L.getD (3 - 1) pm_U) = 1 then fr S d (138, 4, L.set 3 v, r) M else none := (fr_eq S (d) (138, 3, L, v :: r) M).trans (x_ost _ _ 0 3 138 4 L r v M)
theorem f138_4 (S : pm_S) (d : Nat) (L : List Value) (st : List Value) (M : pm_M) : fr S (d) (138, 4, L, st) M = if pm_ty (L.getD 3 pm_U) = 0 then fr S d (138, 5, L, L.getD 3 pm_U :: st) M else none := (fr_eq S (d) (138, 4, L, st) M).trans (x_old _ _ 0 3 138 5 L st M)
theorem f138_5 (S : pm_S) (d : Nat) (L : List Value) (st : List Value) (M : pm_M) : fr S (d) (138, 5, L, st) M = if pm_ty (L.getD 0 pm_U) = 2 then fr S d (138, 6, L, L.getD 0 pm_U :: st) M else none := (fr_eq S (d) (138, 5, L, st) M).trans (x_old _ _ 2 0 138 6 L st M)
theorem f138_6 (S : pm_S) (d : Nat) (L : List Value) (q : Nat) (r : List Value) (M : pm_M) : fr S (d) (138, 6, L, .ref q :: r) M = match pm_get M q with
  | some (.inr (c, fs)) => if c = 3 ∧ 4 < fs.length then fr S d (138, 9, L, fs.getD 4 pm_U :: r) M else none
  | _ => none := (fr_eq S (d) (138, 6, L, .ref q :: r) M).trans (x_ogf _ _ 3 4 138 9 L r q M)
theorem f138_9 (S : pm_S) (d : Nat) (L : List Value) (x y : Int32) (r : List Value) (M : pm_M) : fr S (d) (138, 9, L, .int y :: .int x :: r) M = if y ≤ x then fr S d (138, 92, L, r) M else fr S d (138, 12, L, r) M := (fr_eq S (d) (138, 9, L, .int y :: .int x :: r) M).trans (x_oc2ge _ _ 138 12 92 L r x y M)
theorem f138_12 (S : pm_S) (d : Nat) (L : List Value) (st : List Value) (M : pm_M) : fr S (d) (138, 12, L, st) M = if pm_ty (L.getD 0 pm_U) = 2 then fr S d (138, 13, L, L.getD 0 pm_U :: st) M else none := (fr_eq S (d) (138, 12, L, st) M).trans (x_old _ _ 2 0 138 13 L st M)
theorem f138_13 (S : pm_S) (d : Nat) (L : List Value) (q : Nat) (r : List Value) (M : pm_M) : fr S (d) (138, 13, L, .ref q :: r) M = match pm_get M q with
  | some (.inr (c, fs)) => if c = 3 ∧ 9 < fs.length then fr S d (138, 16, L, fs.getD 9 pm_U :: r) M else none
  | _ => none := (fr_eq S (d) (138, 13, L, .ref q :: r) M).trans (x_ogf _ _ 3 9 138 16 L r q M)
theorem f138_16 (S : pm_S) (d : Nat) (L : List Value) (st : List Value) (M : pm_M) : fr S (d) (138, 16, L, st) M = if pm_ty (L.getD 3 pm_U) = 0 then fr S d (138, 17, L, L.getD 3 pm_U :: st) M else none := (fr_eq S (d) (138, 16, L, st) M).trans (x_old _ _ 0 3 138 17 L st M)
theorem f138_17 (S : pm_S) (d : Nat) (L : List Value) (i : Int32) (q : Nat) (hq : ¬ q = 1) (r : List Value) (M : pm_M) : fr S (d) (138, 17, L, .int i :: .ref q :: r) M = match (pm_get M q).bind (fun c => pm_el 0 c i) with
  | some v => fr S d (138, 18, L, v :: r) M
  | none => none := (fr_eq S (d) (138, 17, L, .int i :: .ref q :: r) M).trans (x_oal _ _ S 0 138 18 L r i q hq M)
theorem f138_18 (S : pm_S) (d : Nat) (L : List Value) (st : List Value) (M : pm_M) : fr S (d) (138, 18, L, st) M = fr S d (138, 19, L, .int (-1) :: st) M := (fr_eq S (d) (138, 18, L, st) M).trans (x_ocs _ _ (.int (-1)) 138 19 L st M)
theorem f138_19 (S : pm_S) (d : Nat) (L : List Value) (x y : Int32) (r : List Value) (M : pm_M) : fr S (d) (138, 19, L, .int y :: .int x :: r) M = if x = y then fr S d (138, 65, L, r) M else fr S d (138, 22, L, r) M := (fr_eq S (d) (138, 19, L, .int y :: .int x :: r) M).trans (x_oc2eq _ _ 138 22 65 L r x y M)
theorem f138_22 (S : pm_S) (d : Nat) (L : List Value) (st : List Value) (M : pm_M) : fr S (d) (138, 22, L, st) M = if pm_ty (L.getD 0 pm_U) = 2 then fr S d (138, 23, L, L.getD 0 pm_U :: st) M else none := (fr_eq S (d) (138, 22, L, st) M).trans (x_old _ _ 2 0 138 23 L st M)
theorem f138_23 (S : pm_S) (d : Nat) (L : List Value) (q : Nat) (r : List Value) (M : pm_M) : fr S (d) (138, 23, L, .ref q :: r) M = match pm_get M q with
  | some (.inr (c, fs)) => if c = 3 ∧ 9 < fs.length then fr S d (138, 26, L, fs.getD 9 pm_U :: r) M else none
  | _ => none := (fr_eq S (d) (138, 23, L, .ref q :: r) M).trans (x_ogf _ _ 3 9 138 26 L r q M)
theorem f138_26 (S : pm_S) (d : Nat) (L : List Value) (st : List Value) (M : pm_M) : fr S (d) (138, 26, L, st) M = if pm_ty (L.getD 3 pm_U) = 0 then fr S d (138, 27, L, L.getD 3 pm_U :: st) M else none := (fr_eq S (d) (138, 26, L, st) M).trans (x_old _ _ 0 3 138 27 L st M)
theorem f138_27 (S : pm_S) (d : Nat) (L : List Value) (i : Int32) (q : Nat) (hq : ¬ q = 1) (r : List Value) (M : pm_M) : fr S (d) (138, 27, L, .int i :: .ref q :: r) M = match (pm_get M q).bind (fun c => pm_el 0 c i) with
  | some v => fr S d (138, 28, L, v :: r) M
  | none => none := (fr_eq S (d) (138, 27, L, .int i :: .ref q :: r) M).trans (x_oal _ _ S 0 138 28 L r i q hq M)
theorem f138_28 (S : pm_S) (d : Nat) (L : List Value) (st : List Value) (M : pm_M) : fr S (d) (138, 28, L, st) M = fr S d (138, 30, L, .int 20 :: st) M := (fr_eq S (d) (138, 28, L, st) M).trans (x_ocs _ _ (.int 20) 138 30 L st M)
theorem f138_30 (S : pm_S) (d : Nat) (L : List Value) (x y : Int32) (r : List Value) (M : pm_M) : fr S (d) (138, 30, L, .int y :: .int x :: r) M = if y = 0 then none else fr S d (138, 31, L, .int (x / y) :: r) M := (fr_eq S (d) (138, 30, L, .int y :: .int x :: r) M).trans (x_oir _ _ 138 31 L r x y M true)
theorem f138_31 (S : pm_S) (d : Nat) (L : List Value) (st : List Value) (M : pm_M) : fr S (d) (138, 31, L, st) M = if pm_ty (L.getD 1 pm_U) = 0 then fr S d (138, 32, L, L.getD 1 pm_U :: st) M else none := (fr_eq S (d) (138, 31, L, st) M).trans (x_old _ _ 0 1 138 32 L st M)
theorem f138_32 (S : pm_S) (d : Nat) (L : List Value) (x y : Int32) (r : List Value) (M : pm_M) : fr S (d) (138, 32, L, .int y :: .int x :: r) M = if x = y then fr S d (138, 61, L, r) M else fr S d (138, 35, L, r) M := (fr_eq S (d) (138, 32, L, .int y :: .int x :: r) M).trans (x_oc2eq _ _ 138 35 61 L r x y M)
theorem f138_35 (S : pm_S) (d : Nat) (L : List Value) (st : List Value) (M : pm_M) : fr S (d) (138, 35, L, st) M = if pm_ty (L.getD 0 pm_U) = 2 then fr S d (138, 36, L, L.getD 0 pm_U :: st) M else none := (fr_eq S (d) (138, 35, L, st) M).trans (x_old _ _ 2 0 138 36 L st M)
theorem f138_36 (S : pm_S) (d : Nat) (L : List Value) (q : Nat) (r : List Value) (M : pm_M) : fr S (d) (138, 36, L, .ref q :: r) M = match pm_get M q with
  | some (.inr (c, fs)) => if c = 3 ∧ 5 < fs.length then fr S d (138, 39, L, fs.getD 5 pm_U :: r) M else none
  | _ => none := (fr_eq S (d) (138, 36, L, .ref q :: r) M).trans (x_ogf _ _ 3 5 138 39 L r q M)
theorem f138_39 (S : pm_S) (d : Nat) (L : List Value) (st : List Value) (M : pm_M) : fr S (d) (138, 39, L, st) M = if pm_ty (L.getD 3 pm_U) = 0 then fr S d (138, 40, L, L.getD 3 pm_U :: st) M else none := (fr_eq S (d) (138, 39, L, st) M).trans (x_old _ _ 0 3 138 40 L st M)
theorem f138_40 (S : pm_S) (d : Nat) (L : List Value) (i : Int32) (q : Nat) (hq : ¬ q = 1) (r : List Value) (M : pm_M) : fr S (d) (138, 40, L, .int i :: .ref q :: r) M = match (pm_get M q).bind (fun c => pm_el 0 c i) with
  | some v => fr S d (138, 41, L, v :: r) M
  | none => none := (fr_eq S (d) (138, 40, L, .int i :: .ref q :: r) M).trans (x_oal _ _ S 0 138 41 L r i q hq M)
theorem f138_41 (S : pm_S) (d : Nat) (L : List Value) (st : List Value) (M : pm_M) : fr S (d) (138, 41, L, st) M = fr S d (138, 43, L, .int 40 :: st) M := (fr_eq S (d) (138, 41, L, st) M).trans (x_ocs _ _ (.int 40) 138 43 L st M)
theorem f138_43 (S : pm_S) (d : Nat) (L : List Value) (x y : Int32) (r : List Value) (M : pm_M) : fr S (d) (138, 43, L, .int y :: .int x :: r) M = if ¬ x = y then fr S d (138, 65, L, r) M else fr S d (138, 46, L, r) M := (fr_eq S (d) (138, 43, L, .int y :: .int x :: r) M).trans (x_oc2ne _ _ 138 46 65 L r x y M)
theorem f138_46 (S : pm_S) (d : Nat) (L : List Value) (st : List Value) (M : pm_M) : fr S (d) (138, 46, L, st) M = if pm_ty (L.getD 0 pm_U) = 2 then fr S d (138, 47, L, L.getD 0 pm_U :: st) M else none := (fr_eq S (d) (138, 46, L, st) M).trans (x_old _ _ 2 0 138 47 L st M)
theorem f138_47 (S : pm_S) (d : Nat) (L : List Value) (q : Nat) (r : List Value) (M : pm_M) : fr S (d) (138, 47, L, .ref q :: r) M = match pm_get M q with
  | some (.inr (c, fs)) => if c = 3 ∧ 9 < fs.length then fr S d (138, 50, L, fs.getD 9 pm_U :: r) M else none
  | _ => none := (fr_eq S (d) (138, 47, L, .ref q :: r) M).trans (x_ogf _ _ 3 9 138 50 L r q M)
theorem f138_50 (S : pm_S) (d : Nat) (L : List Value) (st : List Value) (M : pm_M) : fr S (d) (138, 50, L, st) M = if pm_ty (L.getD 3 pm_U) = 0 then fr S d (138, 51, L, L.getD 3 pm_U :: st) M else none := (fr_eq S (d) (138, 50, L, st) M).trans (x_old _ _ 0 3 138 51 L st M)
theorem f138_51 (S : pm_S) (d : Nat) (L : List Value) (i : Int32) (q : Nat) (hq : ¬ q = 1) (r : List Value) (M : pm_M) : fr S (d) (138, 51, L, .int i :: .ref q :: r) M = match (pm_get M q).bind (fun c => pm_el 0 c i) with
  | some v => fr S d (138, 52, L, v :: r) M
  | none => none := (fr_eq S (d) (138, 51, L, .int i :: .ref q :: r) M).trans (x_oal _ _ S 0 138 52 L r i q hq M)
theorem f138_52 (S : pm_S) (d : Nat) (L : List Value) (st : List Value) (M : pm_M) : fr S (d) (138, 52, L, st) M = fr S d (138, 54, L, .int 20 :: st) M := (fr_eq S (d) (138, 52, L, st) M).trans (x_ocs _ _ (.int 20) 138 54 L st M)
theorem f138_54 (S : pm_S) (d : Nat) (L : List Value) (x y : Int32) (r : List Value) (M : pm_M) : fr S (d) (138, 54, L, .int y :: .int x :: r) M = if y = 0 then none else fr S d (138, 55, L, .int (x / y) :: r) M := (fr_eq S (d) (138, 54, L, .int y :: .int x :: r) M).trans (x_oir _ _ 138 55 L r x y M true)
theorem f138_55 (S : pm_S) (d : Nat) (L : List Value) (st : List Value) (M : pm_M) : fr S (d) (138, 55, L, st) M = fr S d (138, 56, L, .int 1 :: st) M := (fr_eq S (d) (138, 55, L, st) M).trans (x_ocs _ _ (.int 1) 138 56 L st M)
theorem f138_56 (S : pm_S) (d : Nat) (L : List Value) (x y : Int32) (r : List Value) (M : pm_M) : fr S (d) (138, 56, L, .int y :: .int x :: r) M = fr S d (138, 57, L, .int (x + y) :: r) M := (fr_eq S (d) (138, 56, L, .int y :: .int x :: r) M).trans (x_oii _ _ (fun x y => x + y) 138 57 L r x y M)
theorem f138_57 (S : pm_S) (d : Nat) (L : List Value) (st : List Value) (M : pm_M) : fr S (d) (138, 57, L, st) M = if pm_ty (L.getD 1 pm_U) = 0 then fr S d (138, 58, L, L.getD 1 pm_U :: st) M else none := (fr_eq S (d) (138, 57, L, st) M).trans (x_old _ _ 0 1 138 58 L st M)
theorem f138_58 (S : pm_S) (d : Nat) (L : List Value) (x y : Int32) (r : List Value) (M : pm_M) : fr S (d) (138, 58, L, .int y :: .int x :: r) M = if ¬ x = y then fr S d (138, 65, L, r) M else fr S d (138, 61, L, r) M := (fr_eq S (d) (138, 58, L, .int y :: .int x :: r) M).trans (x_oc2ne _ _ 138 61 65 L r x y M)
theorem f138_61 (S : pm_S) (d : Nat) (L : List Value) (st : List Value) (M : pm_M) : fr S (d) (138, 61, L, st) M = fr S d (138, 62, L, .int 1 :: st) M := (fr_eq S (d) (138, 61, L, st) M).trans (x_ocs _ _ (.int 1) 138 62 L st M)
theorem f138_62 (S : pm_S) (d : Nat) (L : List Value) (st : List Value) (M : pm_M) : fr S (d) (138, 62, L, st) M = fr S d (138, 66, L, st) M := (fr_eq S (d) (138, 62, L, st) M).trans (x_ogo _ _ 138 66 L st M)
theorem f138_65 (S : pm_S) (d : Nat) (L : List Value) (st : List Value) (M : pm_M) : fr S (d) (138, 65, L, st) M = fr S d (138, 66, L, .int 0 :: st) M := (fr_eq S (d) (138, 65, L, st) M).trans (x_ocs _ _ (.int 0) 138 66 L st M)
theorem f138_66 (S : pm_S) (d : Nat) (L : List Value) (v : Value) (r : List Value) (M : pm_M) : fr S (d) (138, 66, L, v :: r) M = if pm_ty v = 0 ∧ 4 < L.length ∧ ¬ pm_ty (L.getD (4 - 1) pm_U) = 1 then fr S d (138, 68, L.set 4 v, r) M else none := (fr_eq S (d) (138, 66, L, v :: r) M).trans (x_ost _ _ 0 4 138 68 L r v M)
theorem f138_68 (S : pm_S) (d : Nat) (L : List Value) (st : List Value) (M : pm_M) : fr S (d) (138, 68, L, st) M = if pm_ty (L.getD 2 pm_U) = 0 then fr S d (138, 69, L, L.getD 2 pm_U :: st) M else none := (fr_eq S (d) (138, 68, L, st) M).trans (x_old _ _ 0 2 138 69 L st M)
theorem f138_69 (S : pm_S) (d : Nat) (L : List Value) (st : List Value) (M : pm_M) : fr S (d) (138, 69, L, st) M = if pm_ty (L.getD 4 pm_U) = 0 then fr S d (138, 71, L, L.getD 4 pm_U :: st) M else none := (fr_eq S (d) (138, 69, L, st) M).trans (x_old _ _ 0 4 138 71 L st M)
theorem f138_71 (S : pm_S) (d : Nat) (L : List Value) (x : Int32) (r : List Value) (M : pm_M) : fr S (d) (138, 71, L, .int x :: r) M = if x = 0 then fr S d (138, 83, L, r) M else fr S d (138, 74, L, r) M := (fr_eq S (d) (138, 71, L, .int x :: r) M).trans (x_oc1eq _ _ 138 74 83 L r x M)
theorem f138_74 (S : pm_S) (d : Nat) (L : List Value) (st : List Value) (M : pm_M) : fr S (d) (138, 74, L, st) M = if pm_ty (L.getD 0 pm_U) = 2 then fr S d (138, 75, L, L.getD 0 pm_U :: st) M else none := (fr_eq S (d) (138, 74, L, st) M).trans (x_old _ _ 2 0 138 75 L st M)
theorem f138_75 (S : pm_S) (d : Nat) (L : List Value) (q : Nat) (r : List Value) (M : pm_M) : fr S (d) (138, 75, L, .ref q :: r) M = match pm_get M q with
  | some (.inr (c, fs)) => if c = 3 ∧ 6 < fs.length then fr S d (138, 78, L, fs.getD 6 pm_U :: r) M else none
  | _ => none := (fr_eq S (d) (138, 75, L, .ref q :: r) M).trans (x_ogf _ _ 3 6 138 78 L r q M)
theorem f138_78 (S : pm_S) (d : Nat) (L : List Value) (st : List Value) (M : pm_M) : fr S (d) (138, 78, L, st) M = if pm_ty (L.getD 3 pm_U) = 0 then fr S d (138, 79, L, L.getD 3 pm_U :: st) M else none := (fr_eq S (d) (138, 78, L, st) M).trans (x_old _ _ 0 3 138 79 L st M)
theorem f138_79 (S : pm_S) (d : Nat) (L : List Value) (i : Int32) (q : Nat) (hq : ¬ q = 1) (r : List Value) (M : pm_M) : fr S (d) (138, 79, L, .int i :: .ref q :: r) M = match (pm_get M q).bind (fun c => pm_el 0 c i) with
  | some v => fr S d (138, 80, L, v :: r) M
  | none => none := (fr_eq S (d) (138, 79, L, .int i :: .ref q :: r) M).trans (x_oal _ _ S 0 138 80 L r i q hq M)
theorem f138_80 (S : pm_S) (d : Nat) (L : List Value) (st : List Value) (M : pm_M) : fr S (d) (138, 80, L, st) M = fr S d (138, 84, L, st) M := (fr_eq S (d) (138, 80, L, st) M).trans (x_ogo _ _ 138 84 L st M)
theorem f138_83 (S : pm_S) (d : Nat) (L : List Value) (st : List Value) (M : pm_M) : fr S (d) (138, 83, L, st) M = fr S d (138, 84, L, .int 0 :: st) M := (fr_eq S (d) (138, 83, L, st) M).trans (x_ocs _ _ (.int 0) 138 84 L st M)
theorem f138_84 (S : pm_S) (d : Nat) (L : List Value) (x y : Int32) (r : List Value) (M : pm_M) : fr S (d) (138, 84, L, .int y :: .int x :: r) M = fr S d (138, 85, L, .int (x + y) :: r) M := (fr_eq S (d) (138, 84, L, .int y :: .int x :: r) M).trans (x_oii _ _ (fun x y => x + y) 138 85 L r x y M)
theorem f138_85 (S : pm_S) (d : Nat) (L : List Value) (v : Value) (r : List Value) (M : pm_M) : fr S (d) (138, 85, L, v :: r) M = if pm_ty v = 0 ∧ 2 < L.length ∧ ¬ pm_ty (L.getD (2 - 1) pm_U) = 1 then fr S d (138, 86, L.set 2 v, r) M else none := (fr_eq S (d) (138, 85, L, v :: r) M).trans (x_ost _ _ 0 2 138 86 L r v M)
theorem f138_86 (S : pm_S) (d : Nat) (L : List Value) (st : List Value) (M : pm_M) : fr S (d) (138, 86, L, st) M = match L.getD 3 pm_U with
  | .int x => if 3 < L.length ∧ ¬ pm_ty (L.getD (3 - 1) pm_U) = 1 then fr S d (138, 89, L.set 3 (.int (x + 1)), st) M else none
  | _ => none := (fr_eq S (d) (138, 86, L, st) M).trans (x_oinc _ _ 3 1 138 89 L st M)
theorem f138_89 (S : pm_S) (d : Nat) (L : List Value) (st : List Value) (M : pm_M) : fr S (d) (138, 89, L, st) M = fr S d (138, 4, L, st) M := (fr_eq S (d) (138, 89, L, st) M).trans (x_ogo _ _ 138 4 L st M)
theorem f138_92 (S : pm_S) (d : Nat) (L : List Value) (st : List Value) (M : pm_M) : fr S (d) (138, 92, L, st) M = if pm_ty (L.getD 2 pm_U) = 0 then fr S d (138, 93, L, L.getD 2 pm_U :: st) M else none := (fr_eq S (d) (138, 92, L, st) M).trans (x_old _ _ 0 2 138 93 L st M)
theorem f138_93 (S : pm_S) (d : Nat) (L : List Value) (v : Value) (M : pm_M) : fr S (d) (138, 93, L, [v]) M = if pm_fit 0 v = true then some (.inl (some v), M) else none := (fr_eq S (d) (138, 93, L, [v]) M).trans (x_ort _ _ 0 v M)
theorem f139_0 (S : pm_S) (d : Nat) (L : List Value) (st : List Value) (M : pm_M) : fr S (d) (139, 0, L, st) M = if pm_ty (L.getD 0 pm_U) = 2 then fr S d (139, 1, L, L.getD 0 pm_U :: st) M else none := (fr_eq S (d) (139, 0, L, st) M).trans (x_old _ _ 2 0 139 1 L st M)
theorem f139_1 (S : pm_S) (d : Nat) (L : List Value) (st : List Value) (M : pm_M) : fr S (d) (139, 1, L, st) M = fr S d (139, 2, L, .int 0 :: st) M := (fr_eq S (d) (139, 1, L, st) M).trans (x_ocs _ _ (.int 0) 139 2 L st M)
theorem f139_2 (S : pm_S) (d : Nat) (L : List Value) (v : Value) (q : Nat) (r : List Value) (M : pm_M) : fr S (d) (139, 2, L, v :: .ref q :: r) M = match pm_get M q with
  | some (.inr (c, fs)) => if c = 3 ∧ 0 < fs.length ∧ pm_fit 0 v = true then fr S d (139, 5, L, r) (pm_set M q (.inr (c, fs.set 0 v))) else none
  | _ => none := (fr_eq S (d) (139, 2, L, v :: .ref q :: r) M).trans (x_opf _ _ 3 0 0 139 5 L r q v M)
theorem f139_5 (S : pm_S) (d : Nat) (L : List Value) (st : List Value) (M : pm_M) : fr S (d) (139, 5, L, st) M = if pm_ty (L.getD 1 pm_U) = 0 then fr S d (139, 6, L, L.getD 1 pm_U :: st) M else none := (fr_eq S (d) (139, 5, L, st) M).trans (x_old _ _ 0 1 139 6 L st M)
theorem f139_6 (S : pm_S) (d : Nat) (L : List Value) (st : List Value) (M : pm_M) : fr S (d) (139, 6, L, st) M = fr S d (139, 8, L, .int 10 :: st) M := (fr_eq S (d) (139, 6, L, st) M).trans (x_ocs _ _ (.int 10) 139 8 L st M)
theorem f139_8 (S : pm_S) (d : Nat) (L : List Value) (x y : Int32) (r : List Value) (M : pm_M) : fr S (d) (139, 8, L, .int y :: .int x :: r) M = if x < y then fr S d (139, 35, L, r) M else fr S d (139, 11, L, r) M := (fr_eq S (d) (139, 8, L, .int y :: .int x :: r) M).trans (x_oc2lt _ _ 139 11 35 L r x y M)
theorem f139_11 (S : pm_S) (d : Nat) (L : List Value) (st : List Value) (M : pm_M) : fr S (d) (139, 11, L, st) M = if pm_ty (L.getD 0 pm_U) = 2 then fr S d (139, 12, L, L.getD 0 pm_U :: st) M else none := (fr_eq S (d) (139, 11, L, st) M).trans (x_old _ _ 2 0 139 12 L st M)
theorem f139_12 (S : pm_S) (d : Nat) (L : List Value) (st : List Value) (M : pm_M) : fr S (d) (139, 12, L, st) M = if pm_ty (L.getD 1 pm_U) = 0 then fr S d (139, 13, L, L.getD 1 pm_U :: st) M else none := (fr_eq S (d) (139, 12, L, st) M).trans (x_old _ _ 0 1 139 13 L st M)
theorem f139_13 (S : pm_S) (d : Nat) (L : List Value) (st : List Value) (M : pm_M) : fr S (d) (139, 13, L, st) M = fr S d (139, 15, L, .int 10 :: st) M := (fr_eq S (d) (139, 13, L, st) M).trans (x_ocs _ _ (.int 10) 139 15 L st M)
theorem f139_15 (S : pm_S) (d : Nat) (L : List Value) (x y : Int32) (r : List Value) (M : pm_M) : fr S (d) (139, 15, L, .int y :: .int x :: r) M = fr S d (139, 16, L, .int (x - y) :: r) M := (fr_eq S (d) (139, 15, L, .int y :: .int x :: r) M).trans (x_oii _ _ (fun x y => x - y) 139 16 L r x y M)
theorem f139_16 (S : pm_S) (d : Nat) (L : List Value) (st : List Value) (M : pm_M) : fr S (d + 1) (139, 16, L, st) M = match pm_ag 2 [] st with
  | some (a, r) => if r.length ≤ 4 ∧ (1 = 0 ∨ pm_obj M 3 (a.headD pm_U) = true) then (match fr S d (106, 0, a ++ [], []) M with
    | none => none
    | some (.inl v, M') => fr S (d + 1) (139, 19, L, v.toList ++ r) M'
    | some (.inr E, M') => some (.inr E, M')) else none
  | none => none := (fr_eq S (d + 1) (139, 16, L, st) M).trans (x_ocl _ _ 1 106 2 3 [] 139 19 L st M)
theorem f139_19 (S : pm_S) (d : Nat) (L : List Value) (x : Int32) (r : List Value) (M : pm_M) : fr S (d) (139, 19, L, .int x :: r) M = if x = 0 then fr S d (139, 33, L, r) M else fr S d (139, 22, L, r) M := (fr_eq S (d) (139, 19, L, .int x :: r) M).trans (x_oc1eq _ _ 139 22 33 L r x M)
theorem f139_22 (S : pm_S) (d : Nat) (L : List Value) (st : List Value) (M : pm_M) : fr S (d) (139, 22, L, st) M = if pm_ty (L.getD 0 pm_U) = 2 then fr S d (139, 23, L, L.getD 0 pm_U :: st) M else none := (fr_eq S (d) (139, 22, L, st) M).trans (x_old _ _ 2 0 139 23 L st M)
theorem f139_23 (S : pm_S) (d : Nat) (L : List Value) (st : List Value) (M : pm_M) : fr S (d) (139, 23, L, st) M = if pm_ty (L.getD 1 pm_U) = 0 then fr S d (139, 24, L, L.getD 1 pm_U :: st) M else none := (fr_eq S (d) (139, 23, L, st) M).trans (x_old _ _ 0 1 139 24 L st M)
theorem f139_24 (S : pm_S) (d : Nat) (L : List Value) (st : List Value) (M : pm_M) : fr S (d) (139, 24, L, st) M = fr S d (139, 26, L, .int 10 :: st) M := (fr_eq S (d) (139, 24, L, st) M).trans (x_ocs _ _ (.int 10) 139 26 L st M)
theorem f139_26 (S : pm_S) (d : Nat) (L : List Value) (x y : Int32) (r : List Value) (M : pm_M) : fr S (d) (139, 26, L, .int y :: .int x :: r) M = fr S d (139, 27, L, .int (x - y) :: r) M := (fr_eq S (d) (139, 26, L, .int y :: .int x :: r) M).trans (x_oii _ _ (fun x y => x - y) 139 27 L r x y M)
theorem f139_27 (S : pm_S) (d : Nat) (L : List Value) (st : List Value) (M : pm_M) : fr S (d + 1) (139, 27, L, st) M = match pm_ag 2 [] st with
  | some (a, r) => if r.length ≤ 4 ∧ (1 = 0 ∨ pm_obj M 3 (a.headD pm_U) = true) then (match fr S d (138, 0, a ++ [pm_U, pm_U, pm_U], []) M with
    | none => none
    | some (.inl v, M') => fr S (d + 1) (139, 30, L, v.toList ++ r) M'
    | some (.inr E, M') => some (.inr E, M')) else none
  | none => none := (fr_eq S (d + 1) (139, 27, L, st) M).trans (x_ocl _ _ 1 138 2 3 [pm_U, pm_U, pm_U] 139 30 L st M)
theorem f139_30 (S : pm_S) (d : Nat) (L : List Value) (st : List Value) (M : pm_M) : fr S (d) (139, 30, L, st) M = fr S d (139, 34, L, st) M := (fr_eq S (d) (139, 30, L, st) M).trans (x_ogo _ _ 139 34 L st M)
theorem f139_33 (S : pm_S) (d : Nat) (L : List Value) (st : List Value) (M : pm_M) : fr S (d) (139, 33, L, st) M = fr S d (139, 34, L, .int (-1) :: st) M := (fr_eq S (d) (139, 33, L, st) M).trans (x_ocs _ _ (.int (-1)) 139 34 L st M)
theorem f139_34 (S : pm_S) (d : Nat) (L : List Value) (v : Value) (M : pm_M) : fr S (d) (139, 34, L, [v]) M = if pm_fit 0 v = true then some (.inl (some v), M) else none := (fr_eq S (d) (139, 34, L, [v]) M).trans (x_ort _ _ 0 v M)
theorem f139_35 (S : pm_S) (d : Nat) (L : List Value) (st : List Value) (M : pm_M) : fr S (d) (139, 35, L, st) M = fr S d (139, 36, L, .int 0 :: st) M := (fr_eq S (d) (139, 35, L, st) M).trans (x_ocs _ _ (.int 0) 139 36 L st M)
theorem f139_36 (S : pm_S) (d : Nat) (L : List Value) (v : Value) (r : List Value) (M : pm_M) : fr S (d) (139, 36, L, v :: r) M = if pm_ty v = 0 ∧ 2 < L.length ∧ ¬ pm_ty (L.getD (2 - 1) pm_U) = 1 then fr S d (139, 37, L.set 2 v, r) M else none := (fr_eq S (d) (139, 36, L, v :: r) M).trans (x_ost _ _ 0 2 139 37 L r v M)
theorem f139_37 (S : pm_S) (d : Nat) (L : List Value) (st : List Value) (M : pm_M) : fr S (d) (139, 37, L, st) M = fr S d (139, 38, L, .int 0 :: st) M := (fr_eq S (d) (139, 37, L, st) M).trans (x_ocs _ _ (.int 0) 139 38 L st M)
theorem f139_38 (S : pm_S) (d : Nat) (L : List Value) (v : Value) (r : List Value) (M : pm_M) : fr S (d) (139, 38, L, v :: r) M = if pm_ty v = 0 ∧ 3 < L.length ∧ ¬ pm_ty (L.getD (3 - 1) pm_U) = 1 then fr S d (139, 39, L.set 3 v, r) M else none := (fr_eq S (d) (139, 38, L, v :: r) M).trans (x_ost _ _ 0 3 139 39 L r v M)
theorem f139_39 (S : pm_S) (d : Nat) (L : List Value) (st : List Value) (M : pm_M) : fr S (d) (139, 39, L, st) M = fr S d (139, 40, L, .int 0 :: st) M := (fr_eq S (d) (139, 39, L, st) M).trans (x_ocs _ _ (.int 0) 139 40 L st M)
theorem f139_40 (S : pm_S) (d : Nat) (L : List Value) (v : Value) (r : List Value) (M : pm_M) : fr S (d) (139, 40, L, v :: r) M = if pm_ty v = 0 ∧ 4 < L.length ∧ ¬ pm_ty (L.getD (4 - 1) pm_U) = 1 then fr S d (139, 42, L.set 4 v, r) M else none := (fr_eq S (d) (139, 40, L, v :: r) M).trans (x_ost _ _ 0 4 139 42 L r v M)
theorem f139_42 (S : pm_S) (d : Nat) (L : List Value) (st : List Value) (M : pm_M) : fr S (d) (139, 42, L, st) M = if pm_ty (L.getD 4 pm_U) = 0 then fr S d (139, 44, L, L.getD 4 pm_U :: st) M else none := (fr_eq S (d) (139, 42, L, st) M).trans (x_old _ _ 0 4 139 44 L st M)
theorem f139_44 (S : pm_S) (d : Nat) (L : List Value) (st : List Value) (M : pm_M) : fr S (d) (139, 44, L, st) M = if pm_ty (L.getD 0 pm_U) = 2 then fr S d (139, 45, L, L.getD 0 pm_U :: st) M else none := (fr_eq S (d) (139, 44, L, st) M).trans (x_old _ _ 2 0 139 45 L st M)
theorem f139_45 (S : pm_S) (d : Nat) (L : List Value) (q : Nat) (r : List Value) (M : pm_M) : fr S (d) (139, 45, L, .ref q :: r) M = match pm_get M q with
  | some (.inr (c, fs)) => if c = 3 ∧ 4 < fs.length then fr S d (139, 48, L, fs.getD 4 pm_U :: r) M else none
  | _ => none := (fr_eq S (d) (139, 45, L, .ref q :: r) M).trans (x_ogf _ _ 3 4 139 48 L r q M)
theorem f139_48 (S : pm_S) (d : Nat) (L : List Value) (x y : Int32) (r : List Value) (M : pm_M) : fr S (d) (139, 48, L, .int y :: .int x :: r) M = if y ≤ x then fr S d (139, 101, L, r) M else fr S d (139, 51, L, r) M := (fr_eq S (d) (139, 48, L, .int y :: .int x :: r) M).trans (x_oc2ge _ _ 139 51 101 L r x y M)
theorem f139_51 (S : pm_S) (d : Nat) (L : List Value) (st : List Value) (M : pm_M) : fr S (d) (139, 51, L, st) M = if pm_ty (L.getD 2 pm_U) = 0 then fr S d (139, 52, L, L.getD 2 pm_U :: st) M else none := (fr_eq S (d) (139, 51, L, st) M).trans (x_old _ _ 0 2 139 52 L st M)
theorem f139_52 (S : pm_S) (d : Nat) (L : List Value) (st : List Value) (M : pm_M) : fr S (d) (139, 52, L, st) M = if pm_ty (L.getD 0 pm_U) = 2 then fr S d (139, 53, L, L.getD 0 pm_U :: st) M else none := (fr_eq S (d) (139, 52, L, st) M).trans (x_old _ _ 2 0 139 53 L st M)
theorem f139_53 (S : pm_S) (d : Nat) (L : List Value) (q : Nat) (r : List Value) (M : pm_M) : fr S (d) (139, 53, L, .ref q :: r) M = match pm_get M q with
  | some (.inr (c, fs)) => if c = 3 ∧ 9 < fs.length then fr S d (139, 56, L, fs.getD 9 pm_U :: r) M else none
  | _ => none := (fr_eq S (d) (139, 53, L, .ref q :: r) M).trans (x_ogf _ _ 3 9 139 56 L r q M)
theorem f139_56 (S : pm_S) (d : Nat) (L : List Value) (st : List Value) (M : pm_M) : fr S (d) (139, 56, L, st) M = if pm_ty (L.getD 4 pm_U) = 0 then fr S d (139, 58, L, L.getD 4 pm_U :: st) M else none := (fr_eq S (d) (139, 56, L, st) M).trans (x_old _ _ 0 4 139 58 L st M)
theorem f139_58 (S : pm_S) (d : Nat) (L : List Value) (i : Int32) (q : Nat) (hq : ¬ q = 1) (r : List Value) (M : pm_M) : fr S (d) (139, 58, L, .int i :: .ref q :: r) M = match (pm_get M q).bind (fun c => pm_el 0 c i) with
  | some v => fr S d (139, 59, L, v :: r) M
  | none => none := (fr_eq S (d) (139, 58, L, .int i :: .ref q :: r) M).trans (x_oal _ _ S 0 139 59 L r i q hq M)
theorem f139_59 (S : pm_S) (d : Nat) (L : List Value) (st : List Value) (M : pm_M) : fr S (d) (139, 59, L, st) M = fr S d (139, 60, L, .int (-1) :: st) M := (fr_eq S (d) (139, 59, L, st) M).trans (x_ocs _ _ (.int (-1)) 139 60 L st M)
theorem f139_60 (S : pm_S) (d : Nat) (L : List Value) (x y : Int32) (r : List Value) (M : pm_M) : fr S (d) (139, 60, L, .int y :: .int x :: r) M = if x = y then fr S d (139, 67, L, r) M else fr S d (139, 63, L, r) M := (fr_eq S (d) (139, 60, L, .int y :: .int x :: r) M).trans (x_oc2eq _ _ 139 63 67 L r x y M)
theorem f139_63 (S : pm_S) (d : Nat) (L : List Value) (st : List Value) (M : pm_M) : fr S (d) (139, 63, L, st) M = fr S d (139, 64, L, .int 1 :: st) M := (fr_eq S (d) (139, 63, L, st) M).trans (x_ocs _ _ (.int 1) 139 64 L st M)
theorem f139_64 (S : pm_S) (d : Nat) (L : List Value) (st : List Value) (M : pm_M) : fr S (d) (139, 64, L, st) M = fr S d (139, 68, L, st) M := (fr_eq S (d) (139, 64, L, st) M).trans (x_ogo _ _ 139 68 L st M)
theorem f139_67 (S : pm_S) (d : Nat) (L : List Value) (st : List Value) (M : pm_M) : fr S (d) (139, 67, L, st) M = fr S d (139, 68, L, .int 0 :: st) M := (fr_eq S (d) (139, 67, L, st) M).trans (x_ocs _ _ (.int 0) 139 68 L st M)
theorem f139_68 (S : pm_S) (d : Nat) (L : List Value) (x y : Int32) (r : List Value) (M : pm_M) : fr S (d) (139, 68, L, .int y :: .int x :: r) M = fr S d (139, 69, L, .int (x + y) :: r) M := (fr_eq S (d) (139, 68, L, .int y :: .int x :: r) M).trans (x_oii _ _ (fun x y => x + y) 139 69 L r x y M)
theorem f139_69 (S : pm_S) (d : Nat) (L : List Value) (v : Value) (r : List Value) (M : pm_M) : fr S (d) (139, 69, L, v :: r) M = if pm_ty v = 0 ∧ 2 < L.length ∧ ¬ pm_ty (L.getD (2 - 1) pm_U) = 1 then fr S d (139, 70, L.set 2 v, r) M else none := (fr_eq S (d) (139, 69, L, v :: r) M).trans (x_ost _ _ 0 2 139 70 L r v M)
theorem f139_70 (S : pm_S) (d : Nat) (L : List Value) (st : List Value) (M : pm_M) : fr S (d) (139, 70, L, st) M = if pm_ty (L.getD 3 pm_U) = 0 then fr S d (139, 71, L, L.getD 3 pm_U :: st) M else none := (fr_eq S (d) (139, 70, L, st) M).trans (x_old _ _ 0 3 139 71 L st M)
theorem f139_71 (S : pm_S) (d : Nat) (L : List Value) (st : List Value) (M : pm_M) : fr S (d) (139, 71, L, st) M = if pm_ty (L.getD 0 pm_U) = 2 then fr S d (139, 72, L, L.getD 0 pm_U :: st) M else none := (fr_eq S (d) (139, 71, L, st) M).trans (x_old _ _ 2 0 139 72 L st M)
theorem f139_72 (S : pm_S) (d : Nat) (L : List Value) (q : Nat) (r : List Value) (M : pm_M) : fr S (d) (139, 72, L, .ref q :: r) M = match pm_get M q with
  | some (.inr (c, fs)) => if c = 3 ∧ 9 < fs.length then fr S d (139, 75, L, fs.getD 9 pm_U :: r) M else none
  | _ => none := (fr_eq S (d) (139, 72, L, .ref q :: r) M).trans (x_ogf _ _ 3 9 139 75 L r q M)
theorem f139_75 (S : pm_S) (d : Nat) (L : List Value) (st : List Value) (M : pm_M) : fr S (d) (139, 75, L, st) M = if pm_ty (L.getD 4 pm_U) = 0 then fr S d (139, 77, L, L.getD 4 pm_U :: st) M else none := (fr_eq S (d) (139, 75, L, st) M).trans (x_old _ _ 0 4 139 77 L st M)
theorem f139_77 (S : pm_S) (d : Nat) (L : List Value) (i : Int32) (q : Nat) (hq : ¬ q = 1) (r : List Value) (M : pm_M) : fr S (d) (139, 77, L, .int i :: .ref q :: r) M = match (pm_get M q).bind (fun c => pm_el 0 c i) with
  | some v => fr S d (139, 78, L, v :: r) M
  | none => none := (fr_eq S (d) (139, 77, L, .int i :: .ref q :: r) M).trans (x_oal _ _ S 0 139 78 L r i q hq M)
theorem f139_78 (S : pm_S) (d : Nat) (L : List Value) (st : List Value) (M : pm_M) : fr S (d) (139, 78, L, st) M = fr S d (139, 79, L, .int (-1) :: st) M := (fr_eq S (d) (139, 78, L, st) M).trans (x_ocs _ _ (.int (-1)) 139 79 L st M)
theorem f139_79 (S : pm_S) (d : Nat) (L : List Value) (x y : Int32) (r : List Value) (M : pm_M) : fr S (d) (139, 79, L, .int y :: .int x :: r) M = if x = y then fr S d (139, 92, L, r) M else fr S d (139, 82, L, r) M := (fr_eq S (d) (139, 79, L, .int y :: .int x :: r) M).trans (x_oc2eq _ _ 139 82 92 L r x y M)
theorem f139_82 (S : pm_S) (d : Nat) (L : List Value) (st : List Value) (M : pm_M) : fr S (d) (139, 82, L, st) M = if pm_ty (L.getD 0 pm_U) = 2 then fr S d (139, 83, L, L.getD 0 pm_U :: st) M else none := (fr_eq S (d) (139, 82, L, st) M).trans (x_old _ _ 2 0 139 83 L st M)
theorem f139_83 (S : pm_S) (d : Nat) (L : List Value) (q : Nat) (r : List Value) (M : pm_M) : fr S (d) (139, 83, L, .ref q :: r) M = match pm_get M q with
  | some (.inr (c, fs)) => if c = 3 ∧ 6 < fs.length then fr S d (139, 86, L, fs.getD 6 pm_U :: r) M else none
  | _ => none := (fr_eq S (d) (139, 83, L, .ref q :: r) M).trans (x_ogf _ _ 3 6 139 86 L r q M)
theorem f139_86 (S : pm_S) (d : Nat) (L : List Value) (st : List Value) (M : pm_M) : fr S (d) (139, 86, L, st) M = if pm_ty (L.getD 4 pm_U) = 0 then fr S d (139, 88, L, L.getD 4 pm_U :: st) M else none := (fr_eq S (d) (139, 86, L, st) M).trans (x_old _ _ 0 4 139 88 L st M)
theorem f139_88 (S : pm_S) (d : Nat) (L : List Value) (i : Int32) (q : Nat) (hq : ¬ q = 1) (r : List Value) (M : pm_M) : fr S (d) (139, 88, L, .int i :: .ref q :: r) M = match (pm_get M q).bind (fun c => pm_el 0 c i) with
  | some v => fr S d (139, 89, L, v :: r) M
  | none => none := (fr_eq S (d) (139, 88, L, .int i :: .ref q :: r) M).trans (x_oal _ _ S 0 139 89 L r i q hq M)
theorem f139_89 (S : pm_S) (d : Nat) (L : List Value) (st : List Value) (M : pm_M) : fr S (d) (139, 89, L, st) M = fr S d (139, 93, L, st) M := (fr_eq S (d) (139, 89, L, st) M).trans (x_ogo _ _ 139 93 L st M)
theorem f139_92 (S : pm_S) (d : Nat) (L : List Value) (st : List Value) (M : pm_M) : fr S (d) (139, 92, L, st) M = fr S d (139, 93, L, .int 0 :: st) M := (fr_eq S (d) (139, 92, L, st) M).trans (x_ocs _ _ (.int 0) 139 93 L st M)
theorem f139_93 (S : pm_S) (d : Nat) (L : List Value) (x y : Int32) (r : List Value) (M : pm_M) : fr S (d) (139, 93, L, .int y :: .int x :: r) M = fr S d (139, 94, L, .int (x + y) :: r) M := (fr_eq S (d) (139, 93, L, .int y :: .int x :: r) M).trans (x_oii _ _ (fun x y => x + y) 139 94 L r x y M)
theorem f139_94 (S : pm_S) (d : Nat) (L : List Value) (v : Value) (r : List Value) (M : pm_M) : fr S (d) (139, 94, L, v :: r) M = if pm_ty v = 0 ∧ 3 < L.length ∧ ¬ pm_ty (L.getD (3 - 1) pm_U) = 1 then fr S d (139, 95, L.set 3 v, r) M else none := (fr_eq S (d) (139, 94, L, v :: r) M).trans (x_ost _ _ 0 3 139 95 L r v M)
theorem f139_95 (S : pm_S) (d : Nat) (L : List Value) (st : List Value) (M : pm_M) : fr S (d) (139, 95, L, st) M = match L.getD 4 pm_U with
  | .int x => if 4 < L.length ∧ ¬ pm_ty (L.getD (4 - 1) pm_U) = 1 then fr S d (139, 98, L.set 4 (.int (x + 1)), st) M else none
  | _ => none := (fr_eq S (d) (139, 95, L, st) M).trans (x_oinc _ _ 4 1 139 98 L st M)
theorem f139_98 (S : pm_S) (d : Nat) (L : List Value) (st : List Value) (M : pm_M) : fr S (d) (139, 98, L, st) M = fr S d (139, 42, L, st) M := (fr_eq S (d) (139, 98, L, st) M).trans (x_ogo _ _ 139 42 L st M)
theorem f139_101 (S : pm_S) (d : Nat) (L : List Value) (st : List Value) (M : pm_M) : fr S (d) (139, 101, L, st) M = if pm_ty (L.getD 1 pm_U) = 0 then fr S d (139, 102, L, L.getD 1 pm_U :: st) M else none := (fr_eq S (d) (139, 101, L, st) M).trans (x_old _ _ 0 1 139 102 L st M)
theorem f139_102 (S : pm_S) (d : Nat) (L : List Value) (x : Int32) (r : List Value) (M : pm_M) : fr S (d) (139, 102, L, .int x :: r) M = if x.toInt < 0 ∨ 0 + (([140, 145, 147, 152, 157, 162] : List Nat).length : Int) ≤ x.toInt then fr S d (139, 164, L, r) M else fr S d (139, ([140, 145, 147, 152, 157, 162] : List Nat).getD (x.toInt - 0).toNat 164, L, r) M := (fr_eq S (d) (139, 102, L, .int x :: r) M).trans (x_ots _ _ 164 0 [140, 145, 147, 152, 157, 162] 139 L r x M)
theorem f139_140 (S : pm_S) (d : Nat) (L : List Value) (st : List Value) (M : pm_M) : fr S (d) (139, 140, L, st) M = if pm_ty (L.getD 0 pm_U) = 2 then fr S d (139, 141, L, L.getD 0 pm_U :: st) M else none := (fr_eq S (d) (139, 140, L, st) M).trans (x_old _ _ 2 0 139 141 L st M)
theorem f139_141 (S : pm_S) (d : Nat) (L : List Value) (q : Nat) (r : List Value) (M : pm_M) : fr S (d) (139, 141, L, .ref q :: r) M = match pm_get M q with
  | some (.inr (c, fs)) => if c = 3 ∧ 4 < fs.length then fr S d (139, 144, L, fs.getD 4 pm_U :: r) M else none
  | _ => none := (fr_eq S (d) (139, 141, L, .ref q :: r) M).trans (x_ogf _ _ 3 4 139 144 L r q M)
theorem f139_144 (S : pm_S) (d : Nat) (L : List Value) (v : Value) (M : pm_M) : fr S (d) (139, 144, L, [v]) M = if pm_fit 0 v = true then some (.inl (some v), M) else none := (fr_eq S (d) (139, 144, L, [v]) M).trans (x_ort _ _ 0 v M)
theorem f139_145 (S : pm_S) (d : Nat) (L : List Value) (st : List Value) (M : pm_M) : fr S (d) (139, 145, L, st) M = if pm_ty (L.getD 2 pm_U) = 0 then fr S d (139, 146, L, L.getD 2 pm_U :: st) M else none := (fr_eq S (d) (139, 145, L, st) M).trans (x_old _ _ 0 2 139 146 L st M)
theorem f139_146 (S : pm_S) (d : Nat) (L : List Value) (v : Value) (M : pm_M) : fr S (d) (139, 146, L, [v]) M = if pm_fit 0 v = true then some (.inl (some v), M) else none := (fr_eq S (d) (139, 146, L, [v]) M).trans (x_ort _ _ 0 v M)
theorem f139_147 (S : pm_S) (d : Nat) (L : List Value) (st : List Value) (M : pm_M) : fr S (d) (139, 147, L, st) M = if pm_ty (L.getD 0 pm_U) = 2 then fr S d (139, 148, L, L.getD 0 pm_U :: st) M else none := (fr_eq S (d) (139, 147, L, st) M).trans (x_old _ _ 2 0 139 148 L st M)
theorem f139_148 (S : pm_S) (d : Nat) (L : List Value) (q : Nat) (r : List Value) (M : pm_M) : fr S (d) (139, 148, L, .ref q :: r) M = match pm_get M q with
  | some (.inr (c, fs)) => if c = 3 ∧ 1 < fs.length then fr S d (139, 151, L, fs.getD 1 pm_U :: r) M else none
  | _ => none := (fr_eq S (d) (139, 148, L, .ref q :: r) M).trans (x_ogf _ _ 3 1 139 151 L r q M)
theorem f139_151 (S : pm_S) (d : Nat) (L : List Value) (v : Value) (M : pm_M) : fr S (d) (139, 151, L, [v]) M = if pm_fit 0 v = true then some (.inl (some v), M) else none := (fr_eq S (d) (139, 151, L, [v]) M).trans (x_ort _ _ 0 v M)
theorem f139_152 (S : pm_S) (d : Nat) (L : List Value) (st : List Value) (M : pm_M) : fr S (d) (139, 152, L, st) M = if pm_ty (L.getD 0 pm_U) = 2 then fr S d (139, 153, L, L.getD 0 pm_U :: st) M else none := (fr_eq S (d) (139, 152, L, st) M).trans (x_old _ _ 2 0 139 153 L st M)
theorem f139_153 (S : pm_S) (d : Nat) (L : List Value) (q : Nat) (r : List Value) (M : pm_M) : fr S (d) (139, 153, L, .ref q :: r) M = match pm_get M q with
  | some (.inr (c, fs)) => if c = 3 ∧ 2 < fs.length then fr S d (139, 156, L, fs.getD 2 pm_U :: r) M else none
  | _ => none := (fr_eq S (d) (139, 153, L, .ref q :: r) M).trans (x_ogf _ _ 3 2 139 156 L r q M)
theorem f139_156 (S : pm_S) (d : Nat) (L : List Value) (v : Value) (M : pm_M) : fr S (d) (139, 156, L, [v]) M = if pm_fit 0 v = true then some (.inl (some v), M) else none := (fr_eq S (d) (139, 156, L, [v]) M).trans (x_ort _ _ 0 v M)
theorem f139_157 (S : pm_S) (d : Nat) (L : List Value) (st : List Value) (M : pm_M) : fr S (d) (139, 157, L, st) M = if pm_ty (L.getD 0 pm_U) = 2 then fr S d (139, 158, L, L.getD 0 pm_U :: st) M else none := (fr_eq S (d) (139, 157, L, st) M).trans (x_old _ _ 2 0 139 158 L st M)
theorem f139_158 (S : pm_S) (d : Nat) (L : List Value) (q : Nat) (r : List Value) (M : pm_M) : fr S (d) (139, 158, L, .ref q :: r) M = match pm_get M q with
  | some (.inr (c, fs)) => if c = 3 ∧ 3 < fs.length then fr S d (139, 161, L, fs.getD 3 pm_U :: r) M else none
  | _ => none := (fr_eq S (d) (139, 158, L, .ref q :: r) M).trans (x_ogf _ _ 3 3 139 161 L r q M)
theorem f139_161 (S : pm_S) (d : Nat) (L : List Value) (v : Value) (M : pm_M) : fr S (d) (139, 161, L, [v]) M = if pm_fit 0 v = true then some (.inl (some v), M) else none := (fr_eq S (d) (139, 161, L, [v]) M).trans (x_ort _ _ 0 v M)
theorem f139_162 (S : pm_S) (d : Nat) (L : List Value) (st : List Value) (M : pm_M) : fr S (d) (139, 162, L, st) M = if pm_ty (L.getD 3 pm_U) = 0 then fr S d (139, 163, L, L.getD 3 pm_U :: st) M else none := (fr_eq S (d) (139, 162, L, st) M).trans (x_old _ _ 0 3 139 163 L st M)
theorem f139_163 (S : pm_S) (d : Nat) (L : List Value) (v : Value) (M : pm_M) : fr S (d) (139, 163, L, [v]) M = if pm_fit 0 v = true then some (.inl (some v), M) else none := (fr_eq S (d) (139, 163, L, [v]) M).trans (x_ort _ _ 0 v M)
theorem f139_164 (S : pm_S) (d : Nat) (L : List Value) (st : List Value) (M : pm_M) : fr S (d) (139, 164, L, st) M = fr S d (139, 165, L, .int (-1) :: st) M := (fr_eq S (d) (139, 164, L, st) M).trans (x_ocs _ _ (.int (-1)) 139 165 L st M)
theorem f139_165 (S : pm_S) (d : Nat) (L : List Value) (v : Value) (M : pm_M) : fr S (d) (139, 165, L, [v]) M = if pm_fit 0 v = true then some (.inl (some v), M) else none := (fr_eq S (d) (139, 165, L, [v]) M).trans (x_ort _ _ 0 v M)
