theorem f53_26 (S : pm_S) (d : Nat) (L : List Value) (st : List Value) (M : pm_M) : fr S (d) (53, 26, L, st) M = if pm_ty (L.getD 0 pm_U) = 2 then fr S d (53, 27, L, L.getD 0 pm_U :: st) M else none := (fr_eq S (d) (53, 26, L, st) M).trans (x_old _ _ 2 0 53 27 L st M)
theorem f53_27 (S : pm_S) (d : Nat) (L : List Value) (q : Nat) (r : List Value) (M : pm_M) : fr S (d) (53, 27, L, .ref q :: r) M = match pm_get M q with
  | some (.inr (c, fs)) => if c = 0 ∧ 9 < fs.length then fr S d (53, 30, L, fs.getD 9 pm_U :: r) M else none
  | _ => none := (fr_eq S (d) (53, 27, L, .ref q :: r) M).trans (x_ogf _ _ 0 9 53 30 L r q M)
theorem f53_30 (S : pm_S) (d : Nat) (L : List Value) (x y : Int32) (r : List Value) (M : pm_M) : fr S (d) (53, 30, L, .int y :: .int x :: r) M = if y ≤ x then fr S d (53, 42, L, r) M else fr S d (53, 33, L, r) M := (fr_eq S (d) (53, 30, L, .int y :: .int x :: r) M).trans (x_oc2ge _ _ 53 33 42 L r x y M)
theorem f53_33 (S : pm_S) (d : Nat) (L : List Value) (st : List Value) (M : pm_M) : fr S (d) (53, 33, L, st) M = if pm_ty (L.getD 2 pm_U) = 0 then fr S d (53, 34, L, L.getD 2 pm_U :: st) M else none := (fr_eq S (d) (53, 33, L, st) M).trans (x_old _ _ 0 2 53 34 L st M)
theorem f53_34 (S : pm_S) (d : Nat) (L : List Value) (st : List Value) (M : pm_M) : fr S (d) (53, 34, L, st) M = if pm_ty (L.getD 0 pm_U) = 2 then fr S d (53, 35, L, L.getD 0 pm_U :: st) M else none := (fr_eq S (d) (53, 34, L, st) M).trans (x_old _ _ 2 0 53 35 L st M)
theorem f53_35 (S : pm_S) (d : Nat) (L : List Value) (q : Nat) (r : List Value) (M : pm_M) : fr S (d) (53, 35, L, .ref q :: r) M = match pm_get M q with
  | some (.inr (c, fs)) => if c = 0 ∧ 8 < fs.length then fr S d (53, 38, L, fs.getD 8 pm_U :: r) M else none
  | _ => none := (fr_eq S (d) (53, 35, L, .ref q :: r) M).trans (x_ogf _ _ 0 8 53 38 L r q M)
theorem f53_38 (S : pm_S) (d : Nat) (L : List Value) (q : Nat) (hq : ¬ q = 1) (r : List Value) (M : pm_M) : fr S (d) (53, 38, L, .ref q :: r) M = match pm_get M q with
  | some (.inl (_, (n, _))) => fr S d (53, 39, L, .int (Int32.ofNat n) :: r) M
  | _ => none := (fr_eq S (d) (53, 38, L, .ref q :: r) M).trans (x_oln _ _ S 53 39 L r q hq M)
theorem f53_39 (S : pm_S) (d : Nat) (L : List Value) (x y : Int32) (r : List Value) (M : pm_M) : fr S (d) (53, 39, L, .int y :: .int x :: r) M = if x < y then fr S d (53, 43, L, r) M else fr S d (53, 42, L, r) M := (fr_eq S (d) (53, 39, L, .int y :: .int x :: r) M).trans (x_oc2lt _ _ 53 42 43 L r x y M)
theorem f53_42 (S : pm_S) (d : Nat) (L : List Value)  (M : pm_M) : fr S (d) (53, 42, L, []) M = some (.inl none, M) := (fr_eq S (d) (53, 42, L, []) M).trans (x_orv _ _ M)
theorem f53_43 (S : pm_S) (d : Nat) (L : List Value) (st : List Value) (M : pm_M) : fr S (d) (53, 43, L, st) M = fr S d (53, 44, L, .int 0 :: st) M := (fr_eq S (d) (53, 43, L, st) M).trans (x_ocs _ _ (.int 0) 53 44 L st M)
theorem f53_44 (S : pm_S) (d : Nat) (L : List Value) (v : Value) (r : List Value) (M : pm_M) : fr S (d) (53, 44, L, v :: r) M = if pm_ty v = 0 ∧ 3 < L.length ∧ ¬ pm_ty (L.getD (3 - 1) pm_U) = 1 then fr S d (53, 45, L.set 3 v, r) M else none := (fr_eq S (d) (53, 44, L, v :: r) M).trans (x_ost _ _ 0 3 53 45 L r v M)
theorem f53_45 (S : pm_S) (d : Nat) (L : List Value) (st : List Value) (M : pm_M) : fr S (d) (53, 45, L, st) M = if pm_ty (L.getD 3 pm_U) = 0 then fr S d (53, 46, L, L.getD 3 pm_U :: st) M else none := (fr_eq S (d) (53, 45, L, st) M).trans (x_old _ _ 0 3 53 46 L st M)
theorem f53_46 (S : pm_S) (d : Nat) (L : List Value) (st : List Value) (M : pm_M) : fr S (d) (53, 46, L, st) M = if pm_ty (L.getD 0 pm_U) = 2 then fr S d (53, 47, L, L.getD 0 pm_U :: st) M else none := (fr_eq S (d) (53, 46, L, st) M).trans (x_old _ _ 2 0 53 47 L st M)
theorem f53_47 (S : pm_S) (d : Nat) (L : List Value) (q : Nat) (r : List Value) (M : pm_M) : fr S (d) (53, 47, L, .ref q :: r) M = match pm_get M q with
  | some (.inr (c, fs)) => if c = 0 ∧ 9 < fs.length then fr S d (53, 50, L, fs.getD 9 pm_U :: r) M else none
  | _ => none := (fr_eq S (d) (53, 47, L, .ref q :: r) M).trans (x_ogf _ _ 0 9 53 50 L r q M)
theorem f53_50 (S : pm_S) (d : Nat) (L : List Value) (x y : Int32) (r : List Value) (M : pm_M) : fr S (d) (53, 50, L, .int y :: .int x :: r) M = if y ≤ x then fr S d (53, 100, L, r) M else fr S d (53, 53, L, r) M := (fr_eq S (d) (53, 50, L, .int y :: .int x :: r) M).trans (x_oc2ge _ _ 53 53 100 L r x y M)
theorem f53_53 (S : pm_S) (d : Nat) (L : List Value) (st : List Value) (M : pm_M) : fr S (d) (53, 53, L, st) M = if pm_ty (L.getD 3 pm_U) = 0 then fr S d (53, 54, L, L.getD 3 pm_U :: st) M else none := (fr_eq S (d) (53, 53, L, st) M).trans (x_old _ _ 0 3 53 54 L st M)
theorem f53_54 (S : pm_S) (d : Nat) (L : List Value) (st : List Value) (M : pm_M) : fr S (d) (53, 54, L, st) M = if pm_ty (L.getD 0 pm_U) = 2 then fr S d (53, 55, L, L.getD 0 pm_U :: st) M else none := (fr_eq S (d) (53, 54, L, st) M).trans (x_old _ _ 2 0 53 55 L st M)
theorem f53_55 (S : pm_S) (d : Nat) (L : List Value) (q : Nat) (r : List Value) (M : pm_M) : fr S (d) (53, 55, L, .ref q :: r) M = match pm_get M q with
  | some (.inr (c, fs)) => if c = 0 ∧ 8 < fs.length then fr S d (53, 58, L, fs.getD 8 pm_U :: r) M else none
  | _ => none := (fr_eq S (d) (53, 55, L, .ref q :: r) M).trans (x_ogf _ _ 0 8 53 58 L r q M)
theorem f53_58 (S : pm_S) (d : Nat) (L : List Value) (q : Nat) (hq : ¬ q = 1) (r : List Value) (M : pm_M) : fr S (d) (53, 58, L, .ref q :: r) M = match pm_get M q with
  | some (.inl (_, (n, _))) => fr S d (53, 59, L, .int (Int32.ofNat n) :: r) M
  | _ => none := (fr_eq S (d) (53, 58, L, .ref q :: r) M).trans (x_oln _ _ S 53 59 L r q hq M)
theorem f53_59 (S : pm_S) (d : Nat) (L : List Value) (x y : Int32) (r : List Value) (M : pm_M) : fr S (d) (53, 59, L, .int y :: .int x :: r) M = if y ≤ x then fr S d (53, 100, L, r) M else fr S d (53, 62, L, r) M := (fr_eq S (d) (53, 59, L, .int y :: .int x :: r) M).trans (x_oc2ge _ _ 53 62 100 L r x y M)
theorem f53_62 (S : pm_S) (d : Nat) (L : List Value) (st : List Value) (M : pm_M) : fr S (d) (53, 62, L, st) M = fr S d (53, 63, L, .int 0 :: st) M := (fr_eq S (d) (53, 62, L, st) M).trans (x_ocs _ _ (.int 0) 53 63 L st M)
theorem f53_63 (S : pm_S) (d : Nat) (L : List Value) (v : Value) (r : List Value) (M : pm_M) : fr S (d) (53, 63, L, v :: r) M = if pm_ty v = 0 ∧ 4 < L.length ∧ ¬ pm_ty (L.getD (4 - 1) pm_U) = 1 then fr S d (53, 65, L.set 4 v, r) M else none := (fr_eq S (d) (53, 63, L, v :: r) M).trans (x_ost _ _ 0 4 53 65 L r v M)
theorem f53_65 (S : pm_S) (d : Nat) (L : List Value) (st : List Value) (M : pm_M) : fr S (d) (53, 65, L, st) M = if pm_ty (L.getD 4 pm_U) = 0 then fr S d (53, 67, L, L.getD 4 pm_U :: st) M else none := (fr_eq S (d) (53, 65, L, st) M).trans (x_old _ _ 0 4 53 67 L st M)
theorem f53_67 (S : pm_S) (d : Nat) (L : List Value) (st : List Value) (M : pm_M) : fr S (d) (53, 67, L, st) M = if pm_ty (L.getD 0 pm_U) = 2 then fr S d (53, 68, L, L.getD 0 pm_U :: st) M else none := (fr_eq S (d) (53, 67, L, st) M).trans (x_old _ _ 2 0 53 68 L st M)
theorem f53_68 (S : pm_S) (d : Nat) (L : List Value) (q : Nat) (r : List Value) (M : pm_M) : fr S (d) (53, 68, L, .ref q :: r) M = match pm_get M q with
  | some (.inr (c, fs)) => if c = 0 ∧ 1 < fs.length then fr S d (53, 71, L, fs.getD 1 pm_U :: r) M else none
  | _ => none := (fr_eq S (d) (53, 68, L, .ref q :: r) M).trans (x_ogf _ _ 0 1 53 71 L r q M)
theorem f53_71 (S : pm_S) (d : Nat) (L : List Value) (x y : Int32) (r : List Value) (M : pm_M) : fr S (d) (53, 71, L, .int y :: .int x :: r) M = if y ≤ x then fr S d (53, 94, L, r) M else fr S d (53, 74, L, r) M := (fr_eq S (d) (53, 71, L, .int y :: .int x :: r) M).trans (x_oc2ge _ _ 53 74 94 L r x y M)
theorem f53_74 (S : pm_S) (d : Nat) (L : List Value) (st : List Value) (M : pm_M) : fr S (d) (53, 74, L, st) M = if pm_ty (L.getD 0 pm_U) = 2 then fr S d (53, 75, L, L.getD 0 pm_U :: st) M else none := (fr_eq S (d) (53, 74, L, st) M).trans (x_old _ _ 2 0 53 75 L st M)
theorem f53_75 (S : pm_S) (d : Nat) (L : List Value) (st : List Value) (M : pm_M) : fr S (d) (53, 75, L, st) M = if pm_ty (L.getD 0 pm_U) = 2 then fr S d (53, 76, L, L.getD 0 pm_U :: st) M else none := (fr_eq S (d) (53, 75, L, st) M).trans (x_old _ _ 2 0 53 76 L st M)
theorem f53_76 (S : pm_S) (d : Nat) (L : List Value) (q : Nat) (r : List Value) (M : pm_M) : fr S (d) (53, 76, L, .ref q :: r) M = match pm_get M q with
  | some (.inr (c, fs)) => if c = 0 ∧ 8 < fs.length then fr S d (53, 79, L, fs.getD 8 pm_U :: r) M else none
  | _ => none := (fr_eq S (d) (53, 76, L, .ref q :: r) M).trans (x_ogf _ _ 0 8 53 79 L r q M)
theorem f53_79 (S : pm_S) (d : Nat) (L : List Value) (st : List Value) (M : pm_M) : fr S (d) (53, 79, L, st) M = if pm_ty (L.getD 3 pm_U) = 0 then fr S d (53, 80, L, L.getD 3 pm_U :: st) M else none := (fr_eq S (d) (53, 79, L, st) M).trans (x_old _ _ 0 3 53 80 L st M)
theorem f53_80 (S : pm_S) (d : Nat) (L : List Value) (i : Int32) (q : Nat) (hq : ¬ q = 1) (r : List Value) (M : pm_M) : fr S (d) (53, 80, L, .int i :: .ref q :: r) M = match (pm_get M q).bind (fun c => pm_el 3 c i) with
  | some v => fr S d (53, 81, L, v :: r) M
  | none => none := (fr_eq S (d) (53, 80, L, .int i :: .ref q :: r) M).trans (x_oal _ _ S 3 53 81 L r i q hq M)
theorem f53_81 (S : pm_S) (d : Nat) (L : List Value) (st : List Value) (M : pm_M) : fr S (d) (53, 81, L, st) M = if pm_ty (L.getD 1 pm_U) = 0 then fr S d (53, 82, L, L.getD 1 pm_U :: st) M else none := (fr_eq S (d) (53, 81, L, st) M).trans (x_old _ _ 0 1 53 82 L st M)
theorem f53_82 (S : pm_S) (d : Nat) (L : List Value) (st : List Value) (M : pm_M) : fr S (d) (53, 82, L, st) M = if pm_ty (L.getD 4 pm_U) = 0 then fr S d (53, 84, L, L.getD 4 pm_U :: st) M else none := (fr_eq S (d) (53, 82, L, st) M).trans (x_old _ _ 0 4 53 84 L st M)
theorem f53_84 (S : pm_S) (d : Nat) (L : List Value) (st : List Value) (M : pm_M) : fr S (d) (53, 84, L, st) M = if pm_ty (L.getD 2 pm_U) = 0 then fr S d (53, 85, L, L.getD 2 pm_U :: st) M else none := (fr_eq S (d) (53, 84, L, st) M).trans (x_old _ _ 0 2 53 85 L st M)
theorem f53_85 (S : pm_S) (d : Nat) (L : List Value) (st : List Value) (M : pm_M) : fr S (d + 1) (53, 85, L, st) M = match pm_ag 5 [] st with
  | some (a, r) => if r.length ≤ 4 ∧ (1 = 0 ∨ pm_obj M 0 (a.headD pm_U) = true) then (match fr S d (54, 0, a ++ [pm_U, pm_U], []) M with
    | none => none
    | some (.inl v, M') => fr S (d + 1) (53, 88, L, v.toList ++ r) M'
    | some (.inr E, M') => some (.inr E, M')) else none
  | none => none := (fr_eq S (d + 1) (53, 85, L, st) M).trans (x_ocl _ _ 1 54 5 0 [pm_U, pm_U] 53 88 L st M)
theorem f53_88 (S : pm_S) (d : Nat) (L : List Value) (st : List Value) (M : pm_M) : fr S (d) (53, 88, L, st) M = match L.getD 4 pm_U with
  | .int x => if 4 < L.length ∧ ¬ pm_ty (L.getD (4 - 1) pm_U) = 1 then fr S d (53, 91, L.set 4 (.int (x + 1)), st) M else none
  | _ => none := (fr_eq S (d) (53, 88, L, st) M).trans (x_oinc _ _ 4 1 53 91 L st M)
theorem f53_91 (S : pm_S) (d : Nat) (L : List Value) (st : List Value) (M : pm_M) : fr S (d) (53, 91, L, st) M = fr S d (53, 65, L, st) M := (fr_eq S (d) (53, 91, L, st) M).trans (x_ogo _ _ 53 65 L st M)
theorem f53_94 (S : pm_S) (d : Nat) (L : List Value) (st : List Value) (M : pm_M) : fr S (d) (53, 94, L, st) M = match L.getD 3 pm_U with
  | .int x => if 3 < L.length ∧ ¬ pm_ty (L.getD (3 - 1) pm_U) = 1 then fr S d (53, 97, L.set 3 (.int (x + 1)), st) M else none
  | _ => none := (fr_eq S (d) (53, 94, L, st) M).trans (x_oinc _ _ 3 1 53 97 L st M)
theorem f53_97 (S : pm_S) (d : Nat) (L : List Value) (st : List Value) (M : pm_M) : fr S (d) (53, 97, L, st) M = fr S d (53, 45, L, st) M := (fr_eq S (d) (53, 97, L, st) M).trans (x_ogo _ _ 53 45 L st M)
theorem f53_100 (S : pm_S) (d : Nat) (L : List Value)  (M : pm_M) : fr S (d) (53, 100, L, []) M = some (.inl none, M) := (fr_eq S (d) (53, 100, L, []) M).trans (x_orv _ _ M)
theorem f54_0 (S : pm_S) (d : Nat) (L : List Value) (st : List Value) (M : pm_M) : fr S (d) (54, 0, L, st) M = if pm_ty (L.getD 1 pm_U) = 2 then fr S d (54, 1, L, L.getD 1 pm_U :: st) M else none := (fr_eq S (d) (54, 0, L, st) M).trans (x_old _ _ 2 1 54 1 L st M)
theorem f54_1 (S : pm_S) (d : Nat) (L : List Value) (v : Value) (r : List Value) (M : pm_M) : fr S (d) (54, 1, L, v :: r) M = if pm_ty v = 2 then (if v = .null then fr S d (54, 21, L, r) M else fr S d (54, 4, L, r) M) else none := (fr_eq S (d) (54, 1, L, v :: r) M).trans (x_onu _ _ 21 4 54 L r v M)
theorem f54_4 (S : pm_S) (d : Nat) (L : List Value) (st : List Value) (M : pm_M) : fr S (d) (54, 4, L, st) M = if pm_ty (L.getD 1 pm_U) = 2 then fr S d (54, 5, L, L.getD 1 pm_U :: st) M else none := (fr_eq S (d) (54, 4, L, st) M).trans (x_old _ _ 2 1 54 5 L st M)
theorem f54_5 (S : pm_S) (d : Nat) (L : List Value) (st : List Value) (M : pm_M) : fr S (d + 1) (54, 5, L, st) M = match pm_ag 1 [] st with
  | some (a, r) => if r.length ≤ 4 ∧ (1 = 0 ∨ pm_obj M 1 (a.headD pm_U) = true) then (match fr S d (64, 0, a ++ [], []) M with
    | none => none
    | some (.inl v, M') => fr S (d + 1) (54, 8, L, v.toList ++ r) M'
    | some (.inr E, M') => some (.inr E, M')) else none
  | none => none := (fr_eq S (d + 1) (54, 5, L, st) M).trans (x_ocl _ _ 1 64 1 1 [] 54 8 L st M)
theorem f54_8 (S : pm_S) (d : Nat) (L : List Value) (x : Int32) (r : List Value) (M : pm_M) : fr S (d) (54, 8, L, .int x :: r) M = if ¬ x = 0 then fr S d (54, 21, L, r) M else fr S d (54, 11, L, r) M := (fr_eq S (d) (54, 8, L, .int x :: r) M).trans (x_oc1ne _ _ 54 11 21 L r x M)
theorem f54_11 (S : pm_S) (d : Nat) (L : List Value) (st : List Value) (M : pm_M) : fr S (d) (54, 11, L, st) M = if pm_ty (L.getD 0 pm_U) = 2 then fr S d (54, 12, L, L.getD 0 pm_U :: st) M else none := (fr_eq S (d) (54, 11, L, st) M).trans (x_old _ _ 2 0 54 12 L st M)
theorem f54_12 (S : pm_S) (d : Nat) (L : List Value) (st : List Value) (M : pm_M) : fr S (d) (54, 12, L, st) M = if pm_ty (L.getD 1 pm_U) = 2 then fr S d (54, 13, L, L.getD 1 pm_U :: st) M else none := (fr_eq S (d) (54, 12, L, st) M).trans (x_old _ _ 2 1 54 13 L st M)
theorem f54_13 (S : pm_S) (d : Nat) (L : List Value) (st : List Value) (M : pm_M) : fr S (d) (54, 13, L, st) M = if pm_ty (L.getD 2 pm_U) = 0 then fr S d (54, 14, L, L.getD 2 pm_U :: st) M else none := (fr_eq S (d) (54, 13, L, st) M).trans (x_old _ _ 0 2 54 14 L st M)
theorem f54_14 (S : pm_S) (d : Nat) (L : List Value) (st : List Value) (M : pm_M) : fr S (d) (54, 14, L, st) M = if pm_ty (L.getD 3 pm_U) = 0 then fr S d (54, 15, L, L.getD 3 pm_U :: st) M else none := (fr_eq S (d) (54, 14, L, st) M).trans (x_old _ _ 0 3 54 15 L st M)
theorem f54_15 (S : pm_S) (d : Nat) (L : List Value) (st : List Value) (M : pm_M) : fr S (d + 1) (54, 15, L, st) M = match pm_ag 4 [] st with
  | some (a, r) => if r.length ≤ 4 ∧ (1 = 0 ∨ pm_obj M 0 (a.headD pm_U) = true) then (match fr S d (56, 0, a ++ [pm_U], []) M with
    | none => none
    | some (.inl v, M') => fr S (d + 1) (54, 18, L, v.toList ++ r) M'
    | some (.inr E, M') => some (.inr E, M')) else none
  | none => none := (fr_eq S (d + 1) (54, 15, L, st) M).trans (x_ocl _ _ 1 56 4 0 [pm_U] 54 18 L st M)
theorem f54_18 (S : pm_S) (d : Nat) (L : List Value) (x : Int32) (r : List Value) (M : pm_M) : fr S (d) (54, 18, L, .int x :: r) M = if ¬ x = 0 then fr S d (54, 22, L, r) M else fr S d (54, 21, L, r) M := (fr_eq S (d) (54, 18, L, .int x :: r) M).trans (x_oc1ne _ _ 54 21 22 L r x M)
theorem f54_21 (S : pm_S) (d : Nat) (L : List Value)  (M : pm_M) : fr S (d) (54, 21, L, []) M = some (.inl none, M) := (fr_eq S (d) (54, 21, L, []) M).trans (x_orv _ _ M)
theorem f54_22 (S : pm_S) (d : Nat) (L : List Value) (st : List Value) (M : pm_M) : fr S (d) (54, 22, L, st) M = if pm_ty (L.getD 0 pm_U) = 2 then fr S d (54, 23, L, L.getD 0 pm_U :: st) M else none := (fr_eq S (d) (54, 22, L, st) M).trans (x_old _ _ 2 0 54 23 L st M)
theorem f54_23 (S : pm_S) (d : Nat) (L : List Value) (st : List Value) (M : pm_M) : fr S (d) (54, 23, L, st) M = if pm_ty (L.getD 1 pm_U) = 2 then fr S d (54, 24, L, L.getD 1 pm_U :: st) M else none := (fr_eq S (d) (54, 23, L, st) M).trans (x_old _ _ 2 1 54 24 L st M)
theorem f54_24 (S : pm_S) (d : Nat) (L : List Value) (st : List Value) (M : pm_M) : fr S (d + 1) (54, 24, L, st) M = match pm_ag 2 [] st with
  | some (a, r) => if r.length ≤ 4 ∧ (1 = 0 ∨ pm_obj M 0 (a.headD pm_U) = true) then (match fr S d (43, 0, a ++ [pm_U, pm_U], []) M with
    | none => none
    | some (.inl v, M') => fr S (d + 1) (54, 27, L, v.toList ++ r) M'
    | some (.inr E, M') => some (.inr E, M')) else none
  | none => none := (fr_eq S (d + 1) (54, 24, L, st) M).trans (x_ocl _ _ 1 43 2 0 [pm_U, pm_U] 54 27 L st M)
theorem f54_27 (S : pm_S) (d : Nat) (L : List Value) (x : Int32) (r : List Value) (M : pm_M) : fr S (d) (54, 27, L, .int x :: r) M = if ¬ x = 0 then fr S d (54, 50, L, r) M else fr S d (54, 30, L, r) M := (fr_eq S (d) (54, 27, L, .int x :: r) M).trans (x_oc1ne _ _ 54 30 50 L r x M)
theorem f54_30 (S : pm_S) (d : Nat) (L : List Value) (st : List Value) (M : pm_M) : fr S (d) (54, 30, L, st) M = if pm_ty (L.getD 0 pm_U) = 2 then fr S d (54, 31, L, L.getD 0 pm_U :: st) M else none := (fr_eq S (d) (54, 30, L, st) M).trans (x_old _ _ 2 0 54 31 L st M)
theorem f54_31 (S : pm_S) (d : Nat) (L : List Value) (st : List Value) (M : pm_M) : fr S (d) (54, 31, L, st) M = if pm_ty (L.getD 1 pm_U) = 2 then fr S d (54, 32, L, L.getD 1 pm_U :: st) M else none := (fr_eq S (d) (54, 31, L, st) M).trans (x_old _ _ 2 1 54 32 L st M)
theorem f54_32 (S : pm_S) (d : Nat) (L : List Value) (st : List Value) (M : pm_M) : fr S (d + 1) (54, 32, L, st) M = match pm_ag 2 [] st with
  | some (a, r) => if r.length ≤ 4 ∧ (1 = 0 ∨ pm_obj M 0 (a.headD pm_U) = true) then (match fr S d (45, 0, a ++ [pm_U, pm_U], []) M with
    | none => none
    | some (.inl v, M') => fr S (d + 1) (54, 35, L, v.toList ++ r) M'
    | some (.inr E, M') => some (.inr E, M')) else none
  | none => none := (fr_eq S (d + 1) (54, 32, L, st) M).trans (x_ocl _ _ 1 45 2 0 [pm_U, pm_U] 54 35 L st M)
theorem f54_35 (S : pm_S) (d : Nat) (L : List Value) (x : Int32) (r : List Value) (M : pm_M) : fr S (d) (54, 35, L, .int x :: r) M = if ¬ x = 0 then fr S d (54, 50, L, r) M else fr S d (54, 38, L, r) M := (fr_eq S (d) (54, 35, L, .int x :: r) M).trans (x_oc1ne _ _ 54 38 50 L r x M)
theorem f54_38 (S : pm_S) (d : Nat) (L : List Value) (st : List Value) (M : pm_M) : fr S (d) (54, 38, L, st) M = if pm_ty (L.getD 0 pm_U) = 2 then fr S d (54, 39, L, L.getD 0 pm_U :: st) M else none := (fr_eq S (d) (54, 38, L, st) M).trans (x_old _ _ 2 0 54 39 L st M)
theorem f54_39 (S : pm_S) (d : Nat) (L : List Value) (st : List Value) (M : pm_M) : fr S (d) (54, 39, L, st) M = if pm_ty (L.getD 1 pm_U) = 2 then fr S d (54, 40, L, L.getD 1 pm_U :: st) M else none := (fr_eq S (d) (54, 39, L, st) M).trans (x_old _ _ 2 1 54 40 L st M)
theorem f54_40 (S : pm_S) (d : Nat) (L : List Value) (st : List Value) (M : pm_M) : fr S (d + 1) (54, 40, L, st) M = match pm_ag 2 [] st with
  | some (a, r) => if r.length ≤ 4 ∧ (1 = 0 ∨ pm_obj M 0 (a.headD pm_U) = true) then (match fr S d (46, 0, a ++ [pm_U], []) M with
    | none => none
    | some (.inl v, M') => fr S (d + 1) (54, 43, L, v.toList ++ r) M'
    | some (.inr E, M') => some (.inr E, M')) else none
  | none => none := (fr_eq S (d + 1) (54, 40, L, st) M).trans (x_ocl _ _ 1 46 2 0 [pm_U] 54 43 L st M)
theorem f54_43 (S : pm_S) (d : Nat) (L : List Value) (x : Int32) (r : List Value) (M : pm_M) : fr S (d) (54, 43, L, .int x :: r) M = if ¬ x = 0 then fr S d (54, 50, L, r) M else fr S d (54, 46, L, r) M := (fr_eq S (d) (54, 43, L, .int x :: r) M).trans (x_oc1ne _ _ 54 46 50 L r x M)
theorem f54_46 (S : pm_S) (d : Nat) (L : List Value) (st : List Value) (M : pm_M) : fr S (d) (54, 46, L, st) M = fr S d (54, 47, L, .int 1 :: st) M := (fr_eq S (d) (54, 46, L, st) M).trans (x_ocs _ _ (.int 1) 54 47 L st M)
theorem f54_47 (S : pm_S) (d : Nat) (L : List Value) (st : List Value) (M : pm_M) : fr S (d) (54, 47, L, st) M = fr S d (54, 51, L, st) M := (fr_eq S (d) (54, 47, L, st) M).trans (x_ogo _ _ 54 51 L st M)
theorem f54_50 (S : pm_S) (d : Nat) (L : List Value) (st : List Value) (M : pm_M) : fr S (d) (54, 50, L, st) M = fr S d (54, 51, L, .int 0 :: st) M := (fr_eq S (d) (54, 50, L, st) M).trans (x_ocs _ _ (.int 0) 54 51 L st M)
theorem f54_51 (S : pm_S) (d : Nat) (L : List Value) (v : Value) (r : List Value) (M : pm_M) : fr S (d) (54, 51, L, v :: r) M = if pm_ty v = 0 ∧ 5 < L.length ∧ ¬ pm_ty (L.getD (5 - 1) pm_U) = 1 then fr S d (54, 53, L.set 5 v, r) M else none := (fr_eq S (d) (54, 51, L, v :: r) M).trans (x_ost _ _ 0 5 54 53 L r v M)
theorem f54_53 (S : pm_S) (d : Nat) (L : List Value) (st : List Value) (M : pm_M) : fr S (d) (54, 53, L, st) M = if pm_ty (L.getD 5 pm_U) = 0 then fr S d (54, 55, L, L.getD 5 pm_U :: st) M else none := (fr_eq S (d) (54, 53, L, st) M).trans (x_old _ _ 0 5 54 55 L st M)
theorem f54_55 (S : pm_S) (d : Nat) (L : List Value) (x : Int32) (r : List Value) (M : pm_M) : fr S (d) (54, 55, L, .int x :: r) M = if x = 0 then fr S d (54, 66, L, r) M else fr S d (54, 58, L, r) M := (fr_eq S (d) (54, 55, L, .int x :: r) M).trans (x_oc1eq _ _ 54 58 66 L r x M)
theorem f54_58 (S : pm_S) (d : Nat) (L : List Value) (st : List Value) (M : pm_M) : fr S (d) (54, 58, L, st) M = if pm_ty (L.getD 0 pm_U) = 2 then fr S d (54, 59, L, L.getD 0 pm_U :: st) M else none := (fr_eq S (d) (54, 58, L, st) M).trans (x_old _ _ 2 0 54 59 L st M)
theorem f54_59 (S : pm_S) (d : Nat) (L : List Value) (st : List Value) (M : pm_M) : fr S (d) (54, 59, L, st) M = if pm_ty (L.getD 1 pm_U) = 2 then fr S d (54, 60, L, L.getD 1 pm_U :: st) M else none := (fr_eq S (d) (54, 59, L, st) M).trans (x_old _ _ 2 1 54 60 L st M)
theorem f54_60 (S : pm_S) (d : Nat) (L : List Value) (st : List Value) (M : pm_M) : fr S (d + 1) (54, 60, L, st) M = match pm_ag 2 [] st with
  | some (a, r) => if r.length ≤ 4 ∧ (1 = 0 ∨ pm_obj M 0 (a.headD pm_U) = true) then (match fr S d (51, 0, a ++ [pm_U, pm_U, pm_U], []) M with
    | none => none
    | some (.inl v, M') => fr S (d + 1) (54, 63, L, v.toList ++ r) M'
    | some (.inr E, M') => some (.inr E, M')) else none
  | none => none := (fr_eq S (d + 1) (54, 60, L, st) M).trans (x_ocl _ _ 1 51 2 0 [pm_U, pm_U, pm_U] 54 63 L st M)
theorem f54_63 (S : pm_S) (d : Nat) (L : List Value) (st : List Value) (M : pm_M) : fr S (d) (54, 63, L, st) M = fr S d (54, 67, L, st) M := (fr_eq S (d) (54, 63, L, st) M).trans (x_ogo _ _ 54 67 L st M)
theorem f54_66 (S : pm_S) (d : Nat) (L : List Value) (st : List Value) (M : pm_M) : fr S (d) (54, 66, L, st) M = fr S d (54, 67, L, .int 0 :: st) M := (fr_eq S (d) (54, 66, L, st) M).trans (x_ocs _ _ (.int 0) 54 67 L st M)
theorem f54_67 (S : pm_S) (d : Nat) (L : List Value) (v : Value) (r : List Value) (M : pm_M) : fr S (d) (54, 67, L, v :: r) M = if pm_ty v = 0 ∧ 6 < L.length ∧ ¬ pm_ty (L.getD (6 - 1) pm_U) = 1 then fr S d (54, 69, L.set 6 v, r) M else none := (fr_eq S (d) (54, 67, L, v :: r) M).trans (x_ost _ _ 0 6 54 69 L r v M)
theorem f54_69 (S : pm_S) (d : Nat) (L : List Value) (st : List Value) (M : pm_M) : fr S (d) (54, 69, L, st) M = if pm_ty (L.getD 5 pm_U) = 0 then fr S d (54, 71, L, L.getD 5 pm_U :: st) M else none := (fr_eq S (d) (54, 69, L, st) M).trans (x_old _ _ 0 5 54 71 L st M)
theorem f54_71 (S : pm_S) (d : Nat) (L : List Value) (x : Int32) (r : List Value) (M : pm_M) : fr S (d) (54, 71, L, .int x :: r) M = if x = 0 then fr S d (54, 120, L, r) M else fr S d (54, 74, L, r) M := (fr_eq S (d) (54, 71, L, .int x :: r) M).trans (x_oc1eq _ _ 54 74 120 L r x M)
theorem f54_74 (S : pm_S) (d : Nat) (L : List Value) (st : List Value) (M : pm_M) : fr S (d) (54, 74, L, st) M = if pm_ty (L.getD 0 pm_U) = 2 then fr S d (54, 75, L, L.getD 0 pm_U :: st) M else none := (fr_eq S (d) (54, 74, L, st) M).trans (x_old _ _ 2 0 54 75 L st M)
theorem f54_75 (S : pm_S) (d : Nat) (L : List Value) (st : List Value) (M : pm_M) : fr S (d) (54, 75, L, st) M = if pm_ty (L.getD 0 pm_U) = 2 then fr S d (54, 76, L, L.getD 0 pm_U :: st) M else none := (fr_eq S (d) (54, 75, L, st) M).trans (x_old _ _ 2 0 54 76 L st M)
theorem f54_76 (S : pm_S) (d : Nat) (L : List Value) (q : Nat) (r : List Value) (M : pm_M) : fr S (d) (54, 76, L, .ref q :: r) M = match pm_get M q with
  | some (.inr (c, fs)) => if c = 0 ∧ 10 < fs.length then fr S d (54, 79, L, fs.getD 10 pm_U :: r) M else none
  | _ => none := (fr_eq S (d) (54, 76, L, .ref q :: r) M).trans (x_ogf _ _ 0 10 54 79 L r q M)
theorem f54_79 (S : pm_S) (d : Nat) (L : List Value) (q : Nat) (r : List Value) (M : pm_M) : fr S (d) (54, 79, L, .ref q :: r) M = match pm_get M q with
  | some (.inr (c, fs)) => if c = 2 ∧ 3 < fs.length then fr S d (54, 82, L, fs.getD 3 pm_U :: r) M else none
  | _ => none := (fr_eq S (d) (54, 79, L, .ref q :: r) M).trans (x_ogf _ _ 2 3 54 82 L r q M)
theorem f54_82 (S : pm_S) (d : Nat) (L : List Value) (st : List Value) (M : pm_M) : fr S (d) (54, 82, L, st) M = if pm_ty (L.getD 6 pm_U) = 0 then fr S d (54, 84, L, L.getD 6 pm_U :: st) M else none := (fr_eq S (d) (54, 82, L, st) M).trans (x_old _ _ 0 6 54 84 L st M)
theorem f54_84 (S : pm_S) (d : Nat) (L : List Value) (x y : Int32) (r : List Value) (M : pm_M) : fr S (d) (54, 84, L, .int y :: .int x :: r) M = fr S d (54, 85, L, .int (x + y) :: r) M := (fr_eq S (d) (54, 84, L, .int y :: .int x :: r) M).trans (x_oii _ _ (fun x y => x + y) 54 85 L r x y M)
theorem f54_85 (S : pm_S) (d : Nat) (L : List Value) (st : List Value) (M : pm_M) : fr S (d + 1) (54, 85, L, st) M = match pm_ag 2 [] st with
  | some (a, r) => if r.length ≤ 4 ∧ (1 = 0 ∨ pm_obj M 0 (a.headD pm_U) = true) then (match fr S d (55, 0, a ++ [], []) M with
    | none => none
    | some (.inl v, M') => fr S (d + 1) (54, 88, L, v.toList ++ r) M'
    | some (.inr E, M') => some (.inr E, M')) else none
  | none => none := (fr_eq S (d + 1) (54, 85, L, st) M).trans (x_ocl _ _ 1 55 2 0 [] 54 88 L st M)
theorem f54_88 (S : pm_S) (d : Nat) (L : List Value) (x : Int32) (r : List Value) (M : pm_M) : fr S (d) (54, 88, L, .int x :: r) M = if ¬ x = 0 then fr S d (54, 120, L, r) M else fr S d (54, 91, L, r) M := (fr_eq S (d) (54, 88, L, .int x :: r) M).trans (x_oc1ne _ _ 54 91 120 L r x M)
theorem f54_91 (S : pm_S) (d : Nat) (L : List Value) (st : List Value) (M : pm_M) : fr S (d) (54, 91, L, st) M = if pm_ty (L.getD 0 pm_U) = 2 then fr S d (54, 92, L, L.getD 0 pm_U :: st) M else none := (fr_eq S (d) (54, 91, L, st) M).trans (x_old _ _ 2 0 54 92 L st M)
theorem f54_92 (S : pm_S) (d : Nat) (L : List Value) (q : Nat) (r : List Value) (M : pm_M) : fr S (d) (54, 92, L, .ref q :: r) M = match pm_get M q with
  | some (.inr (c, fs)) => if c = 0 ∧ 10 < fs.length then fr S d (54, 95, L, fs.getD 10 pm_U :: r) M else none
  | _ => none := (fr_eq S (d) (54, 92, L, .ref q :: r) M).trans (x_ogf _ _ 0 10 54 95 L r q M)
theorem f54_95 (S : pm_S) (d : Nat) (L : List Value) (st : List Value) (M : pm_M) : fr S (d) (54, 95, L, st) M = if pm_ty (L.getD 1 pm_U) = 2 then fr S d (54, 96, L, L.getD 1 pm_U :: st) M else none := (fr_eq S (d) (54, 95, L, st) M).trans (x_old _ _ 2 1 54 96 L st M)
theorem f54_96 (S : pm_S) (d : Nat) (L : List Value) (st : List Value) (M : pm_M) : fr S (d) (54, 96, L, st) M = if pm_ty (L.getD 3 pm_U) = 0 then fr S d (54, 97, L, L.getD 3 pm_U :: st) M else none := (fr_eq S (d) (54, 96, L, st) M).trans (x_old _ _ 0 3 54 97 L st M)
theorem f54_97 (S : pm_S) (d : Nat) (L : List Value) (st : List Value) (M : pm_M) : fr S (d) (54, 97, L, st) M = if pm_ty (L.getD 6 pm_U) = 0 then fr S d (54, 99, L, L.getD 6 pm_U :: st) M else none := (fr_eq S (d) (54, 97, L, st) M).trans (x_old _ _ 0 6 54 99 L st M)
theorem f54_99 (S : pm_S) (d : Nat) (L : List Value) (st : List Value) (M : pm_M) : fr S (d + 1) (54, 99, L, st) M = match pm_ag 4 [] st with
  | some (a, r) => if r.length ≤ 4 ∧ (1 = 0 ∨ pm_obj M 2 (a.headD pm_U) = true) then (match fr S d (77, 0, a ++ [], []) M with
    | none => none
    | some (.inl v, M') => fr S (d + 1) (54, 102, L, v.toList ++ r) M'
    | some (.inr E, M') => some (.inr E, M')) else none
  | none => none := (fr_eq S (d + 1) (54, 99, L, st) M).trans (x_ocl _ _ 1 77 4 2 [] 54 102 L st M)
theorem f54_102 (S : pm_S) (d : Nat) (L : List Value) (st : List Value) (M : pm_M) : fr S (d) (54, 102, L, st) M = if pm_ty (L.getD 0 pm_U) = 2 then fr S d (54, 103, L, L.getD 0 pm_U :: st) M else none := (fr_eq S (d) (54, 102, L, st) M).trans (x_old _ _ 2 0 54 103 L st M)
theorem f54_103 (S : pm_S) (d : Nat) (L : List Value) (st : List Value) (M : pm_M) : fr S (d) (54, 103, L, st) M = if pm_ty (L.getD 2 pm_U) = 0 then fr S d (54, 104, L, L.getD 2 pm_U :: st) M else none := (fr_eq S (d) (54, 103, L, st) M).trans (x_old _ _ 0 2 54 104 L st M)
theorem f54_104 (S : pm_S) (d : Nat) (L : List Value) (st : List Value) (M : pm_M) : fr S (d) (54, 104, L, st) M = if pm_ty (L.getD 4 pm_U) = 0 then fr S d (54, 106, L, L.getD 4 pm_U :: st) M else none := (fr_eq S (d) (54, 104, L, st) M).trans (x_old _ _ 0 4 54 106 L st M)
theorem f54_106 (S : pm_S) (d : Nat) (L : List Value) (st : List Value) (M : pm_M) : fr S (d) (54, 106, L, st) M = fr S d (54, 107, L, .int 1 :: st) M := (fr_eq S (d) (54, 106, L, st) M).trans (x_ocs _ _ (.int 1) 54 107 L st M)
theorem f54_107 (S : pm_S) (d : Nat) (L : List Value) (x y : Int32) (r : List Value) (M : pm_M) : fr S (d) (54, 107, L, .int y :: .int x :: r) M = fr S d (54, 108, L, .int (x + y) :: r) M := (fr_eq S (d) (54, 107, L, .int y :: .int x :: r) M).trans (x_oii _ _ (fun x y => x + y) 54 108 L r x y M)
theorem f54_108 (S : pm_S) (d : Nat) (L : List Value) (st : List Value) (M : pm_M) : fr S (d + 1) (54, 108, L, st) M = match pm_ag 3 [] st with
  | some (a, r) => if r.length ≤ 4 ∧ (1 = 0 ∨ pm_obj M 0 (a.headD pm_U) = true) then (match fr S d (53, 0, a ++ [pm_U, pm_U], []) M with
    | none => none
    | some (.inl v, M') => fr S (d + 1) (54, 111, L, v.toList ++ r) M'
    | some (.inr E, M') => some (.inr E, M')) else none
  | none => none := (fr_eq S (d + 1) (54, 108, L, st) M).trans (x_ocl _ _ 1 53 3 0 [pm_U, pm_U] 54 111 L st M)
theorem f54_111 (S : pm_S) (d : Nat) (L : List Value) (st : List Value) (M : pm_M) : fr S (d) (54, 111, L, st) M = if pm_ty (L.getD 0 pm_U) = 2 then fr S d (54, 112, L, L.getD 0 pm_U :: st) M else none := (fr_eq S (d) (54, 111, L, st) M).trans (x_old _ _ 2 0 54 112 L st M)
theorem f54_112 (S : pm_S) (d : Nat) (L : List Value) (q : Nat) (r : List Value) (M : pm_M) : fr S (d) (54, 112, L, .ref q :: r) M = match pm_get M q with
  | some (.inr (c, fs)) => if c = 0 ∧ 10 < fs.length then fr S d (54, 115, L, fs.getD 10 pm_U :: r) M else none
  | _ => none := (fr_eq S (d) (54, 112, L, .ref q :: r) M).trans (x_ogf _ _ 0 10 54 115 L r q M)
theorem f54_115 (S : pm_S) (d : Nat) (L : List Value) (st : List Value) (M : pm_M) : fr S (d) (54, 115, L, st) M = if pm_ty (L.getD 6 pm_U) = 0 then fr S d (54, 117, L, L.getD 6 pm_U :: st) M else none := (fr_eq S (d) (54, 115, L, st) M).trans (x_old _ _ 0 6 54 117 L st M)
theorem f54_117 (S : pm_S) (d : Nat) (L : List Value) (st : List Value) (M : pm_M) : fr S (d + 1) (54, 117, L, st) M = match pm_ag 2 [] st with
  | some (a, r) => if r.length ≤ 4 ∧ (1 = 0 ∨ pm_obj M 2 (a.headD pm_U) = true) then (match fr S d (78, 0, a ++ [], []) M with
    | none => none
    | some (.inl v, M') => fr S (d + 1) (54, 120, L, v.toList ++ r) M'
    | some (.inr E, M') => some (.inr E, M')) else none
  | none => none := (fr_eq S (d + 1) (54, 117, L, st) M).trans (x_ocl _ _ 1 78 2 2 [] 54 120 L st M)
theorem f54_120 (S : pm_S) (d : Nat) (L : List Value) (st : List Value) (M : pm_M) : fr S (d) (54, 120, L, st) M = if pm_ty (L.getD 0 pm_U) = 2 then fr S d (54, 121, L, L.getD 0 pm_U :: st) M else none := (fr_eq S (d) (54, 120, L, st) M).trans (x_old _ _ 2 0 54 121 L st M)
theorem f54_121 (S : pm_S) (d : Nat) (L : List Value) (st : List Value) (M : pm_M) : fr S (d) (54, 121, L, st) M = if pm_ty (L.getD 1 pm_U) = 2 then fr S d (54, 122, L, L.getD 1 pm_U :: st) M else none := (fr_eq S (d) (54, 121, L, st) M).trans (x_old _ _ 2 1 54 122 L st M)
theorem f54_122 (S : pm_S) (d : Nat) (L : List Value) (st : List Value) (M : pm_M) : fr S (d + 1) (54, 122, L, st) M = match pm_ag 2 [] st with
  | some (a, r) => if r.length ≤ 4 ∧ (1 = 0 ∨ pm_obj M 0 (a.headD pm_U) = true) then (match fr S d (34, 0, a ++ [], []) M with
    | none => none
    | some (.inl v, M') => fr S (d + 1) (54, 125, L, v.toList ++ r) M'
    | some (.inr E, M') => some (.inr E, M')) else none
  | none => none := (fr_eq S (d + 1) (54, 122, L, st) M).trans (x_ocl _ _ 1 34 2 0 [] 54 125 L st M)
theorem f54_125 (S : pm_S) (d : Nat) (L : List Value)  (M : pm_M) : fr S (d) (54, 125, L, []) M = some (.inl none, M) := (fr_eq S (d) (54, 125, L, []) M).trans (x_orv _ _ M)
theorem f55_0 (S : pm_S) (d : Nat) (L : List Value) (st : List Value) (M : pm_M) : fr S (d) (55, 0, L, st) M = if pm_ty (L.getD 0 pm_U) = 2 then fr S d (55, 1, L, L.getD 0 pm_U :: st) M else none := (fr_eq S (d) (55, 0, L, st) M).trans (x_old _ _ 2 0 55 1 L st M)
theorem f55_1 (S : pm_S) (d : Nat) (L : List Value) (q : Nat) (r : List Value) (M : pm_M) : fr S (d) (55, 1, L, .ref q :: r) M = match pm_get M q with
  | some (.inr (c, fs)) => if c = 0 ∧ 11 < fs.length then fr S d (55, 4, L, fs.getD 11 pm_U :: r) M else none
  | _ => none := (fr_eq S (d) (55, 1, L, .ref q :: r) M).trans (x_ogf _ _ 0 11 55 4 L r q M)
theorem f55_4 (S : pm_S) (d : Nat) (L : List Value) (q : Nat) (r : List Value) (M : pm_M) : fr S (d) (55, 4, L, .ref q :: r) M = match pm_get M q with
  | some (.inr (c, fs)) => if c = 2 ∧ 2 < fs.length then fr S d (55, 7, L, fs.getD 2 pm_U :: r) M else none
  | _ => none := (fr_eq S (d) (55, 4, L, .ref q :: r) M).trans (x_ogf _ _ 2 2 55 7 L r q M)
theorem f55_7 (S : pm_S) (d : Nat) (L : List Value) (st : List Value) (M : pm_M) : fr S (d) (55, 7, L, st) M = if pm_ty (L.getD 0 pm_U) = 2 then fr S d (55, 8, L, L.getD 0 pm_U :: st) M else none := (fr_eq S (d) (55, 7, L, st) M).trans (x_old _ _ 2 0 55 8 L st M)
theorem f55_8 (S : pm_S) (d : Nat) (L : List Value) (q : Nat) (r : List Value) (M : pm_M) : fr S (d) (55, 8, L, .ref q :: r) M = match pm_get M q with
  | some (.inr (c, fs)) => if c = 0 ∧ 9 < fs.length then fr S d (55, 11, L, fs.getD 9 pm_U :: r) M else none
  | _ => none := (fr_eq S (d) (55, 8, L, .ref q :: r) M).trans (x_ogf _ _ 0 9 55 11 L r q M)
theorem f55_11 (S : pm_S) (d : Nat) (L : List Value) (x y : Int32) (r : List Value) (M : pm_M) : fr S (d) (55, 11, L, .int y :: .int x :: r) M = if ¬ x = y then fr S d (55, 29, L, r) M else fr S d (55, 14, L, r) M := (fr_eq S (d) (55, 11, L, .int y :: .int x :: r) M).trans (x_oc2ne _ _ 55 14 29 L r x y M)
theorem f55_14 (S : pm_S) (d : Nat) (L : List Value) (st : List Value) (M : pm_M) : fr S (d) (55, 14, L, st) M = if pm_ty (L.getD 1 pm_U) = 0 then fr S d (55, 15, L, L.getD 1 pm_U :: st) M else none := (fr_eq S (d) (55, 14, L, st) M).trans (x_old _ _ 0 1 55 15 L st M)
theorem f55_15 (S : pm_S) (d : Nat) (L : List Value) (st : List Value) (M : pm_M) : fr S (d) (55, 15, L, st) M = if pm_ty (L.getD 0 pm_U) = 2 then fr S d (55, 16, L, L.getD 0 pm_U :: st) M else none := (fr_eq S (d) (55, 15, L, st) M).trans (x_old _ _ 2 0 55 16 L st M)
theorem f55_16 (S : pm_S) (d : Nat) (L : List Value) (q : Nat) (r : List Value) (M : pm_M) : fr S (d) (55, 16, L, .ref q :: r) M = match pm_get M q with
  | some (.inr (c, fs)) => if c = 0 ∧ 11 < fs.length then fr S d (55, 19, L, fs.getD 11 pm_U :: r) M else none
  | _ => none := (fr_eq S (d) (55, 16, L, .ref q :: r) M).trans (x_ogf _ _ 0 11 55 19 L r q M)
theorem f55_19 (S : pm_S) (d : Nat) (L : List Value) (q : Nat) (r : List Value) (M : pm_M) : fr S (d) (55, 19, L, .ref q :: r) M = match pm_get M q with
  | some (.inr (c, fs)) => if c = 2 ∧ 3 < fs.length then fr S d (55, 22, L, fs.getD 3 pm_U :: r) M else none
  | _ => none := (fr_eq S (d) (55, 19, L, .ref q :: r) M).trans (x_ogf _ _ 2 3 55 22 L r q M)
theorem f55_22 (S : pm_S) (d : Nat) (L : List Value) (x y : Int32) (r : List Value) (M : pm_M) : fr S (d) (55, 22, L, .int y :: .int x :: r) M = if x < y then fr S d (55, 29, L, r) M else fr S d (55, 25, L, r) M := (fr_eq S (d) (55, 22, L, .int y :: .int x :: r) M).trans (x_oc2lt _ _ 55 25 29 L r x y M)
theorem f55_25 (S : pm_S) (d : Nat) (L : List Value) (st : List Value) (M : pm_M) : fr S (d) (55, 25, L, st) M = fr S d (55, 26, L, .int 1 :: st) M := (fr_eq S (d) (55, 25, L, st) M).trans (x_ocs _ _ (.int 1) 55 26 L st M)
theorem f55_26 (S : pm_S) (d : Nat) (L : List Value) (st : List Value) (M : pm_M) : fr S (d) (55, 26, L, st) M = fr S d (55, 30, L, st) M := (fr_eq S (d) (55, 26, L, st) M).trans (x_ogo _ _ 55 30 L st M)
theorem f55_29 (S : pm_S) (d : Nat) (L : List Value) (st : List Value) (M : pm_M) : fr S (d) (55, 29, L, st) M = fr S d (55, 30, L, .int 0 :: st) M := (fr_eq S (d) (55, 29, L, st) M).trans (x_ocs _ _ (.int 0) 55 30 L st M)
theorem f55_30 (S : pm_S) (d : Nat) (L : List Value) (v : Value) (M : pm_M) : fr S (d) (55, 30, L, [v]) M = if pm_fit 3 v = true then some (.inl (some v), M) else none := (fr_eq S (d) (55, 30, L, [v]) M).trans (x_ort _ _ 3 v M)
theorem f56_0 (S : pm_S) (d : Nat) (L : List Value) (st : List Value) (M : pm_M) : fr S (d) (56, 0, L, st) M = if pm_ty (L.getD 0 pm_U) = 2 then fr S d (56, 1, L, L.getD 0 pm_U :: st) M else none := (fr_eq S (d) (56, 0, L, st) M).trans (x_old _ _ 2 0 56 1 L st M)
theorem f56_1 (S : pm_S) (d : Nat) (L : List Value) (st : List Value) (M : pm_M) : fr S (d) (56, 1, L, st) M = if pm_ty (L.getD 2 pm_U) = 0 then fr S d (56, 2, L, L.getD 2 pm_U :: st) M else none := (fr_eq S (d) (56, 1, L, st) M).trans (x_old _ _ 0 2 56 2 L st M)
theorem f56_2 (S : pm_S) (d : Nat) (L : List Value) (st : List Value) (M : pm_M) : fr S (d) (56, 2, L, st) M = if pm_ty (L.getD 3 pm_U) = 0 then fr S d (56, 3, L, L.getD 3 pm_U :: st) M else none := (fr_eq S (d) (56, 2, L, st) M).trans (x_old _ _ 0 3 56 3 L st M)
theorem f56_3 (S : pm_S) (d : Nat) (L : List Value) (st : List Value) (M : pm_M) : fr S (d + 1) (56, 3, L, st) M = match pm_ag 3 [] st with
  | some (a, r) => if r.length ≤ 4 ∧ (1 = 0 ∨ pm_obj M 0 (a.headD pm_U) = true) then (match fr S d (57, 0, a ++ [pm_U], []) M with
    | none => none
    | some (.inl v, M') => fr S (d + 1) (56, 6, L, v.toList ++ r) M'
    | some (.inr E, M') => some (.inr E, M')) else none
  | none => none := (fr_eq S (d + 1) (56, 3, L, st) M).trans (x_ocl _ _ 1 57 3 0 [pm_U] 56 6 L st M)
theorem f56_6 (S : pm_S) (d : Nat) (L : List Value) (v : Value) (r : List Value) (M : pm_M) : fr S (d) (56, 6, L, v :: r) M = if pm_ty v = 0 ∧ 4 < L.length ∧ ¬ pm_ty (L.getD (4 - 1) pm_U) = 1 then fr S d (56, 8, L.set 4 v, r) M else none := (fr_eq S (d) (56, 6, L, v :: r) M).trans (x_ost _ _ 0 4 56 8 L r v M)
theorem f56_8 (S : pm_S) (d : Nat) (L : List Value) (st : List Value) (M : pm_M) : fr S (d) (56, 8, L, st) M = if pm_ty (L.getD 1 pm_U) = 2 then fr S d (56, 9, L, L.getD 1 pm_U :: st) M else none := (fr_eq S (d) (56, 8, L, st) M).trans (x_old _ _ 2 1 56 9 L st M)
theorem f56_9 (S : pm_S) (d : Nat) (L : List Value) (v : Value) (r : List Value) (M : pm_M) : fr S (d) (56, 9, L, v :: r) M = if pm_ty v = 2 then (if v = .null then fr S d (56, 23, L, r) M else fr S d (56, 12, L, r) M) else none := (fr_eq S (d) (56, 9, L, v :: r) M).trans (x_onu _ _ 23 12 56 L r v M)
theorem f56_12 (S : pm_S) (d : Nat) (L : List Value) (st : List Value) (M : pm_M) : fr S (d) (56, 12, L, st) M = if pm_ty (L.getD 0 pm_U) = 2 then fr S d (56, 13, L, L.getD 0 pm_U :: st) M else none := (fr_eq S (d) (56, 12, L, st) M).trans (x_old _ _ 2 0 56 13 L st M)
theorem f56_13 (S : pm_S) (d : Nat) (L : List Value) (st : List Value) (M : pm_M) : fr S (d) (56, 13, L, st) M = if pm_ty (L.getD 2 pm_U) = 0 then fr S d (56, 14, L, L.getD 2 pm_U :: st) M else none := (fr_eq S (d) (56, 13, L, st) M).trans (x_old _ _ 0 2 56 14 L st M)
theorem f56_14 (S : pm_S) (d : Nat) (L : List Value) (st : List Value) (M : pm_M) : fr S (d) (56, 14, L, st) M = if pm_ty (L.getD 3 pm_U) = 0 then fr S d (56, 15, L, L.getD 3 pm_U :: st) M else none := (fr_eq S (d) (56, 14, L, st) M).trans (x_old _ _ 0 3 56 15 L st M)
theorem f56_15 (S : pm_S) (d : Nat) (L : List Value) (st : List Value) (M : pm_M) : fr S (d) (56, 15, L, st) M = if pm_ty (L.getD 4 pm_U) = 0 then fr S d (56, 17, L, L.getD 4 pm_U :: st) M else none := (fr_eq S (d) (56, 15, L, st) M).trans (x_old _ _ 0 4 56 17 L st M)
theorem f56_17 (S : pm_S) (d : Nat) (L : List Value) (st : List Value) (M : pm_M) : fr S (d + 1) (56, 17, L, st) M = match pm_ag 4 [] st with
  | some (a, r) => if r.length ≤ 4 ∧ (1 = 0 ∨ pm_obj M 0 (a.headD pm_U) = true) then (match fr S d (27, 0, a ++ [], []) M with
    | none => none
    | some (.inl v, M') => fr S (d + 1) (56, 20, L, v.toList ++ r) M'
    | some (.inr E, M') => some (.inr E, M')) else none
  | none => none := (fr_eq S (d + 1) (56, 17, L, st) M).trans (x_ocl _ _ 1 27 4 0 [] 56 20 L st M)
theorem f56_20 (S : pm_S) (d : Nat) (L : List Value) (x : Int32) (r : List Value) (M : pm_M) : fr S (d) (56, 20, L, .int x :: r) M = if ¬ x = 0 then fr S d (56, 25, L, r) M else fr S d (56, 23, L, r) M := (fr_eq S (d) (56, 20, L, .int x :: r) M).trans (x_oc1ne _ _ 56 23 25 L r x M)
theorem f56_23 (S : pm_S) (d : Nat) (L : List Value) (st : List Value) (M : pm_M) : fr S (d) (56, 23, L, st) M = fr S d (56, 24, L, .int 0 :: st) M := (fr_eq S (d) (56, 23, L, st) M).trans (x_ocs _ _ (.int 0) 56 24 L st M)
theorem f56_24 (S : pm_S) (d : Nat) (L : List Value) (v : Value) (M : pm_M) : fr S (d) (56, 24, L, [v]) M = if pm_fit 3 v = true then some (.inl (some v), M) else none := (fr_eq S (d) (56, 24, L, [v]) M).trans (x_ort _ _ 3 v M)
theorem f56_25 (S : pm_S) (d : Nat) (L : List Value) (st : List Value) (M : pm_M) : fr S (d) (56, 25, L, st) M = if pm_ty (L.getD 0 pm_U) = 2 then fr S d (56, 26, L, L.getD 0 pm_U :: st) M else none := (fr_eq S (d) (56, 25, L, st) M).trans (x_old _ _ 2 0 56 26 L st M)
theorem f56_26 (S : pm_S) (d : Nat) (L : List Value) (st : List Value) (M : pm_M) : fr S (d) (56, 26, L, st) M = if pm_ty (L.getD 1 pm_U) = 2 then fr S d (56, 27, L, L.getD 1 pm_U :: st) M else none := (fr_eq S (d) (56, 26, L, st) M).trans (x_old _ _ 2 1 56 27 L st M)
theorem f56_27 (S : pm_S) (d : Nat) (L : List Value) (st : List Value) (M : pm_M) : fr S (d) (56, 27, L, st) M = if pm_ty (L.getD 2 pm_U) = 0 then fr S d (56, 28, L, L.getD 2 pm_U :: st) M else none := (fr_eq S (d) (56, 27, L, st) M).trans (x_old _ _ 0 2 56 28 L st M)
theorem f56_28 (S : pm_S) (d : Nat) (L : List Value) (st : List Value) (M : pm_M) : fr S (d) (56, 28, L, st) M = if pm_ty (L.getD 3 pm_U) = 0 then fr S d (56, 29, L, L.getD 3 pm_U :: st) M else none := (fr_eq S (d) (56, 28, L, st) M).trans (x_old _ _ 0 3 56 29 L st M)
theorem f56_29 (S : pm_S) (d : Nat) (L : List Value) (st : List Value) (M : pm_M) : fr S (d) (56, 29, L, st) M = if pm_ty (L.getD 4 pm_U) = 0 then fr S d (56, 31, L, L.getD 4 pm_U :: st) M else none := (fr_eq S (d) (56, 29, L, st) M).trans (x_old _ _ 0 4 56 31 L st M)
theorem f56_31 (S : pm_S) (d : Nat) (L : List Value) (st : List Value) (M : pm_M) : fr S (d + 1) (56, 31, L, st) M = match pm_ag 5 [] st with
  | some (a, r) => if r.length ≤ 4 ∧ (1 = 0 ∨ pm_obj M 0 (a.headD pm_U) = true) then (match fr S d (33, 0, a ++ [], []) M with
    | none => none
    | some (.inl v, M') => fr S (d + 1) (56, 34, L, v.toList ++ r) M'
    | some (.inr E, M') => some (.inr E, M')) else none
  | none => none := (fr_eq S (d + 1) (56, 31, L, st) M).trans (x_ocl _ _ 1 33 5 0 [] 56 34 L st M)
theorem f56_34 (S : pm_S) (d : Nat) (L : List Value) (st : List Value) (M : pm_M) : fr S (d) (56, 34, L, st) M = fr S d (56, 35, L, .int 1 :: st) M := (fr_eq S (d) (56, 34, L, st) M).trans (x_ocs _ _ (.int 1) 56 35 L st M)
theorem f56_35 (S : pm_S) (d : Nat) (L : List Value) (v : Value) (M : pm_M) : fr S (d) (56, 35, L, [v]) M = if pm_fit 3 v = true then some (.inl (some v), M) else none := (fr_eq S (d) (56, 35, L, [v]) M).trans (x_ort _ _ 3 v M)
theorem f57_0 (S : pm_S) (d : Nat) (L : List Value) (st : List Value) (M : pm_M) : fr S (d) (57, 0, L, st) M = if pm_ty (L.getD 0 pm_U) = 2 then fr S d (57, 1, L, L.getD 0 pm_U :: st) M else none := (fr_eq S (d) (57, 0, L, st) M).trans (x_old _ _ 2 0 57 1 L st M)
theorem f57_1 (S : pm_S) (d : Nat) (L : List Value) (q : Nat) (r : List Value) (M : pm_M) : fr S (d) (57, 1, L, .ref q :: r) M = match pm_get M q with
  | some (.inr (c, fs)) => if c = 0 ∧ 2 < fs.length then fr S d (57, 4, L, fs.getD 2 pm_U :: r) M else none
  | _ => none := (fr_eq S (d) (57, 1, L, .ref q :: r) M).trans (x_ogf _ _ 0 2 57 4 L r q M)
theorem f57_4 (S : pm_S) (d : Nat) (L : List Value) (v : Value) (r : List Value) (M : pm_M) : fr S (d) (57, 4, L, v :: r) M = if pm_ty v = 0 ∧ 3 < L.length ∧ ¬ pm_ty (L.getD (3 - 1) pm_U) = 1 then fr S d (57, 5, L.set 3 v, r) M else none := (fr_eq S (d) (57, 4, L, v :: r) M).trans (x_ost _ _ 0 3 57 5 L r v M)
theorem f57_5 (S : pm_S) (d : Nat) (L : List Value) (st : List Value) (M : pm_M) : fr S (d) (57, 5, L, st) M = if pm_ty (L.getD 3 pm_U) = 0 then fr S d (57, 6, L, L.getD 3 pm_U :: st) M else none := (fr_eq S (d) (57, 5, L, st) M).trans (x_old _ _ 0 3 57 6 L st M)
theorem f57_6 (S : pm_S) (d : Nat) (L : List Value) (x : Int32) (r : List Value) (M : pm_M) : fr S (d) (57, 6, L, .int x :: r) M = if x ≤ 0 then fr S d (57, 27, L, r) M else fr S d (57, 9, L, r) M := (fr_eq S (d) (57, 6, L, .int x :: r) M).trans (x_oc1le _ _ 57 9 27 L r x M)
theorem f57_9 (S : pm_S) (d : Nat) (L : List Value) (st : List Value) (M : pm_M) : fr S (d) (57, 9, L, st) M = if pm_ty (L.getD 0 pm_U) = 2 then fr S d (57, 10, L, L.getD 0 pm_U :: st) M else none := (fr_eq S (d) (57, 9, L, st) M).trans (x_old _ _ 2 0 57 10 L st M)
theorem f57_10 (S : pm_S) (d : Nat) (L : List Value) (st : List Value) (M : pm_M) : fr S (d) (57, 10, L, st) M = if pm_ty (L.getD 1 pm_U) = 0 then fr S d (57, 11, L, L.getD 1 pm_U :: st) M else none := (fr_eq S (d) (57, 10, L, st) M).trans (x_old _ _ 0 1 57 11 L st M)
theorem f57_11 (S : pm_S) (d : Nat) (L : List Value) (st : List Value) (M : pm_M) : fr S (d) (57, 11, L, st) M = if pm_ty (L.getD 2 pm_U) = 0 then fr S d (57, 12, L, L.getD 2 pm_U :: st) M else none := (fr_eq S (d) (57, 11, L, st) M).trans (x_old _ _ 0 2 57 12 L st M)
theorem f57_12 (S : pm_S) (d : Nat) (L : List Value) (st : List Value) (M : pm_M) : fr S (d) (57, 12, L, st) M = if pm_ty (L.getD 3 pm_U) = 0 then fr S d (57, 13, L, L.getD 3 pm_U :: st) M else none := (fr_eq S (d) (57, 12, L, st) M).trans (x_old _ _ 0 3 57 13 L st M)
theorem f57_13 (S : pm_S) (d : Nat) (L : List Value) (st : List Value) (M : pm_M) : fr S (d) (57, 13, L, st) M = fr S d (57, 14, L, .int 1 :: st) M := (fr_eq S (d) (57, 13, L, st) M).trans (x_ocs _ _ (.int 1) 57 14 L st M)
theorem f57_14 (S : pm_S) (d : Nat) (L : List Value) (x y : Int32) (r : List Value) (M : pm_M) : fr S (d) (57, 14, L, .int y :: .int x :: r) M = fr S d (57, 15, L, .int (x - y) :: r) M := (fr_eq S (d) (57, 14, L, .int y :: .int x :: r) M).trans (x_oii _ _ (fun x y => x - y) 57 15 L r x y M)
theorem f57_15 (S : pm_S) (d : Nat) (L : List Value) (st : List Value) (M : pm_M) : fr S (d + 1) (57, 15, L, st) M = match pm_ag 4 [] st with
  | some (a, r) => if r.length ≤ 4 ∧ (1 = 0 ∨ pm_obj M 0 (a.headD pm_U) = true) then (match fr S d (31, 0, a ++ [pm_U], []) M with
    | none => none
    | some (.inl v, M') => fr S (d + 1) (57, 18, L, v.toList ++ r) M'
    | some (.inr E, M') => some (.inr E, M')) else none
  | none => none := (fr_eq S (d + 1) (57, 15, L, st) M).trans (x_ocl _ _ 1 31 4 0 [pm_U] 57 18 L st M)
theorem f57_18 (S : pm_S) (d : Nat) (L : List Value) (v : Value) (r : List Value) (M : pm_M) : fr S (d) (57, 18, L, v :: r) M = if pm_ty v = 2 then (if v = .null then fr S d (57, 21, L, r) M else fr S d (57, 27, L, r) M) else none := (fr_eq S (d) (57, 18, L, v :: r) M).trans (x_onu _ _ 21 27 57 L r v M)
theorem f57_21 (S : pm_S) (d : Nat) (L : List Value) (st : List Value) (M : pm_M) : fr S (d) (57, 21, L, st) M = match L.getD 3 pm_U with
  | .int x => if 3 < L.length ∧ ¬ pm_ty (L.getD (3 - 1) pm_U) = 1 then fr S d (57, 24, L.set 3 (.int (x + (-1))), st) M else none
  | _ => none := (fr_eq S (d) (57, 21, L, st) M).trans (x_oinc _ _ 3 (-1) 57 24 L st M)
theorem f57_24 (S : pm_S) (d : Nat) (L : List Value) (st : List Value) (M : pm_M) : fr S (d) (57, 24, L, st) M = fr S d (57, 5, L, st) M := (fr_eq S (d) (57, 24, L, st) M).trans (x_ogo _ _ 57 5 L st M)
theorem f57_27 (S : pm_S) (d : Nat) (L : List Value) (st : List Value) (M : pm_M) : fr S (d) (57, 27, L, st) M = if pm_ty (L.getD 3 pm_U) = 0 then fr S d (57, 28, L, L.getD 3 pm_U :: st) M else none := (fr_eq S (d) (57, 27, L, st) M).trans (x_old _ _ 0 3 57 28 L st M)
theorem f57_28 (S : pm_S) (d : Nat) (L : List Value) (v : Value) (M : pm_M) : fr S (d) (57, 28, L, [v]) M = if pm_fit 0 v = true then some (.inl (some v), M) else none := (fr_eq S (d) (57, 28, L, [v]) M).trans (x_ort _ _ 0 v M)
