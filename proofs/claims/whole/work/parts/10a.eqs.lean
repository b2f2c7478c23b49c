theorem f10_0 (S : pm_S) (d : Nat) (L : List Value) (st : List Value) (M : pm_M) : fr S (d) (10, 0, L, st) M = if pm_ty (L.getD 0 pm_U) = 2 then fr S d (10, 1, L, L.getD 0 pm_U :: st) M else none := (fr_eq S (d) (10, 0, L, st) M).trans (x_old _ _ 2 0 10 1 L st M)
theorem f10_1 (S : pm_S) (d : Nat) (L : List Value) (q : Nat) (r : List Value) (M : pm_M) : fr S (d) (10, 1, L, .ref q :: r) M = if r.length ≤ 4 then fr S d (10, 4, L, r) M else none := (fr_eq S (d) (10, 1, L, .ref q :: r) M).trans (x_ooi _ _ 10 4 L r q M)
theorem f10_4 (S : pm_S) (d : Nat) (L : List Value) (st : List Value) (M : pm_M) : fr S (d) (10, 4, L, st) M = if pm_ty (L.getD 0 pm_U) = 2 then fr S d (10, 5, L, L.getD 0 pm_U :: st) M else none := (fr_eq S (d) (10, 4, L, st) M).trans (x_old _ _ 2 0 10 5 L st M)
theorem f10_5 (S : pm_S) (d : Nat) (L : List Value) (st : List Value) (M : pm_M) : fr S (d) (10, 5, L, st) M = if pm_ty (L.getD 1 pm_U) = 0 then fr S d (10, 6, L, L.getD 1 pm_U :: st) M else none := (fr_eq S (d) (10, 5, L, st) M).trans (x_old _ _ 0 1 10 6 L st M)
theorem f10_6 (S : pm_S) (d : Nat) (L : List Value) (st : List Value) (M : pm_M) : fr S (d) (10, 6, L, st) M = fr S d (10, 7, L, .int 4 :: st) M := (fr_eq S (d) (10, 6, L, st) M).trans (x_ocs _ _ (.int 4) 10 7 L st M)
theorem f10_7 (S : pm_S) (d : Nat) (L : List Value) (st : List Value) (M : pm_M) : fr S (d + 1) (10, 7, L, st) M = match pm_ag 2 [] st with
  | some (a, r) => if r.length ≤ 4 ∧ (0 = 0 ∨ pm_obj M 0 (a.headD pm_U) = true) then (match fr S d (24, 0, a ++ [], []) M with
    | none => none
    | some (.inl v, M') => fr S (d + 1) (10, 10, L, v.toList ++ r) M'
    | some (.inr E, M') => some (.inr E, M')) else none
  | none => none := (fr_eq S (d + 1) (10, 7, L, st) M).trans (x_ocl _ _ 0 24 2 0 [] 10 10 L st M)
theorem f10_10 (S : pm_S) (d : Nat) (L : List Value) (v : Value) (q : Nat) (r : List Value) (M : pm_M) : fr S (d) (10, 10, L, v :: .ref q :: r) M = match pm_get M q with
  | some (.inr (c, fs)) => if c = 0 ∧ 0 < fs.length ∧ pm_fit 0 v = true then fr S d (10, 13, L, r) (pm_set M q (.inr (c, fs.set 0 v))) else none
  | _ => none := (fr_eq S (d) (10, 10, L, v :: .ref q :: r) M).trans (x_opf _ _ 0 0 0 10 13 L r q v M)
theorem f10_13 (S : pm_S) (d : Nat) (L : List Value) (st : List Value) (M : pm_M) : fr S (d) (10, 13, L, st) M = if pm_ty (L.getD 0 pm_U) = 2 then fr S d (10, 14, L, L.getD 0 pm_U :: st) M else none := (fr_eq S (d) (10, 13, L, st) M).trans (x_old _ _ 2 0 10 14 L st M)
theorem f10_14 (S : pm_S) (d : Nat) (L : List Value) (st : List Value) (M : pm_M) : fr S (d) (10, 14, L, st) M = if pm_ty (L.getD 2 pm_U) = 0 then fr S d (10, 15, L, L.getD 2 pm_U :: st) M else none := (fr_eq S (d) (10, 14, L, st) M).trans (x_old _ _ 0 2 10 15 L st M)
theorem f10_15 (S : pm_S) (d : Nat) (L : List Value) (st : List Value) (M : pm_M) : fr S (d) (10, 15, L, st) M = fr S d (10, 16, L, .int 4 :: st) M := (fr_eq S (d) (10, 15, L, st) M).trans (x_ocs _ _ (.int 4) 10 16 L st M)
theorem f10_16 (S : pm_S) (d : Nat) (L : List Value) (st : List Value) (M : pm_M) : fr S (d + 1) (10, 16, L, st) M = match pm_ag 2 [] st with
  | some (a, r) => if r.length ≤ 4 ∧ (0 = 0 ∨ pm_obj M 0 (a.headD pm_U) = true) then (match fr S d (24, 0, a ++ [], []) M with
    | none => none
    | some (.inl v, M') => fr S (d + 1) (10, 19, L, v.toList ++ r) M'
    | some (.inr E, M') => some (.inr E, M')) else none
  | none => none := (fr_eq S (d + 1) (10, 16, L, st) M).trans (x_ocl _ _ 0 24 2 0 [] 10 19 L st M)
theorem f10_19 (S : pm_S) (d : Nat) (L : List Value) (v : Value) (q : Nat) (r : List Value) (M : pm_M) : fr S (d) (10, 19, L, v :: .ref q :: r) M = match pm_get M q with
  | some (.inr (c, fs)) => if c = 0 ∧ 1 < fs.length ∧ pm_fit 0 v = true then fr S d (10, 22, L, r) (pm_set M q (.inr (c, fs.set 1 v))) else none
  | _ => none := (fr_eq S (d) (10, 19, L, v :: .ref q :: r) M).trans (x_opf _ _ 0 1 0 10 22 L r q v M)
theorem f10_22 (S : pm_S) (d : Nat) (L : List Value) (st : List Value) (M : pm_M) : fr S (d) (10, 22, L, st) M = if pm_ty (L.getD 0 pm_U) = 2 then fr S d (10, 23, L, L.getD 0 pm_U :: st) M else none := (fr_eq S (d) (10, 22, L, st) M).trans (x_old _ _ 2 0 10 23 L st M)
theorem f10_23 (S : pm_S) (d : Nat) (L : List Value) (st : List Value) (M : pm_M) : fr S (d) (10, 23, L, st) M = if pm_ty (L.getD 3 pm_U) = 0 then fr S d (10, 24, L, L.getD 3 pm_U :: st) M else none := (fr_eq S (d) (10, 23, L, st) M).trans (x_old _ _ 0 3 10 24 L st M)
theorem f10_24 (S : pm_S) (d : Nat) (L : List Value) (st : List Value) (M : pm_M) : fr S (d) (10, 24, L, st) M = fr S d (10, 25, L, .int 5 :: st) M := (fr_eq S (d) (10, 24, L, st) M).trans (x_ocs _ _ (.int 5) 10 25 L st M)
theorem f10_25 (S : pm_S) (d : Nat) (L : List Value) (st : List Value) (M : pm_M) : fr S (d + 1) (10, 25, L, st) M = match pm_ag 2 [] st with
  | some (a, r) => if r.length ≤ 4 ∧ (0 = 0 ∨ pm_obj M 0 (a.headD pm_U) = true) then (match fr S d (24, 0, a ++ [], []) M with
    | none => none
    | some (.inl v, M') => fr S (d + 1) (10, 28, L, v.toList ++ r) M'
    | some (.inr E, M') => some (.inr E, M')) else none
  | none => none := (fr_eq S (d + 1) (10, 25, L, st) M).trans (x_ocl _ _ 0 24 2 0 [] 10 28 L st M)
theorem f10_28 (S : pm_S) (d : Nat) (L : List Value) (v : Value) (q : Nat) (r : List Value) (M : pm_M) : fr S (d) (10, 28, L, v :: .ref q :: r) M = match pm_get M q with
  | some (.inr (c, fs)) => if c = 0 ∧ 2 < fs.length ∧ pm_fit 0 v = true then fr S d (10, 31, L, r) (pm_set M q (.inr (c, fs.set 2 v))) else none
  | _ => none := (fr_eq S (d) (10, 28, L, v :: .ref q :: r) M).trans (x_opf _ _ 0 2 0 10 31 L r q v M)
theorem f10_31 (S : pm_S) (d : Nat) (L : List Value) (st : List Value) (M : pm_M) : fr S (d) (10, 31, L, st) M = if pm_ty (L.getD 0 pm_U) = 2 then fr S d (10, 32, L, L.getD 0 pm_U :: st) M else none := (fr_eq S (d) (10, 31, L, st) M).trans (x_old _ _ 2 0 10 32 L st M)
theorem f10_32 (S : pm_S) (d : Nat) (L : List Value) (q : Nat) (r : List Value) (M : pm_M) : fr S (d) (10, 32, L, .ref q :: r) M = match pm_get M q with
  | some (.inr (c, fs)) => if c = 0 ∧ 0 < fs.length then fr S d (10, 35, L, fs.getD 0 pm_U :: r) M else none
  | _ => none := (fr_eq S (d) (10, 32, L, .ref q :: r) M).trans (x_ogf _ _ 0 0 10 35 L r q M)
theorem f10_35 (S : pm_S) (d : Nat) (L : List Value) (st : List Value) (M : pm_M) : fr S (d) (10, 35, L, st) M = if pm_ty (L.getD 0 pm_U) = 2 then fr S d (10, 36, L, L.getD 0 pm_U :: st) M else none := (fr_eq S (d) (10, 35, L, st) M).trans (x_old _ _ 2 0 10 36 L st M)
theorem f10_36 (S : pm_S) (d : Nat) (L : List Value) (q : Nat) (r : List Value) (M : pm_M) : fr S (d) (10, 36, L, .ref q :: r) M = match pm_get M q with
  | some (.inr (c, fs)) => if c = 0 ∧ 1 < fs.length then fr S d (10, 39, L, fs.getD 1 pm_U :: r) M else none
  | _ => none := (fr_eq S (d) (10, 36, L, .ref q :: r) M).trans (x_ogf _ _ 0 1 10 39 L r q M)
theorem f10_39 (S : pm_S) (d : Nat) (L : List Value) (x y : Int32) (r : List Value) (M : pm_M) : fr S (d) (10, 39, L, .int y :: .int x :: r) M = fr S d (10, 40, L, .int (x * y) :: r) M := (fr_eq S (d) (10, 39, L, .int y :: .int x :: r) M).trans (x_oii _ _ (fun x y => x * y) 10 40 L r x y M)
theorem f10_40 (S : pm_S) (d : Nat) (L : List Value) (st : List Value) (M : pm_M) : fr S (d) (10, 40, L, st) M = if pm_ty (L.getD 0 pm_U) = 2 then fr S d (10, 41, L, L.getD 0 pm_U :: st) M else none := (fr_eq S (d) (10, 40, L, st) M).trans (x_old _ _ 2 0 10 41 L st M)
theorem f10_41 (S : pm_S) (d : Nat) (L : List Value) (q : Nat) (r : List Value) (M : pm_M) : fr S (d) (10, 41, L, .ref q :: r) M = match pm_get M q with
  | some (.inr (c, fs)) => if c = 0 ∧ 2 < fs.length then fr S d (10, 44, L, fs.getD 2 pm_U :: r) M else none
  | _ => none := (fr_eq S (d) (10, 41, L, .ref q :: r) M).trans (x_ogf _ _ 0 2 10 44 L r q M)
theorem f10_44 (S : pm_S) (d : Nat) (L : List Value) (x y : Int32) (r : List Value) (M : pm_M) : fr S (d) (10, 44, L, .int y :: .int x :: r) M = fr S d (10, 45, L, .int (x * y) :: r) M := (fr_eq S (d) (10, 44, L, .int y :: .int x :: r) M).trans (x_oii _ _ (fun x y => x * y) 10 45 L r x y M)
theorem f10_45 (S : pm_S) (d : Nat) (L : List Value) (v : Value) (r : List Value) (M : pm_M) : fr S (d) (10, 45, L, v :: r) M = if pm_ty v = 0 ∧ 4 < L.length ∧ ¬ pm_ty (L.getD (4 - 1) pm_U) = 1 then fr S d (10, 47, L.set 4 v, r) M else none := (fr_eq S (d) (10, 45, L, v :: r) M).trans (x_ost _ _ 0 4 10 47 L r v M)
theorem f10_47 (S : pm_S) (d : Nat) (L : List Value) (st : List Value) (M : pm_M) : fr S (d) (10, 47, L, st) M = if pm_ty (L.getD 0 pm_U) = 2 then fr S d (10, 48, L, L.getD 0 pm_U :: st) M else none := (fr_eq S (d) (10, 47, L, st) M).trans (x_old _ _ 2 0 10 48 L st M)
theorem f10_48 (S : pm_S) (d : Nat) (L : List Value) (st : List Value) (M : pm_M) : fr S (d) (10, 48, L, st) M = fr S d (10, 50, L, .int 40 :: st) M := (fr_eq S (d) (10, 48, L, st) M).trans (x_ocs _ _ (.int 40) 10 50 L st M)
theorem f10_50 (S : pm_S) (d : Nat) (L : List Value) (n : Int32) (r : List Value) (M : pm_M) : fr S (d) (10, 50, L, .int n :: r) M = if ¬ n < 0 ∧ n.toNatClampNeg ≤ 60000 then fr S d (10, 53, L, .ref (pm_at M false) :: r) (pm_new M false (.inl (3, (n.toNatClampNeg, pm_z 2))) n.toNatClampNeg) else none := (fr_eq S (d) (10, 50, L, .int n :: r) M).trans (x_ona _ _ 2 3 false 10 53 L r n M)
theorem f10_53 (S : pm_S) (d : Nat) (L : List Value) (v : Value) (q : Nat) (r : List Value) (M : pm_M) : fr S (d) (10, 53, L, v :: .ref q :: r) M = match pm_get M q with
  | some (.inr (c, fs)) => if c = 0 ∧ 3 < fs.length ∧ pm_fit 2 v = true then fr S d (10, 56, L, r) (pm_set M q (.inr (c, fs.set 3 v))) else none
  | _ => none := (fr_eq S (d) (10, 53, L, v :: .ref q :: r) M).trans (x_opf _ _ 0 3 2 10 56 L r q v M)
theorem f10_56 (S : pm_S) (d : Nat) (L : List Value) (st : List Value) (M : pm_M) : fr S (d) (10, 56, L, st) M = if pm_ty (L.getD 0 pm_U) = 2 then fr S d (10, 57, L, L.getD 0 pm_U :: st) M else none := (fr_eq S (d) (10, 56, L, st) M).trans (x_old _ _ 2 0 10 57 L st M)
theorem f10_57 (S : pm_S) (d : Nat) (L : List Value) (st : List Value) (M : pm_M) : fr S (d) (10, 57, L, st) M = if pm_ty (L.getD 4 pm_U) = 0 then fr S d (10, 59, L, L.getD 4 pm_U :: st) M else none := (fr_eq S (d) (10, 57, L, st) M).trans (x_old _ _ 0 4 10 59 L st M)
theorem f10_59 (S : pm_S) (d : Nat) (L : List Value) (n : Int32) (r : List Value) (M : pm_M) : fr S (d) (10, 59, L, .int n :: r) M = if ¬ n < 0 ∧ n.toNatClampNeg ≤ 60000 then fr S d (10, 62, L, .ref (pm_at M false) :: r) (pm_new M false (.inl (3, (n.toNatClampNeg, pm_z 2))) n.toNatClampNeg) else none := (fr_eq S (d) (10, 59, L, .int n :: r) M).trans (x_ona _ _ 2 3 false 10 62 L r n M)
theorem f10_62 (S : pm_S) (d : Nat) (L : List Value) (v : Value) (q : Nat) (r : List Value) (M : pm_M) : fr S (d) (10, 62, L, v :: .ref q :: r) M = match pm_get M q with
  | some (.inr (c, fs)) => if c = 0 ∧ 5 < fs.length ∧ pm_fit 2 v = true then fr S d (10, 65, L, r) (pm_set M q (.inr (c, fs.set 5 v))) else none
  | _ => none := (fr_eq S (d) (10, 62, L, v :: .ref q :: r) M).trans (x_opf _ _ 0 5 2 10 65 L r q v M)
theorem f10_65 (S : pm_S) (d : Nat) (L : List Value) (st : List Value) (M : pm_M) : fr S (d) (10, 65, L, st) M = if pm_ty (L.getD 0 pm_U) = 2 then fr S d (10, 66, L, L.getD 0 pm_U :: st) M else none := (fr_eq S (d) (10, 65, L, st) M).trans (x_old _ _ 2 0 10 66 L st M)
theorem f10_66 (S : pm_S) (d : Nat) (L : List Value) (st : List Value) (M : pm_M) : fr S (d) (10, 66, L, st) M = if pm_ty (L.getD 4 pm_U) = 0 then fr S d (10, 68, L, L.getD 4 pm_U :: st) M else none := (fr_eq S (d) (10, 66, L, st) M).trans (x_old _ _ 0 4 10 68 L st M)
theorem f10_68 (S : pm_S) (d : Nat) (L : List Value) (n : Int32) (r : List Value) (M : pm_M) : fr S (d) (10, 68, L, .int n :: r) M = if ¬ n < 0 ∧ n.toNatClampNeg ≤ 60000 then fr S d (10, 70, L, .ref (pm_at M false) :: r) (pm_new M false (.inl (1, (n.toNatClampNeg, pm_z 0))) n.toNatClampNeg) else none := (fr_eq S (d) (10, 68, L, .int n :: r) M).trans (x_ona _ _ 0 1 false 10 70 L r n M)
theorem f10_70 (S : pm_S) (d : Nat) (L : List Value) (v : Value) (q : Nat) (r : List Value) (M : pm_M) : fr S (d) (10, 70, L, v :: .ref q :: r) M = match pm_get M q with
  | some (.inr (c, fs)) => if c = 0 ∧ 6 < fs.length ∧ pm_fit 2 v = true then fr S d (10, 73, L, r) (pm_set M q (.inr (c, fs.set 6 v))) else none
  | _ => none := (fr_eq S (d) (10, 70, L, v :: .ref q :: r) M).trans (x_opf _ _ 0 6 2 10 73 L r q v M)
theorem f10_73 (S : pm_S) (d : Nat) (L : List Value) (st : List Value) (M : pm_M) : fr S (d) (10, 73, L, st) M = if pm_ty (L.getD 0 pm_U) = 2 then fr S d (10, 74, L, L.getD 0 pm_U :: st) M else none := (fr_eq S (d) (10, 73, L, st) M).trans (x_old _ _ 2 0 10 74 L st M)
theorem f10_74 (S : pm_S) (d : Nat) (L : List Value) (st : List Value) (M : pm_M) : fr S (d) (10, 74, L, st) M = fr S d (10, 75, L, .int 4 :: st) M := (fr_eq S (d) (10, 74, L, st) M).trans (x_ocs _ _ (.int 4) 10 75 L st M)
theorem f10_75 (S : pm_S) (d : Nat) (L : List Value) (n : Int32) (r : List Value) (M : pm_M) : fr S (d) (10, 75, L, .int n :: r) M = if ¬ n < 0 ∧ n.toNatClampNeg ≤ 60000 then fr S d (10, 77, L, .ref (pm_at M false) :: r) (pm_new M false (.inl (0, (n.toNatClampNeg, pm_z 0))) n.toNatClampNeg) else none := (fr_eq S (d) (10, 75, L, .int n :: r) M).trans (x_ona _ _ 0 0 false 10 77 L r n M)
theorem f10_77 (S : pm_S) (d : Nat) (L : List Value) (v : Value) (q : Nat) (r : List Value) (M : pm_M) : fr S (d) (10, 77, L, v :: .ref q :: r) M = match pm_get M q with
  | some (.inr (c, fs)) => if c = 0 ∧ 7 < fs.length ∧ pm_fit 2 v = true then fr S d (10, 80, L, r) (pm_set M q (.inr (c, fs.set 7 v))) else none
  | _ => none := (fr_eq S (d) (10, 77, L, v :: .ref q :: r) M).trans (x_opf _ _ 0 7 2 10 80 L r q v M)
theorem f10_80 (S : pm_S) (d : Nat) (L : List Value) (st : List Value) (M : pm_M) : fr S (d) (10, 80, L, st) M = fr S d (10, 81, L, .int 0 :: st) M := (fr_eq S (d) (10, 80, L, st) M).trans (x_ocs _ _ (.int 0) 10 81 L st M)
theorem f10_81 (S : pm_S) (d : Nat) (L : List Value) (v : Value) (r : List Value) (M : pm_M) : fr S (d) (10, 81, L, v :: r) M = if pm_ty v = 0 ∧ 5 < L.length ∧ ¬ pm_ty (L.getD (5 - 1) pm_U) = 1 then fr S d (10, 83, L.set 5 v, r) M else none := (fr_eq S (d) (10, 81, L, v :: r) M).trans (x_ost _ _ 0 5 10 83 L r v M)
theorem f10_83 (S : pm_S) (d : Nat) (L : List Value) (st : List Value) (M : pm_M) : fr S (d) (10, 83, L, st) M = if pm_ty (L.getD 5 pm_U) = 0 then fr S d (10, 85, L, L.getD 5 pm_U :: st) M else none := (fr_eq S (d) (10, 83, L, st) M).trans (x_old _ _ 0 5 10 85 L st M)
theorem f10_85 (S : pm_S) (d : Nat) (L : List Value) (st : List Value) (M : pm_M) : fr S (d) (10, 85, L, st) M = if pm_ty (L.getD 0 pm_U) = 2 then fr S d (10, 86, L, L.getD 0 pm_U :: st) M else none := (fr_eq S (d) (10, 85, L, st) M).trans (x_old _ _ 2 0 10 86 L st M)
theorem f10_86 (S : pm_S) (d : Nat) (L : List Value) (q : Nat) (r : List Value) (M : pm_M) : fr S (d) (10, 86, L, .ref q :: r) M = match pm_get M q with
  | some (.inr (c, fs)) => if c = 0 ∧ 7 < fs.length then fr S d (10, 89, L, fs.getD 7 pm_U :: r) M else none
  | _ => none := (fr_eq S (d) (10, 86, L, .ref q :: r) M).trans (x_ogf _ _ 0 7 10 89 L r q M)
theorem f10_89 (S : pm_S) (d : Nat) (L : List Value) (q : Nat) (hq : ¬ q = 1) (r : List Value) (M : pm_M) : fr S (d) (10, 89, L, .ref q :: r) M = match pm_get M q with
  | some (.inl (_, (n, _))) => fr S d (10, 90, L, .int (Int32.ofNat n) :: r) M
  | _ => none := (fr_eq S (d) (10, 89, L, .ref q :: r) M).trans (x_oln _ _ S 10 90 L r q hq M)
theorem f10_90 (S : pm_S) (d : Nat) (L : List Value) (x y : Int32) (r : List Value) (M : pm_M) : fr S (d) (10, 90, L, .int y :: .int x :: r) M = if y ≤ x then fr S d (10, 108, L, r) M else fr S d (10, 93, L, r) M := (fr_eq S (d) (10, 90, L, .int y :: .int x :: r) M).trans (x_oc2ge _ _ 10 93 108 L r x y M)
theorem f10_93 (S : pm_S) (d : Nat) (L : List Value) (st : List Value) (M : pm_M) : fr S (d) (10, 93, L, st) M = if pm_ty (L.getD 0 pm_U) = 2 then fr S d (10, 94, L, L.getD 0 pm_U :: st) M else none := (fr_eq S (d) (10, 93, L, st) M).trans (x_old _ _ 2 0 10 94 L st M)
theorem f10_94 (S : pm_S) (d : Nat) (L : List Value) (q : Nat) (r : List Value) (M : pm_M) : fr S (d) (10, 94, L, .ref q :: r) M = match pm_get M q with
  | some (.inr (c, fs)) => if c = 0 ∧ 7 < fs.length then fr S d (10, 97, L, fs.getD 7 pm_U :: r) M else none
  | _ => none := (fr_eq S (d) (10, 94, L, .ref q :: r) M).trans (x_ogf _ _ 0 7 10 97 L r q M)
theorem f10_97 (S : pm_S) (d : Nat) (L : List Value) (st : List Value) (M : pm_M) : fr S (d) (10, 97, L, st) M = if pm_ty (L.getD 5 pm_U) = 0 then fr S d (10, 99, L, L.getD 5 pm_U :: st) M else none := (fr_eq S (d) (10, 97, L, st) M).trans (x_old _ _ 0 5 10 99 L st M)
theorem f10_99 (S : pm_S) (d : Nat) (L : List Value) (st : List Value) (M : pm_M) : fr S (d) (10, 99, L, st) M = fr S d (10, 101, L, .int 100 :: st) M := (fr_eq S (d) (10, 99, L, st) M).trans (x_ocs _ _ (.int 100) 10 101 L st M)
theorem f10_101 (S : pm_S) (d : Nat) (L : List Value) (v : Value) (i : Int32) (q : Nat) (r : List Value) (M : pm_M) : fr S (d) (10, 101, L, v :: .int i :: .ref q :: r) M = if pm_sq M 9 v = true then (match (pm_get M q).bind (fun c => pm_ev 0 0 c i v) with
  | some c => fr S d (10, 102, L, r) (pm_set M q c)
  | none => none) else none := (fr_eq S (d) (10, 101, L, v :: .int i :: .ref q :: r) M).trans (x_oas _ _ 0 0 9 10 102 L r v i q M)
theorem f10_102 (S : pm_S) (d : Nat) (L : List Value) (st : List Value) (M : pm_M) : fr S (d) (10, 102, L, st) M = match L.getD 5 pm_U with
  | .int x => if 5 < L.length ∧ ¬ pm_ty (L.getD (5 - 1) pm_U) = 1 then fr S d (10, 105, L.set 5 (.int (x + 1)), st) M else none
  | _ => none := (fr_eq S (d) (10, 102, L, st) M).trans (x_oinc _ _ 5 1 10 105 L st M)
theorem f10_105 (S : pm_S) (d : Nat) (L : List Value) (st : List Value) (M : pm_M) : fr S (d) (10, 105, L, st) M = fr S d (10, 83, L, st) M := (fr_eq S (d) (10, 105, L, st) M).trans (x_ogo _ _ 10 83 L st M)
theorem f10_108 (S : pm_S) (d : Nat) (L : List Value) (st : List Value) (M : pm_M) : fr S (d) (10, 108, L, st) M = if pm_ty (L.getD 0 pm_U) = 2 then fr S d (10, 109, L, L.getD 0 pm_U :: st) M else none := (fr_eq S (d) (10, 108, L, st) M).trans (x_old _ _ 2 0 10 109 L st M)
theorem f10_109 (S : pm_S) (d : Nat) (L : List Value) (st : List Value) (M : pm_M) : fr S (d) (10, 109, L, st) M = fr S d (10, 110, L, .int 4 :: st) M := (fr_eq S (d) (10, 109, L, st) M).trans (x_ocs _ _ (.int 4) 10 110 L st M)
theorem f10_110 (S : pm_S) (d : Nat) (L : List Value) (n : Int32) (r : List Value) (M : pm_M) : fr S (d) (10, 110, L, .int n :: r) M = if ¬ n < 0 ∧ n.toNatClampNeg ≤ 60000 then fr S d (10, 113, L, .ref (pm_at M false) :: r) (pm_new M false (.inl (3, (n.toNatClampNeg, pm_z 2))) n.toNatClampNeg) else none := (fr_eq S (d) (10, 110, L, .int n :: r) M).trans (x_ona _ _ 2 3 false 10 113 L r n M)
theorem f10_113 (S : pm_S) (d : Nat) (L : List Value) (v : Value) (q : Nat) (r : List Value) (M : pm_M) : fr S (d) (10, 113, L, v :: .ref q :: r) M = match pm_get M q with
  | some (.inr (c, fs)) => if c = 0 ∧ 8 < fs.length ∧ pm_fit 2 v = true then fr S d (10, 116, L, r) (pm_set M q (.inr (c, fs.set 8 v))) else none
  | _ => none := (fr_eq S (d) (10, 113, L, v :: .ref q :: r) M).trans (x_opf _ _ 0 8 2 10 116 L r q v M)
theorem f10_116 (S : pm_S) (d : Nat) (L : List Value) (st : List Value) (M : pm_M) : fr S (d) (10, 116, L, st) M = if pm_ty (L.getD 0 pm_U) = 2 then fr S d (10, 117, L, L.getD 0 pm_U :: st) M else none := (fr_eq S (d) (10, 116, L, st) M).trans (x_old _ _ 2 0 10 117 L st M)
theorem f10_117 (S : pm_S) (d : Nat) (L : List Value) (st : List Value) (M : pm_M) : fr S (d) (10, 117, L, st) M = fr S d (10, 120, L, .ref (pm_at M false) :: st) (pm_new M false (.inr (2, [.null, .null, .int 0, .int 0])) 4) := (fr_eq S (d) (10, 117, L, st) M).trans (x_one _ _ 2 [.null, .null, .int 0, .int 0] false 10 120 L st M)
theorem f10_120 (S : pm_S) (d : Nat) (L : List Value) (v : Value) (r : List Value) (M : pm_M) : fr S (d) (10, 120, L, v :: r) M = if ¬ pm_ty v = 1 ∧ ¬ pm_ty v = 9 then fr S d (10, 121, L, v :: v :: r) M else none := (fr_eq S (d) (10, 120, L, v :: r) M).trans (x_odup _ _ 10 121 L r v M)
theorem f10_121 (S : pm_S) (d : Nat) (L : List Value) (st : List Value) (M : pm_M) : fr S (d + 1) (10, 121, L, st) M = match pm_ag 1 [] st with
  | some (a, r) => if r.length ≤ 4 ∧ (2 = 0 ∨ pm_obj M 2 (a.headD pm_U) = true) then (match fr S d (75, 0, a ++ [], []) M with
    | none => none
    | some (.inl v, M') => fr S (d + 1) (10, 124, L, v.toList ++ r) M'
    | some (.inr E, M') => some (.inr E, M')) else none
  | none => none := (fr_eq S (d + 1) (10, 121, L, st) M).trans (x_ocl _ _ 2 75 1 2 [] 10 124 L st M)
theorem f10_124 (S : pm_S) (d : Nat) (L : List Value) (v : Value) (q : Nat) (r : List Value) (M : pm_M) : fr S (d) (10, 124, L, v :: .ref q :: r) M = match pm_get M q with
  | some (.inr (c, fs)) => if c = 0 ∧ 10 < fs.length ∧ pm_fit 2 v = true then fr S d (10, 127, L, r) (pm_set M q (.inr (c, fs.set 10 v))) else none
  | _ => none := (fr_eq S (d) (10, 124, L, v :: .ref q :: r) M).trans (x_opf _ _ 0 10 2 10 127 L r q v M)
theorem f10_127 (S : pm_S) (d : Nat) (L : List Value) (st : List Value) (M : pm_M) : fr S (d) (10, 127, L, st) M = if pm_ty (L.getD 0 pm_U) = 2 then fr S d (10, 128, L, L.getD 0 pm_U :: st) M else none := (fr_eq S (d) (10, 127, L, st) M).trans (x_old _ _ 2 0 10 128 L st M)
theorem f10_128 (S : pm_S) (d : Nat) (L : List Value) (st : List Value) (M : pm_M) : fr S (d) (10, 128, L, st) M = fr S d (10, 131, L, .ref (pm_at M false) :: st) (pm_new M false (.inr (2, [.null, .null, .int 0, .int 0])) 4) := (fr_eq S (d) (10, 128, L, st) M).trans (x_one _ _ 2 [.null, .null, .int 0, .int 0] false 10 131 L st M)
theorem f10_131 (S : pm_S) (d : Nat) (L : List Value) (v : Value) (r : List Value) (M : pm_M) : fr S (d) (10, 131, L, v :: r) M = if ¬ pm_ty v = 1 ∧ ¬ pm_ty v = 9 then fr S d (10, 132, L, v :: v :: r) M else none := (fr_eq S (d) (10, 131, L, v :: r) M).trans (x_odup _ _ 10 132 L r v M)
theorem f10_132 (S : pm_S) (d : Nat) (L : List Value) (st : List Value) (M : pm_M) : fr S (d + 1) (10, 132, L, st) M = match pm_ag 1 [] st with
  | some (a, r) => if r.length ≤ 4 ∧ (2 = 0 ∨ pm_obj M 2 (a.headD pm_U) = true) then (match fr S d (75, 0, a ++ [], []) M with
    | none => none
    | some (.inl v, M') => fr S (d + 1) (10, 135, L, v.toList ++ r) M'
    | some (.inr E, M') => some (.inr E, M')) else none
  | none => none := (fr_eq S (d + 1) (10, 132, L, st) M).trans (x_ocl _ _ 2 75 1 2 [] 10 135 L st M)
theorem f10_135 (S : pm_S) (d : Nat) (L : List Value) (v : Value) (q : Nat) (r : List Value) (M : pm_M) : fr S (d) (10, 135, L, v :: .ref q :: r) M = match pm_get M q with
  | some (.inr (c, fs)) => if c = 0 ∧ 11 < fs.length ∧ pm_fit 2 v = true then fr S d (10, 138, L, r) (pm_set M q (.inr (c, fs.set 11 v))) else none
  | _ => none := (fr_eq S (d) (10, 135, L, v :: .ref q :: r) M).trans (x_opf _ _ 0 11 2 10 138 L r q v M)
theorem f10_138 (S : pm_S) (d : Nat) (L : List Value)  (M : pm_M) : fr S (d) (10, 138, L, []) M = some (.inl none, M) := (fr_eq S (d) (10, 138, L, []) M).trans (x_orv _ _ M)
theorem f11_0 (S : pm_S) (d : Nat) (L : List Value) (st : List Value) (M : pm_M) : fr S (d) (11, 0, L, st) M = if pm_ty (L.getD 1 pm_U) = 0 then fr S d (11, 1, L, L.getD 1 pm_U :: st) M else none := (fr_eq S (d) (11, 0, L, st) M).trans (x_old _ _ 0 1 11 1 L st M)
theorem f11_1 (S : pm_S) (d : Nat) (L : List Value) (st : List Value) (M : pm_M) : fr S (d) (11, 1, L, st) M = if pm_ty (L.getD 2 pm_U) = 0 then fr S d (11, 2, L, L.getD 2 pm_U :: st) M else none := (fr_eq S (d) (11, 1, L, st) M).trans (x_old _ _ 0 2 11 2 L st M)
theorem f11_2 (S : pm_S) (d : Nat) (L : List Value) (st : List Value) (M : pm_M) : fr S (d) (11, 2, L, st) M = if pm_ty (L.getD 3 pm_U) = 0 then fr S d (11, 3, L, L.getD 3 pm_U :: st) M else none := (fr_eq S (d) (11, 2, L, st) M).trans (x_old _ _ 0 3 11 3 L st M)
theorem f11_3 (S : pm_S) (d : Nat) (L : List Value) (st : List Value) (M : pm_M) : fr S (d) (11, 3, L, st) M = if pm_ty (L.getD 4 pm_U) = 0 then fr S d (11, 5, L, L.getD 4 pm_U :: st) M else none := (fr_eq S (d) (11, 3, L, st) M).trans (x_old _ _ 0 4 11 5 L st M)
theorem f11_5 (S : pm_S) (d : Nat) (L : List Value) (st : List Value) (M : pm_M) : fr S (d + 1) (11, 5, L, st) M = match pm_ag 4 [] st with
  | some (a, r) => if r.length ≤ 4 ∧ (0 = 0 ∨ pm_obj M 0 (a.headD pm_U) = true) then (match fr S d (25, 0, a ++ [], []) M with
    | none => none
    | some (.inl v, M') => fr S (d + 1) (11, 8, L, v.toList ++ r) M'
    | some (.inr E, M') => some (.inr E, M')) else none
  | none => none := (fr_eq S (d + 1) (11, 5, L, st) M).trans (x_ocl _ _ 0 25 4 0 [] 11 8 L st M)
theorem f11_8 (S : pm_S) (d : Nat) (L : List Value) (x : Int32) (r : List Value) (M : pm_M) : fr S (d) (11, 8, L, .int x :: r) M = if ¬ x = 0 then fr S d (11, 21, L, r) M else fr S d (11, 11, L, r) M := (fr_eq S (d) (11, 8, L, .int x :: r) M).trans (x_oc1ne _ _ 11 11 21 L r x M)
theorem f11_11 (S : pm_S) (d : Nat) (L : List Value) (st : List Value) (M : pm_M) : fr S (d) (11, 11, L, st) M = if st.length ≤ 8 then some (.inr "java/lang/IllegalArgumentException", pm_thr M) else none := (fr_eq S (d) (11, 11, L, st) M).trans (x_oth _ _ "java/lang/IllegalArgumentException" st M)
theorem f11_14 (S : pm_S) (d : Nat) (L : List Value) (v : Value) (r : List Value) (M : pm_M) : fr S (d) (11, 14, L, v :: r) M = if ¬ pm_ty v = 1 ∧ ¬ pm_ty v = 9 then fr S d (11, 15, L, v :: v :: r) M else none := (fr_eq S (d) (11, 14, L, v :: r) M).trans (x_odup _ _ 11 15 L r v M)
theorem f11_21 (S : pm_S) (d : Nat) (L : List Value) (st : List Value) (M : pm_M) : fr S (d) (11, 21, L, st) M = if pm_ty (L.getD 0 pm_U) = 2 then fr S d (11, 22, L, L.getD 0 pm_U :: st) M else none := (fr_eq S (d) (11, 21, L, st) M).trans (x_old _ _ 2 0 11 22 L st M)
theorem f11_22 (S : pm_S) (d : Nat) (L : List Value) (q : Nat) (r : List Value) (M : pm_M) : fr S (d) (11, 22, L, .ref q :: r) M = match pm_get M q with
  | some (.inr (c, fs)) => if c = 0 ∧ 4 < fs.length then fr S d (11, 25, L, fs.getD 4 pm_U :: r) M else none
  | _ => none := (fr_eq S (d) (11, 22, L, .ref q :: r) M).trans (x_ogf _ _ 0 4 11 25 L r q M)
theorem f11_25 (S : pm_S) (d : Nat) (L : List Value) (st : List Value) (M : pm_M) : fr S (d) (11, 25, L, st) M = if pm_ty (L.getD 0 pm_U) = 2 then fr S d (11, 26, L, L.getD 0 pm_U :: st) M else none := (fr_eq S (d) (11, 25, L, st) M).trans (x_old _ _ 2 0 11 26 L st M)
theorem f11_26 (S : pm_S) (d : Nat) (L : List Value) (q : Nat) (r : List Value) (M : pm_M) : fr S (d) (11, 26, L, .ref q :: r) M = match pm_get M q with
  | some (.inr (c, fs)) => if c = 0 ∧ 3 < fs.length then fr S d (11, 29, L, fs.getD 3 pm_U :: r) M else none
  | _ => none := (fr_eq S (d) (11, 26, L, .ref q :: r) M).trans (x_ogf _ _ 0 3 11 29 L r q M)
theorem f11_29 (S : pm_S) (d : Nat) (L : List Value) (q : Nat) (hq : ¬ q = 1) (r : List Value) (M : pm_M) : fr S (d) (11, 29, L, .ref q :: r) M = match pm_get M q with
  | some (.inl (_, (n, _))) => fr S d (11, 30, L, .int (Int32.ofNat n) :: r) M
  | _ => none := (fr_eq S (d) (11, 29, L, .ref q :: r) M).trans (x_oln _ _ S 11 30 L r q hq M)
theorem f11_30 (S : pm_S) (d : Nat) (L : List Value) (x y : Int32) (r : List Value) (M : pm_M) : fr S (d) (11, 30, L, .int y :: .int x :: r) M = if x < y then fr S d (11, 43, L, r) M else fr S d (11, 33, L, r) M := (fr_eq S (d) (11, 30, L, .int y :: .int x :: r) M).trans (x_oc2lt _ _ 11 33 43 L r x y M)
theorem f11_33 (S : pm_S) (d : Nat) (L : List Value) (st : List Value) (M : pm_M) : fr S (d) (11, 33, L, st) M = if st.length ≤ 8 then some (.inr "java/lang/IllegalStateException", pm_thr M) else none := (fr_eq S (d) (11, 33, L, st) M).trans (x_oth _ _ "java/lang/IllegalStateException" st M)
theorem f11_36 (S : pm_S) (d : Nat) (L : List Value) (v : Value) (r : List Value) (M : pm_M) : fr S (d) (11, 36, L, v :: r) M = if ¬ pm_ty v = 1 ∧ ¬ pm_ty v = 9 then fr S d (11, 37, L, v :: v :: r) M else none := (fr_eq S (d) (11, 36, L, v :: r) M).trans (x_odup _ _ 11 37 L r v M)
theorem f11_43 (S : pm_S) (d : Nat) (L : List Value) (st : List Value) (M : pm_M) : fr S (d) (11, 43, L, st) M = if pm_ty (L.getD 0 pm_U) = 2 then fr S d (11, 44, L, L.getD 0 pm_U :: st) M else none := (fr_eq S (d) (11, 43, L, st) M).trans (x_old _ _ 2 0 11 44 L st M)
theorem f11_44 (S : pm_S) (d : Nat) (L : List Value) (q : Nat) (r : List Value) (M : pm_M) : fr S (d) (11, 44, L, .ref q :: r) M = match pm_get M q with
  | some (.inr (c, fs)) => if c = 0 ∧ 4 < fs.length then fr S d (11, 47, L, fs.getD 4 pm_U :: r) M else none
  | _ => none := (fr_eq S (d) (11, 44, L, .ref q :: r) M).trans (x_ogf _ _ 0 4 11 47 L r q M)
theorem f11_47 (S : pm_S) (d : Nat) (L : List Value) (v : Value) (r : List Value) (M : pm_M) : fr S (d) (11, 47, L, v :: r) M = if pm_ty v = 0 ∧ 5 < L.length ∧ ¬ pm_ty (L.getD (5 - 1) pm_U) = 1 then fr S d (11, 49, L.set 5 v, r) M else none := (fr_eq S (d) (11, 47, L, v :: r) M).trans (x_ost _ _ 0 5 11 49 L r v M)
theorem f11_49 (S : pm_S) (d : Nat) (L : List Value) (st : List Value) (M : pm_M) : fr S (d) (11, 49, L, st) M = if pm_ty (L.getD 0 pm_U) = 2 then fr S d (11, 50, L, L.getD 0 pm_U :: st) M else none := (fr_eq S (d) (11, 49, L, st) M).trans (x_old _ _ 2 0 11 50 L st M)
theorem f11_50 (S : pm_S) (d : Nat) (L : List Value) (q : Nat) (r : List Value) (M : pm_M) : fr S (d) (11, 50, L, .ref q :: r) M = match pm_get M q with
  | some (.inr (c, fs)) => if c = 0 ∧ 3 < fs.length then fr S d (11, 53, L, fs.getD 3 pm_U :: r) M else none
  | _ => none := (fr_eq S (d) (11, 50, L, .ref q :: r) M).trans (x_ogf _ _ 0 3 11 53 L r q M)
theorem f11_53 (S : pm_S) (d : Nat) (L : List Value) (st : List Value) (M : pm_M) : fr S (d) (11, 53, L, st) M = if pm_ty (L.getD 5 pm_U) = 0 then fr S d (11, 55, L, L.getD 5 pm_U :: st) M else none := (fr_eq S (d) (11, 53, L, st) M).trans (x_old _ _ 0 5 11 55 L st M)
theorem f11_55 (S : pm_S) (d : Nat) (L : List Value) (st : List Value) (M : pm_M) : fr S (d) (11, 55, L, st) M = fr S d (11, 58, L, .ref (pm_at M false) :: st) (pm_new M false (.inr (1, [.int 0, .int 0, .int 0, .int 0, .int 0, .int 0, .int 0, .int 0, .long 0])) 9) := (fr_eq S (d) (11, 55, L, st) M).trans (x_one _ _ 1 [.int 0, .int 0, .int 0, .int 0, .int 0, .int 0, .int 0, .int 0, .long 0] false 11 58 L st M)
theorem f11_58 (S : pm_S) (d : Nat) (L : List Value) (v : Value) (r : List Value) (M : pm_M) : fr S (d) (11, 58, L, v :: r) M = if ¬ pm_ty v = 1 ∧ ¬ pm_ty v = 9 then fr S d (11, 59, L, v :: v :: r) M else none := (fr_eq S (d) (11, 58, L, v :: r) M).trans (x_odup _ _ 11 59 L r v M)
theorem f11_59 (S : pm_S) (d : Nat) (L : List Value) (st : List Value) (M : pm_M) : fr S (d) (11, 59, L, st) M = if pm_ty (L.getD 5 pm_U) = 0 then fr S d (11, 61, L, L.getD 5 pm_U :: st) M else none := (fr_eq S (d) (11, 59, L, st) M).trans (x_old _ _ 0 5 11 61 L st M)
theorem f11_61 (S : pm_S) (d : Nat) (L : List Value) (st : List Value) (M : pm_M) : fr S (d) (11, 61, L, st) M = if pm_ty (L.getD 1 pm_U) = 0 then fr S d (11, 62, L, L.getD 1 pm_U :: st) M else none := (fr_eq S (d) (11, 61, L, st) M).trans (x_old _ _ 0 1 11 62 L st M)
theorem f11_62 (S : pm_S) (d : Nat) (L : List Value) (st : List Value) (M : pm_M) : fr S (d) (11, 62, L, st) M = if pm_ty (L.getD 2 pm_U) = 0 then fr S d (11, 63, L, L.getD 2 pm_U :: st) M else none := (fr_eq S (d) (11, 62, L, st) M).trans (x_old _ _ 0 2 11 63 L st M)
theorem f11_63 (S : pm_S) (d : Nat) (L : List Value) (st : List Value) (M : pm_M) : fr S (d) (11, 63, L, st) M = if pm_ty (L.getD 3 pm_U) = 0 then fr S d (11, 64, L, L.getD 3 pm_U :: st) M else none := (fr_eq S (d) (11, 63, L, st) M).trans (x_old _ _ 0 3 11 64 L st M)
theorem f11_64 (S : pm_S) (d : Nat) (L : List Value) (st : List Value) (M : pm_M) : fr S (d) (11, 64, L, st) M = if pm_ty (L.getD 4 pm_U) = 0 then fr S d (11, 66, L, L.getD 4 pm_U :: st) M else none := (fr_eq S (d) (11, 64, L, st) M).trans (x_old _ _ 0 4 11 66 L st M)
theorem f11_66 (S : pm_S) (d : Nat) (L : List Value) (st : List Value) (M : pm_M) : fr S (d + 1) (11, 66, L, st) M = match pm_ag 6 [] st with
  | some (a, r) => if r.length ≤ 4 ∧ (2 = 0 ∨ pm_obj M 1 (a.headD pm_U) = true) then (match fr S d (60, 0, a ++ [], []) M with
    | none => none
    | some (.inl v, M') => fr S (d + 1) (11, 69, L, v.toList ++ r) M'
    | some (.inr E, M') => some (.inr E, M')) else none
  | none => none := (fr_eq S (d + 1) (11, 66, L, st) M).trans (x_ocl _ _ 2 60 6 1 [] 11 69 L st M)
theorem f11_69 (S : pm_S) (d : Nat) (L : List Value) (v : Value) (i : Int32) (q : Nat) (r : List Value) (M : pm_M) : fr S (d) (11, 69, L, v :: .int i :: .ref q :: r) M = if pm_sq M 1 v = true then (match (pm_get M q).bind (fun c => pm_ev 2 3 c i v) with
  | some c => fr S d (11, 70, L, r) (pm_set M q c)
  | none => none) else none := (fr_eq S (d) (11, 69, L, v :: .int i :: .ref q :: r) M).trans (x_oas _ _ 2 3 1 11 70 L r v i q M)
theorem f11_70 (S : pm_S) (d : Nat) (L : List Value) (st : List Value) (M : pm_M) : fr S (d) (11, 70, L, st) M = if pm_ty (L.getD 0 pm_U) = 2 then fr S d (11, 71, L, L.getD 0 pm_U :: st) M else none := (fr_eq S (d) (11, 70, L, st) M).trans (x_old _ _ 2 0 11 71 L st M)
theorem f11_71 (S : pm_S) (d : Nat) (L : List Value) (v : Value) (r : List Value) (M : pm_M) : fr S (d) (11, 71, L, v :: r) M = if ¬ pm_ty v = 1 ∧ ¬ pm_ty v = 9 then fr S d (11, 72, L, v :: v :: r) M else none := (fr_eq S (d) (11, 71, L, v :: r) M).trans (x_odup _ _ 11 72 L r v M)
theorem f11_72 (S : pm_S) (d : Nat) (L : List Value) (q : Nat) (r : List Value) (M : pm_M) : fr S (d) (11, 72, L, .ref q :: r) M = match pm_get M q with
  | some (.inr (c, fs)) => if c = 0 ∧ 4 < fs.length then fr S d (11, 75, L, fs.getD 4 pm_U :: r) M else none
  | _ => none := (fr_eq S (d) (11, 72, L, .ref q :: r) M).trans (x_ogf _ _ 0 4 11 75 L r q M)
theorem f11_75 (S : pm_S) (d : Nat) (L : List Value) (st : List Value) (M : pm_M) : fr S (d) (11, 75, L, st) M = fr S d (11, 76, L, .int 1 :: st) M := (fr_eq S (d) (11, 75, L, st) M).trans (x_ocs _ _ (.int 1) 11 76 L st M)
theorem f11_76 (S : pm_S) (d : Nat) (L : List Value) (x y : Int32) (r : List Value) (M : pm_M) : fr S (d) (11, 76, L, .int y :: .int x :: r) M = fr S d (11, 77, L, .int (x + y) :: r) M := (fr_eq S (d) (11, 76, L, .int y :: .int x :: r) M).trans (x_oii _ _ (fun x y => x + y) 11 77 L r x y M)
theorem f11_77 (S : pm_S) (d : Nat) (L : List Value) (v : Value) (q : Nat) (r : List Value) (M : pm_M) : fr S (d) (11, 77, L, v :: .ref q :: r) M = match pm_get M q with
  | some (.inr (c, fs)) => if c = 0 ∧ 4 < fs.length ∧ pm_fit 0 v = true then fr S d (11, 80, L, r) (pm_set M q (.inr (c, fs.set 4 v))) else none
  | _ => none := (fr_eq S (d) (11, 77, L, v :: .ref q :: r) M).trans (x_opf _ _ 0 4 0 11 80 L r q v M)
theorem f11_80 (S : pm_S) (d : Nat) (L : List Value) (st : List Value) (M : pm_M) : fr S (d) (11, 80, L, st) M = if pm_ty (L.getD 5 pm_U) = 0 then fr S d (11, 82, L, L.getD 5 pm_U :: st) M else none := (fr_eq S (d) (11, 80, L, st) M).trans (x_old _ _ 0 5 11 82 L st M)
theorem f11_82 (S : pm_S) (d : Nat) (L : List Value) (v : Value) (M : pm_M) : fr S (d) (11, 82, L, [v]) M = if pm_fit 0 v = true then some (.inl (some v), M) else none := (fr_eq S (d) (11, 82, L, [v]) M).trans (x_ort _ _ 0 v M)
theorem f12_0 (S : pm_S) (d : Nat) (L : List Value) (st : List Value) (M : pm_M) : fr S (d) (12, 0, L, st) M = if pm_ty (L.getD 0 pm_U) = 2 then fr S d (12, 1, L, L.getD 0 pm_U :: st) M else none := (fr_eq S (d) (12, 0, L, st) M).trans (x_old _ _ 2 0 12 1 L st M)
theorem f12_1 (S : pm_S) (d : Nat) (L : List Value) (st : List Value) (M : pm_M) : fr S (d) (12, 1, L, st) M = if pm_ty (L.getD 1 pm_U) = 0 then fr S d (12, 2, L, L.getD 1 pm_U :: st) M else none := (fr_eq S (d) (12, 1, L, st) M).trans (x_old _ _ 0 1 12 2 L st M)
theorem f12_2 (S : pm_S) (d : Nat) (L : List Value) (st : List Value) (M : pm_M) : fr S (d + 1) (12, 2, L, st) M = match pm_ag 2 [] st with
  | some (a, r) => if r.length ≤ 4 ∧ (1 = 0 ∨ pm_obj M 0 (a.headD pm_U) = true) then (match fr S d (30, 0, a ++ [], []) M with
    | none => none
    | some (.inl v, M') => fr S (d + 1) (12, 5, L, v.toList ++ r) M'
    | some (.inr E, M') => some (.inr E, M')) else none
  | none => none := (fr_eq S (d + 1) (12, 2, L, st) M).trans (x_ocl _ _ 1 30 2 0 [] 12 5 L st M)
theorem f12_5 (S : pm_S) (d : Nat) (L : List Value) (v : Value) (r : List Value) (M : pm_M) : fr S (d) (12, 5, L, v :: r) M = if pm_ty v = 2 ∧ 5 < L.length ∧ ¬ pm_ty (L.getD (5 - 1) pm_U) = 1 then fr S d (12, 7, L.set 5 v, r) M else none := (fr_eq S (d) (12, 5, L, v :: r) M).trans (x_ost _ _ 2 5 12 7 L r v M)
theorem f12_7 (S : pm_S) (d : Nat) (L : List Value) (st : List Value) (M : pm_M) : fr S (d) (12, 7, L, st) M = if pm_ty (L.getD 0 pm_U) = 2 then fr S d (12, 8, L, L.getD 0 pm_U :: st) M else none := (fr_eq S (d) (12, 7, L, st) M).trans (x_old _ _ 2 0 12 8 L st M)
theorem f12_8 (S : pm_S) (d : Nat) (L : List Value) (st : List Value) (M : pm_M) : fr S (d) (12, 8, L, st) M = if pm_ty (L.getD 2 pm_U) = 0 then fr S d (12, 9, L, L.getD 2 pm_U :: st) M else none := (fr_eq S (d) (12, 8, L, st) M).trans (x_old _ _ 0 2 12 9 L st M)
theorem f12_9 (S : pm_S) (d : Nat) (L : List Value) (st : List Value) (M : pm_M) : fr S (d) (12, 9, L, st) M = if pm_ty (L.getD 3 pm_U) = 0 then fr S d (12, 10, L, L.getD 3 pm_U :: st) M else none := (fr_eq S (d) (12, 9, L, st) M).trans (x_old _ _ 0 3 12 10 L st M)
theorem f12_10 (S : pm_S) (d : Nat) (L : List Value) (st : List Value) (M : pm_M) : fr S (d) (12, 10, L, st) M = if pm_ty (L.getD 4 pm_U) = 0 then fr S d (12, 12, L, L.getD 4 pm_U :: st) M else none := (fr_eq S (d) (12, 10, L, st) M).trans (x_old _ _ 0 4 12 12 L st M)
theorem f12_12 (S : pm_S) (d : Nat) (L : List Value) (st : List Value) (M : pm_M) : fr S (d + 1) (12, 12, L, st) M = match pm_ag 4 [] st with
  | some (a, r) => if r.length ≤ 4 ∧ (1 = 0 ∨ pm_obj M 0 (a.headD pm_U) = true) then (match fr S d (27, 0, a ++ [], []) M with
    | none => none
    | some (.inl v, M') => fr S (d + 1) (12, 15, L, v.toList ++ r) M'
    | some (.inr E, M') => some (.inr E, M')) else none
  | none => none := (fr_eq S (d + 1) (12, 12, L, st) M).trans (x_ocl _ _ 1 27 4 0 [] 12 15 L st M)
theorem f12_15 (S : pm_S) (d : Nat) (L : List Value) (x : Int32) (r : List Value) (M : pm_M) : fr S (d) (12, 15, L, .int x :: r) M = if x = 0 then fr S d (12, 39, L, r) M else fr S d (12, 18, L, r) M := (fr_eq S (d) (12, 15, L, .int x :: r) M).trans (x_oc1eq _ _ 12 18 39 L r x M)
theorem f12_18 (S : pm_S) (d : Nat) (L : List Value) (st : List Value) (M : pm_M) : fr S (d) (12, 18, L, st) M = if pm_ty (L.getD 5 pm_U) = 2 then fr S d (12, 20, L, L.getD 5 pm_U :: st) M else none := (fr_eq S (d) (12, 18, L, st) M).trans (x_old _ _ 2 5 12 20 L st M)
theorem f12_20 (S : pm_S) (d : Nat) (L : List Value) (v : Value) (r : List Value) (M : pm_M) : fr S (d) (12, 20, L, v :: r) M = if pm_ty v = 2 then (if v = .null then fr S d (12, 49, L, r) M else fr S d (12, 23, L, r) M) else none := (fr_eq S (d) (12, 20, L, v :: r) M).trans (x_onu _ _ 49 23 12 L r v M)
theorem f12_23 (S : pm_S) (d : Nat) (L : List Value) (st : List Value) (M : pm_M) : fr S (d) (12, 23, L, st) M = if pm_ty (L.getD 5 pm_U) = 2 then fr S d (12, 25, L, L.getD 5 pm_U :: st) M else none := (fr_eq S (d) (12, 23, L, st) M).trans (x_old _ _ 2 5 12 25 L st M)
theorem f12_25 (S : pm_S) (d : Nat) (L : List Value) (st : List Value) (M : pm_M) : fr S (d + 1) (12, 25, L, st) M = match pm_ag 1 [] st with
  | some (a, r) => if r.length ≤ 4 ∧ (1 = 0 ∨ pm_obj M 1 (a.headD pm_U) = true) then (match fr S d (61, 0, a ++ [], []) M with
    | none => none
    | some (.inl v, M') => fr S (d + 1) (12, 28, L, v.toList ++ r) M'
    | some (.inr E, M') => some (.inr E, M')) else none
  | none => none := (fr_eq S (d + 1) (12, 25, L, st) M).trans (x_ocl _ _ 1 61 1 1 [] 12 28 L st M)
theorem f12_28 (S : pm_S) (d : Nat) (L : List Value) (x : Int32) (r : List Value) (M : pm_M) : fr S (d) (12, 28, L, .int x :: r) M = if x = 0 then fr S d (12, 49, L, r) M else fr S d (12, 31, L, r) M := (fr_eq S (d) (12, 28, L, .int x :: r) M).trans (x_oc1eq _ _ 12 31 49 L r x M)
theorem f12_31 (S : pm_S) (d : Nat) (L : List Value) (st : List Value) (M : pm_M) : fr S (d) (12, 31, L, st) M = if pm_ty (L.getD 0 pm_U) = 2 then fr S d (12, 32, L, L.getD 0 pm_U :: st) M else none := (fr_eq S (d) (12, 31, L, st) M).trans (x_old _ _ 2 0 12 32 L st M)
theorem f12_32 (S : pm_S) (d : Nat) (L : List Value) (st : List Value) (M : pm_M) : fr S (d) (12, 32, L, st) M = if pm_ty (L.getD 2 pm_U) = 0 then fr S d (12, 33, L, L.getD 2 pm_U :: st) M else none := (fr_eq S (d) (12, 32, L, st) M).trans (x_old _ _ 0 2 12 33 L st M)
theorem f12_33 (S : pm_S) (d : Nat) (L : List Value) (st : List Value) (M : pm_M) : fr S (d + 1) (12, 33, L, st) M = match pm_ag 2 [] st with
  | some (a, r) => if r.length ≤ 4 ∧ (1 = 0 ∨ pm_obj M 0 (a.headD pm_U) = true) then (match fr S d (28, 0, a ++ [], []) M with
    | none => none
    | some (.inl v, M') => fr S (d + 1) (12, 36, L, v.toList ++ r) M'
    | some (.inr E, M') => some (.inr E, M')) else none
  | none => none := (fr_eq S (d + 1) (12, 33, L, st) M).trans (x_ocl _ _ 1 28 2 0 [] 12 36 L st M)
theorem f12_36 (S : pm_S) (d : Nat) (L : List Value) (x : Int32) (r : List Value) (M : pm_M) : fr S (d) (12, 36, L, .int x :: r) M = if ¬ x = 0 then fr S d (12, 49, L, r) M else fr S d (12, 39, L, r) M := (fr_eq S (d) (12, 36, L, .int x :: r) M).trans (x_oc1ne _ _ 12 39 49 L r x M)
theorem f12_39 (S : pm_S) (d : Nat) (L : List Value) (st : List Value) (M : pm_M) : fr S (d) (12, 39, L, st) M = if st.length ≤ 8 then some (.inr "java/lang/IndexOutOfBoundsException", pm_thr M) else none := (fr_eq S (d) (12, 39, L, st) M).trans (x_oth _ _ "java/lang/IndexOutOfBoundsException" st M)
theorem f12_42 (S : pm_S) (d : Nat) (L : List Value) (v : Value) (r : List Value) (M : pm_M) : fr S (d) (12, 42, L, v :: r) M = if ¬ pm_ty v = 1 ∧ ¬ pm_ty v = 9 then fr S d (12, 43, L, v :: v :: r) M else none := (fr_eq S (d) (12, 42, L, v :: r) M).trans (x_odup _ _ 12 43 L r v M)
theorem f12_49 (S : pm_S) (d : Nat) (L : List Value) (st : List Value) (M : pm_M) : fr S (d) (12, 49, L, st) M = if pm_ty (L.getD 5 pm_U) = 2 then fr S d (12, 51, L, L.getD 5 pm_U :: st) M else none := (fr_eq S (d) (12, 49, L, st) M).trans (x_old _ _ 2 5 12 51 L st M)
theorem f12_51 (S : pm_S) (d : Nat) (L : List Value) (v : Value) (r : List Value) (M : pm_M) : fr S (d) (12, 51, L, v :: r) M = if pm_ty v = 2 then (if v = .null then fr S d (12, 79, L, r) M else fr S d (12, 54, L, r) M) else none := (fr_eq S (d) (12, 51, L, v :: r) M).trans (x_onu _ _ 79 54 12 L r v M)
theorem f12_54 (S : pm_S) (d : Nat) (L : List Value) (st : List Value) (M : pm_M) : fr S (d) (12, 54, L, st) M = if pm_ty (L.getD 5 pm_U) = 2 then fr S d (12, 56, L, L.getD 5 pm_U :: st) M else none := (fr_eq S (d) (12, 54, L, st) M).trans (x_old _ _ 2 5 12 56 L st M)
theorem f12_56 (S : pm_S) (d : Nat) (L : List Value) (st : List Value) (M : pm_M) : fr S (d + 1) (12, 56, L, st) M = match pm_ag 1 [] st with
  | some (a, r) => if r.length ≤ 4 ∧ (1 = 0 ∨ pm_obj M 1 (a.headD pm_U) = true) then (match fr S d (64, 0, a ++ [], []) M with
    | none => none
    | some (.inl v, M') => fr S (d + 1) (12, 59, L, v.toList ++ r) M'
    | some (.inr E, M') => some (.inr E, M')) else none
  | none => none := (fr_eq S (d + 1) (12, 56, L, st) M).trans (x_ocl _ _ 1 64 1 1 [] 12 59 L st M)
theorem f12_59 (S : pm_S) (d : Nat) (L : List Value) (x : Int32) (r : List Value) (M : pm_M) : fr S (d) (12, 59, L, .int x :: r) M = if ¬ x = 0 then fr S d (12, 79, L, r) M else fr S d (12, 62, L, r) M := (fr_eq S (d) (12, 59, L, .int x :: r) M).trans (x_oc1ne _ _ 12 62 79 L r x M)
theorem f12_62 (S : pm_S) (d : Nat) (L : List Value) (st : List Value) (M : pm_M) : fr S (d) (12, 62, L, st) M = if pm_ty (L.getD 0 pm_U) = 2 then fr S d (12, 63, L, L.getD 0 pm_U :: st) M else none := (fr_eq S (d) (12, 62, L, st) M).trans (x_old _ _ 2 0 12 63 L st M)
theorem f12_63 (S : pm_S) (d : Nat) (L : List Value) (st : List Value) (M : pm_M) : fr S (d) (12, 63, L, st) M = if pm_ty (L.getD 2 pm_U) = 0 then fr S d (12, 64, L, L.getD 2 pm_U :: st) M else none := (fr_eq S (d) (12, 63, L, st) M).trans (x_old _ _ 0 2 12 64 L st M)
theorem f12_64 (S : pm_S) (d : Nat) (L : List Value) (st : List Value) (M : pm_M) : fr S (d) (12, 64, L, st) M = if pm_ty (L.getD 5 pm_U) = 2 then fr S d (12, 66, L, L.getD 5 pm_U :: st) M else none := (fr_eq S (d) (12, 64, L, st) M).trans (x_old _ _ 2 5 12 66 L st M)
theorem f12_66 (S : pm_S) (d : Nat) (L : List Value) (st : List Value) (M : pm_M) : fr S (d) (12, 66, L, st) M = if pm_ty (L.getD 2 pm_U) = 0 then fr S d (12, 67, L, L.getD 2 pm_U :: st) M else none := (fr_eq S (d) (12, 66, L, st) M).trans (x_old _ _ 0 2 12 67 L st M)
theorem f12_67 (S : pm_S) (d : Nat) (L : List Value) (st : List Value) (M : pm_M) : fr S (d + 1) (12, 67, L, st) M = match pm_ag 2 [] st with
  | some (a, r) => if r.length ≤ 4 ∧ (1 = 0 ∨ pm_obj M 1 (a.headD pm_U) = true) then (match fr S d (63, 0, a ++ [], []) M with
    | none => none
    | some (.inl v, M') => fr S (d + 1) (12, 70, L, v.toList ++ r) M'
    | some (.inr E, M') => some (.inr E, M')) else none
  | none => none := (fr_eq S (d + 1) (12, 67, L, st) M).trans (x_ocl _ _ 1 63 2 1 [] 12 70 L st M)
theorem f12_70 (S : pm_S) (d : Nat) (L : List Value) (st : List Value) (M : pm_M) : fr S (d) (12, 70, L, st) M = if pm_ty (L.getD 3 pm_U) = 0 then fr S d (12, 71, L, L.getD 3 pm_U :: st) M else none := (fr_eq S (d) (12, 70, L, st) M).trans (x_old _ _ 0 3 12 71 L st M)
theorem f12_71 (S : pm_S) (d : Nat) (L : List Value) (st : List Value) (M : pm_M) : fr S (d) (12, 71, L, st) M = if pm_ty (L.getD 4 pm_U) = 0 then fr S d (12, 73, L, L.getD 4 pm_U :: st) M else none := (fr_eq S (d) (12, 71, L, st) M).trans (x_old _ _ 0 4 12 73 L st M)
theorem f12_73 (S : pm_S) (d : Nat) (L : List Value) (st : List Value) (M : pm_M) : fr S (d + 1) (12, 73, L, st) M = match pm_ag 5 [] st with
  | some (a, r) => if r.length ≤ 4 ∧ (1 = 0 ∨ pm_obj M 0 (a.headD pm_U) = true) then (match fr S d (32, 0, a ++ [pm_U], []) M with
    | none => none
    | some (.inl v, M') => fr S (d + 1) (12, 76, L, v.toList ++ r) M'
    | some (.inr E, M') => some (.inr E, M')) else none
  | none => none := (fr_eq S (d + 1) (12, 73, L, st) M).trans (x_ocl _ _ 1 32 5 0 [pm_U] 12 76 L st M)
theorem f12_76 (S : pm_S) (d : Nat) (L : List Value) (x : Int32) (r : List Value) (M : pm_M) : fr S (d) (12, 76, L, .int x :: r) M = if ¬ x = 0 then fr S d (12, 81, L, r) M else fr S d (12, 79, L, r) M := (fr_eq S (d) (12, 76, L, .int x :: r) M).trans (x_oc1ne _ _ 12 79 81 L r x M)
theorem f12_79 (S : pm_S) (d : Nat) (L : List Value) (st : List Value) (M : pm_M) : fr S (d) (12, 79, L, st) M = fr S d (12, 80, L, .int 0 :: st) M := (fr_eq S (d) (12, 79, L, st) M).trans (x_ocs _ _ (.int 0) 12 80 L st M)
theorem f12_80 (S : pm_S) (d : Nat) (L : List Value) (v : Value) (M : pm_M) : fr S (d) (12, 80, L, [v]) M = if pm_fit 3 v = true then some (.inl (some v), M) else none := (fr_eq S (d) (12, 80, L, [v]) M).trans (x_ort _ _ 3 v M)
theorem f12_81 (S : pm_S) (d : Nat) (L : List Value) (st : List Value) (M : pm_M) : fr S (d) (12, 81, L, st) M = if pm_ty (L.getD 0 pm_U) = 2 then fr S d (12, 82, L, L.getD 0 pm_U :: st) M else none := (fr_eq S (d) (12, 81, L, st) M).trans (x_old _ _ 2 0 12 82 L st M)
theorem f12_82 (S : pm_S) (d : Nat) (L : List Value) (st : List Value) (M : pm_M) : fr S (d) (12, 82, L, st) M = if pm_ty (L.getD 5 pm_U) = 2 then fr S d (12, 84, L, L.getD 5 pm_U :: st) M else none := (fr_eq S (d) (12, 82, L, st) M).trans (x_old _ _ 2 5 12 84 L st M)
theorem f12_84 (S : pm_S) (d : Nat) (L : List Value) (st : List Value) (M : pm_M) : fr S (d) (12, 84, L, st) M = if pm_ty (L.getD 2 pm_U) = 0 then fr S d (12, 85, L, L.getD 2 pm_U :: st) M else none := (fr_eq S (d) (12, 84, L, st) M).trans (x_old _ _ 0 2 12 85 L st M)
theorem f12_85 (S : pm_S) (d : Nat) (L : List Value) (st : List Value) (M : pm_M) : fr S (d) (12, 85, L, st) M = if pm_ty (L.getD 3 pm_U) = 0 then fr S d (12, 86, L, L.getD 3 pm_U :: st) M else none := (fr_eq S (d) (12, 85, L, st) M).trans (x_old _ _ 0 3 12 86 L st M)
theorem f12_86 (S : pm_S) (d : Nat) (L : List Value) (st : List Value) (M : pm_M) : fr S (d) (12, 86, L, st) M = if pm_ty (L.getD 4 pm_U) = 0 then fr S d (12, 88, L, L.getD 4 pm_U :: st) M else none := (fr_eq S (d) (12, 86, L, st) M).trans (x_old _ _ 0 4 12 88 L st M)
theorem f12_88 (S : pm_S) (d : Nat) (L : List Value) (st : List Value) (M : pm_M) : fr S (d + 1) (12, 88, L, st) M = match pm_ag 5 [] st with
  | some (a, r) => if r.length ≤ 4 ∧ (1 = 0 ∨ pm_obj M 0 (a.headD pm_U) = true) then (match fr S d (33, 0, a ++ [], []) M with
    | none => none
    | some (.inl v, M') => fr S (d + 1) (12, 91, L, v.toList ++ r) M'
    | some (.inr E, M') => some (.inr E, M')) else none
  | none => none := (fr_eq S (d + 1) (12, 88, L, st) M).trans (x_ocl _ _ 1 33 5 0 [] 12 91 L st M)
theorem f12_91 (S : pm_S) (d : Nat) (L : List Value) (st : List Value) (M : pm_M) : fr S (d) (12, 91, L, st) M = fr S d (12, 92, L, .int 1 :: st) M := (fr_eq S (d) (12, 91, L, st) M).trans (x_ocs _ _ (.int 1) 12 92 L st M)
theorem f12_92 (S : pm_S) (d : Nat) (L : List Value) (v : Value) (M : pm_M) : fr S (d) (12, 92, L, [v]) M = if pm_fit 3 v = true then some (.inl (some v), M) else none := (fr_eq S (d) (12, 92, L, [v]) M).trans (x_ort _ _ 3 v M)
theorem f13_0 (S : pm_S) (d : Nat) (L : List Value) (st : List Value) (M : pm_M) : fr S (d) (13, 0, L, st) M = if pm_ty (L.getD 0 pm_U) = 2 then fr S d (13, 1, L, L.getD 0 pm_U :: st) M else none := (fr_eq S (d) (13, 0, L, st) M).trans (x_old _ _ 2 0 13 1 L st M)
theorem f13_1 (S : pm_S) (d : Nat) (L : List Value) (st : List Value) (M : pm_M) : fr S (d) (13, 1, L, st) M = if pm_ty (L.getD 1 pm_U) = 0 then fr S d (13, 2, L, L.getD 1 pm_U :: st) M else none := (fr_eq S (d) (13, 1, L, st) M).trans (x_old _ _ 0 1 13 2 L st M)
theorem f13_2 (S : pm_S) (d : Nat) (L : List Value) (st : List Value) (M : pm_M) : fr S (d + 1) (13, 2, L, st) M = match pm_ag 2 [] st with
  | some (a, r) => if r.length ≤ 4 ∧ (1 = 0 ∨ pm_obj M 0 (a.headD pm_U) = true) then (match fr S d (30, 0, a ++ [], []) M with
    | none => none
    | some (.inl v, M') => fr S (d + 1) (13, 5, L, v.toList ++ r) M'
    | some (.inr E, M') => some (.inr E, M')) else none
  | none => none := (fr_eq S (d + 1) (13, 2, L, st) M).trans (x_ocl _ _ 1 30 2 0 [] 13 5 L st M)
theorem f13_5 (S : pm_S) (d : Nat) (L : List Value) (v : Value) (r : List Value) (M : pm_M) : fr S (d) (13, 5, L, v :: r) M = if pm_ty v = 2 ∧ 2 < L.length ∧ ¬ pm_ty (L.getD (2 - 1) pm_U) = 1 then fr S d (13, 6, L.set 2 v, r) M else none := (fr_eq S (d) (13, 5, L, v :: r) M).trans (x_ost _ _ 2 2 13 6 L r v M)
theorem f13_6 (S : pm_S) (d : Nat) (L : List Value) (st : List Value) (M : pm_M) : fr S (d) (13, 6, L, st) M = if pm_ty (L.getD 2 pm_U) = 2 then fr S d (13, 7, L, L.getD 2 pm_U :: st) M else none := (fr_eq S (d) (13, 6, L, st) M).trans (x_old _ _ 2 2 13 7 L st M)
theorem f13_7 (S : pm_S) (d : Nat) (L : List Value) (v : Value) (r : List Value) (M : pm_M) : fr S (d) (13, 7, L, v :: r) M = if pm_ty v = 2 then (if v = .null then fr S d (13, 17, L, r) M else fr S d (13, 10, L, r) M) else none := (fr_eq S (d) (13, 7, L, v :: r) M).trans (x_onu _ _ 17 10 13 L r v M)
theorem f13_10 (S : pm_S) (d : Nat) (L : List Value) (st : List Value) (M : pm_M) : fr S (d) (13, 10, L, st) M = if pm_ty (L.getD 2 pm_U) = 2 then fr S d (13, 11, L, L.getD 2 pm_U :: st) M else none := (fr_eq S (d) (13, 10, L, st) M).trans (x_old _ _ 2 2 13 11 L st M)
theorem f13_11 (S : pm_S) (d : Nat) (L : List Value) (st : List Value) (M : pm_M) : fr S (d + 1) (13, 11, L, st) M = match pm_ag 1 [] st with
  | some (a, r) => if r.length ≤ 4 ∧ (1 = 0 ∨ pm_obj M 1 (a.headD pm_U) = true) then (match fr S d (64, 0, a ++ [], []) M with
    | none => none
    | some (.inl v, M') => fr S (d + 1) (13, 14, L, v.toList ++ r) M'
    | some (.inr E, M') => some (.inr E, M')) else none
  | none => none := (fr_eq S (d + 1) (13, 11, L, st) M).trans (x_ocl _ _ 1 64 1 1 [] 13 14 L st M)
theorem f13_14 (S : pm_S) (d : Nat) (L : List Value) (x : Int32) (r : List Value) (M : pm_M) : fr S (d) (13, 14, L, .int x :: r) M = if ¬ x = 0 then fr S d (13, 19, L, r) M else fr S d (13, 17, L, r) M := (fr_eq S (d) (13, 14, L, .int x :: r) M).trans (x_oc1ne _ _ 13 17 19 L r x M)
theorem f13_17 (S : pm_S) (d : Nat) (L : List Value) (st : List Value) (M : pm_M) : fr S (d) (13, 17, L, st) M = fr S d (13, 18, L, .int 0 :: st) M := (fr_eq S (d) (13, 17, L, st) M).trans (x_ocs _ _ (.int 0) 13 18 L st M)
theorem f13_18 (S : pm_S) (d : Nat) (L : List Value) (v : Value) (M : pm_M) : fr S (d) (13, 18, L, [v]) M = if pm_fit 3 v = true then some (.inl (some v), M) else none := (fr_eq S (d) (13, 18, L, [v]) M).trans (x_ort _ _ 3 v M)
theorem f13_19 (S : pm_S) (d : Nat) (L : List Value) (st : List Value) (M : pm_M) : fr S (d) (13, 19, L, st) M = if pm_ty (L.getD 0 pm_U) = 2 then fr S d (13, 20, L, L.getD 0 pm_U :: st) M else none := (fr_eq S (d) (13, 19, L, st) M).trans (x_old _ _ 2 0 13 20 L st M)
theorem f13_20 (S : pm_S) (d : Nat) (L : List Value) (st : List Value) (M : pm_M) : fr S (d) (13, 20, L, st) M = if pm_ty (L.getD 2 pm_U) = 2 then fr S d (13, 21, L, L.getD 2 pm_U :: st) M else none := (fr_eq S (d) (13, 20, L, st) M).trans (x_old _ _ 2 2 13 21 L st M)
theorem f13_21 (S : pm_S) (d : Nat) (L : List Value) (st : List Value) (M : pm_M) : fr S (d + 1) (13, 21, L, st) M = match pm_ag 2 [] st with
  | some (a, r) => if r.length ≤ 4 ∧ (1 = 0 ∨ pm_obj M 0 (a.headD pm_U) = true) then (match fr S d (34, 0, a ++ [], []) M with
    | none => none
    | some (.inl v, M') => fr S (d + 1) (13, 24, L, v.toList ++ r) M'
    | some (.inr E, M') => some (.inr E, M')) else none
  | none => none := (fr_eq S (d + 1) (13, 21, L, st) M).trans (x_ocl _ _ 1 34 2 0 [] 13 24 L st M)
theorem f13_24 (S : pm_S) (d : Nat) (L : List Value) (st : List Value) (M : pm_M) : fr S (d) (13, 24, L, st) M = fr S d (13, 25, L, .int 1 :: st) M := (fr_eq S (d) (13, 24, L, st) M).trans (x_ocs _ _ (.int 1) 13 25 L st M)
theorem f13_25 (S : pm_S) (d : Nat) (L : List Value) (v : Value) (M : pm_M) : fr S (d) (13, 25, L, [v]) M = if pm_fit 3 v = true then some (.inl (some v), M) else none := (fr_eq S (d) (13, 25, L, [v]) M).trans (x_ort _ _ 3 v M)
theorem f14_0 (S : pm_S) (d : Nat) (L : List Value) (st : List Value) (M : pm_M) : fr S (d) (14, 0, L, st) M = if pm_ty (L.getD 0 pm_U) = 2 then fr S d (14, 1, L, L.getD 0 pm_U :: st) M else none := (fr_eq S (d) (14, 0, L, st) M).trans (x_old _ _ 2 0 14 1 L st M)
theorem f14_1 (S : pm_S) (d : Nat) (L : List Value) (st : List Value) (M : pm_M) : fr S (d) (14, 1, L, st) M = if pm_ty (L.getD 1 pm_U) = 0 then fr S d (14, 2, L, L.getD 1 pm_U :: st) M else none := (fr_eq S (d) (14, 1, L, st) M).trans (x_old _ _ 0 1 14 2 L st M)
theorem f14_2 (S : pm_S) (d : Nat) (L : List Value) (st : List Value) (M : pm_M) : fr S (d + 1) (14, 2, L, st) M = match pm_ag 2 [] st with
  | some (a, r) => if r.length ≤ 4 ∧ (1 = 0 ∨ pm_obj M 0 (a.headD pm_U) = true) then (match fr S d (26, 0, a ++ [], []) M with
    | none => none
    | some (.inl v, M') => fr S (d + 1) (14, 5, L, v.toList ++ r) M'
    | some (.inr E, M') => some (.inr E, M')) else none
  | none => none := (fr_eq S (d + 1) (14, 2, L, st) M).trans (x_ocl _ _ 1 26 2 0 [] 14 5 L st M)
theorem f14_5 (S : pm_S) (d : Nat) (L : List Value) (x : Int32) (r : List Value) (M : pm_M) : fr S (d) (14, 5, L, .int x :: r) M = if x = 0 then fr S d (14, 20, L, r) M else fr S d (14, 8, L, r) M := (fr_eq S (d) (14, 5, L, .int x :: r) M).trans (x_oc1eq _ _ 14 8 20 L r x M)
theorem f14_8 (S : pm_S) (d : Nat) (L : List Value) (st : List Value) (M : pm_M) : fr S (d) (14, 8, L, st) M = if pm_ty (L.getD 2 pm_U) = 0 then fr S d (14, 9, L, L.getD 2 pm_U :: st) M else none := (fr_eq S (d) (14, 8, L, st) M).trans (x_old _ _ 0 2 14 9 L st M)
theorem f14_9 (S : pm_S) (d : Nat) (L : List Value) (st : List Value) (M : pm_M) : fr S (d) (14, 9, L, st) M = fr S d (14, 10, L, .int 1 :: st) M := (fr_eq S (d) (14, 9, L, st) M).trans (x_ocs _ _ (.int 1) 14 10 L st M)
theorem f14_10 (S : pm_S) (d : Nat) (L : List Value) (x y : Int32) (r : List Value) (M : pm_M) : fr S (d) (14, 10, L, .int y :: .int x :: r) M = if x < y then fr S d (14, 20, L, r) M else fr S d (14, 13, L, r) M := (fr_eq S (d) (14, 10, L, .int y :: .int x :: r) M).trans (x_oc2lt _ _ 14 13 20 L r x y M)
theorem f14_13 (S : pm_S) (d : Nat) (L : List Value) (st : List Value) (M : pm_M) : fr S (d) (14, 13, L, st) M = if pm_ty (L.getD 2 pm_U) = 0 then fr S d (14, 14, L, L.getD 2 pm_U :: st) M else none := (fr_eq S (d) (14, 13, L, st) M).trans (x_old _ _ 0 2 14 14 L st M)
theorem f14_14 (S : pm_S) (d : Nat) (L : List Value) (st : List Value) (M : pm_M) : fr S (d) (14, 14, L, st) M = fr S d (14, 17, L, .int 200 :: st) M := (fr_eq S (d) (14, 14, L, st) M).trans (x_ocs _ _ (.int 200) 14 17 L st M)
theorem f14_17 (S : pm_S) (d : Nat) (L : List Value) (x y : Int32) (r : List Value) (M : pm_M) : fr S (d) (14, 17, L, .int y :: .int x :: r) M = if x ≤ y then fr S d (14, 22, L, r) M else fr S d (14, 20, L, r) M := (fr_eq S (d) (14, 17, L, .int y :: .int x :: r) M).trans (x_oc2le _ _ 14 20 22 L r x y M)
theorem f14_20 (S : pm_S) (d : Nat) (L : List Value) (st : List Value) (M : pm_M) : fr S (d) (14, 20, L, st) M = fr S d (14, 21, L, .int 0 :: st) M := (fr_eq S (d) (14, 20, L, st) M).trans (x_ocs _ _ (.int 0) 14 21 L st M)
theorem f14_21 (S : pm_S) (d : Nat) (L : List Value) (v : Value) (M : pm_M) : fr S (d) (14, 21, L, [v]) M = if pm_fit 3 v = true then some (.inl (some v), M) else none := (fr_eq S (d) (14, 21, L, [v]) M).trans (x_ort _ _ 3 v M)
theorem f14_22 (S : pm_S) (d : Nat) (L : List Value) (st : List Value) (M : pm_M) : fr S (d) (14, 22, L, st) M = if pm_ty (L.getD 0 pm_U) = 2 then fr S d (14, 23, L, L.getD 0 pm_U :: st) M else none := (fr_eq S (d) (14, 22, L, st) M).trans (x_old _ _ 2 0 14 23 L st M)
theorem f14_23 (S : pm_S) (d : Nat) (L : List Value) (q : Nat) (r : List Value) (M : pm_M) : fr S (d) (14, 23, L, .ref q :: r) M = match pm_get M q with
  | some (.inr (c, fs)) => if c = 0 ∧ 7 < fs.length then fr S d (14, 26, L, fs.getD 7 pm_U :: r) M else none
  | _ => none := (fr_eq S (d) (14, 23, L, .ref q :: r) M).trans (x_ogf _ _ 0 7 14 26 L r q M)
theorem f14_26 (S : pm_S) (d : Nat) (L : List Value) (st : List Value) (M : pm_M) : fr S (d) (14, 26, L, st) M = if pm_ty (L.getD 1 pm_U) = 0 then fr S d (14, 27, L, L.getD 1 pm_U :: st) M else none := (fr_eq S (d) (14, 26, L, st) M).trans (x_old _ _ 0 1 14 27 L st M)
theorem f14_27 (S : pm_S) (d : Nat) (L : List Value) (st : List Value) (M : pm_M) : fr S (d) (14, 27, L, st) M = if pm_ty (L.getD 2 pm_U) = 0 then fr S d (14, 28, L, L.getD 2 pm_U :: st) M else none := (fr_eq S (d) (14, 27, L, st) M).trans (x_old _ _ 0 2 14 28 L st M)
theorem f14_28 (S : pm_S) (d : Nat) (L : List Value) (v : Value) (i : Int32) (q : Nat) (r : List Value) (M : pm_M) : fr S (d) (14, 28, L, v :: .int i :: .ref q :: r) M = if pm_sq M 9 v = true then (match (pm_get M q).bind (fun c => pm_ev 0 0 c i v) with
  | some c => fr S d (14, 29, L, r) (pm_set M q c)
  | none => none) else none := (fr_eq S (d) (14, 28, L, v :: .int i :: .ref q :: r) M).trans (x_oas _ _ 0 0 9 14 29 L r v i q M)
theorem f14_29 (S : pm_S) (d : Nat) (L : List Value) (st : List Value) (M : pm_M) : fr S (d) (14, 29, L, st) M = fr S d (14, 30, L, .int 1 :: st) M := (fr_eq S (d) (14, 29, L, st) M).trans (x_ocs _ _ (.int 1) 14 30 L st M)
theorem f14_30 (S : pm_S) (d : Nat) (L : List Value) (v : Value) (M : pm_M) : fr S (d) (14, 30, L, [v]) M = if pm_fit 3 v = true then some (.inl (some v), M) else none := (fr_eq S (d) (14, 30, L, [v]) M).trans (x_ort _ _ 3 v M)
theorem f15_0 (S : pm_S) (d : Nat) (L : List Value) (st : List Value) (M : pm_M) : fr S (d) (15, 0, L, st) M = if pm_ty (L.getD 0 pm_U) = 2 then fr S d (15, 1, L, L.getD 0 pm_U :: st) M else none := (fr_eq S (d) (15, 0, L, st) M).trans (x_old _ _ 2 0 15 1 L st M)
theorem f15_1 (S : pm_S) (d : Nat) (L : List Value) (st : List Value) (M : pm_M) : fr S (d) (15, 1, L, st) M = if pm_ty (L.getD 1 pm_U) = 0 then fr S d (15, 2, L, L.getD 1 pm_U :: st) M else none := (fr_eq S (d) (15, 1, L, st) M).trans (x_old _ _ 0 1 15 2 L st M)
theorem f15_2 (S : pm_S) (d : Nat) (L : List Value) (st : List Value) (M : pm_M) : fr S (d) (15, 2, L, st) M = if pm_ty (L.getD 2 pm_U) = 0 then fr S d (15, 3, L, L.getD 2 pm_U :: st) M else none := (fr_eq S (d) (15, 2, L, st) M).trans (x_old _ _ 0 2 15 3 L st M)
theorem f15_3 (S : pm_S) (d : Nat) (L : List Value) (st : List Value) (M : pm_M) : fr S (d) (15, 3, L, st) M = if pm_ty (L.getD 3 pm_U) = 0 then fr S d (15, 4, L, L.getD 3 pm_U :: st) M else none := (fr_eq S (d) (15, 3, L, st) M).trans (x_old _ _ 0 3 15 4 L st M)
theorem f15_4 (S : pm_S) (d : Nat) (L : List Value) (st : List Value) (M : pm_M) : fr S (d + 1) (15, 4, L, st) M = match pm_ag 4 [] st with
  | some (a, r) => if r.length ≤ 4 ∧ (1 = 0 ∨ pm_obj M 0 (a.headD pm_U) = true) then (match fr S d (29, 0, a ++ [], []) M with
    | none => none
    | some (.inl v, M') => fr S (d + 1) (15, 7, L, v.toList ++ r) M'
    | some (.inr E, M') => some (.inr E, M')) else none
  | none => none := (fr_eq S (d + 1) (15, 4, L, st) M).trans (x_ocl _ _ 1 29 4 0 [] 15 7 L st M)
theorem f15_7 (S : pm_S) (d : Nat) (L : List Value) (v : Value) (r : List Value) (M : pm_M) : fr S (d) (15, 7, L, v :: r) M = if pm_ty v = 0 ∧ 5 < L.length ∧ ¬ pm_ty (L.getD (5 - 1) pm_U) = 1 then fr S d (15, 9, L.set 5 v, r) M else none := (fr_eq S (d) (15, 7, L, v :: r) M).trans (x_ost _ _ 0 5 15 9 L r v M)
theorem f15_9 (S : pm_S) (d : Nat) (L : List Value) (st : List Value) (M : pm_M) : fr S (d) (15, 9, L, st) M = if pm_ty (L.getD 5 pm_U) = 0 then fr S d (15, 11, L, L.getD 5 pm_U :: st) M else none := (fr_eq S (d) (15, 9, L, st) M).trans (x_old _ _ 0 5 15 11 L st M)
theorem f15_11 (S : pm_S) (d : Nat) (L : List Value) (st : List Value) (M : pm_M) : fr S (d) (15, 11, L, st) M = fr S d (15, 12, L, .int (-1) :: st) M := (fr_eq S (d) (15, 11, L, st) M).trans (x_ocs _ _ (.int (-1)) 15 12 L st M)
theorem f15_12 (S : pm_S) (d : Nat) (L : List Value) (x y : Int32) (r : List Value) (M : pm_M) : fr S (d) (15, 12, L, .int y :: .int x :: r) M = if ¬ x = y then fr S d (15, 25, L, r) M else fr S d (15, 15, L, r) M := (fr_eq S (d) (15, 12, L, .int y :: .int x :: r) M).trans (x_oc2ne _ _ 15 15 25 L r x y M)
theorem f15_15 (S : pm_S) (d : Nat) (L : List Value) (st : List Value) (M : pm_M) : fr S (d) (15, 15, L, st) M = if st.length ≤ 8 then some (.inr "java/lang/IndexOutOfBoundsException", pm_thr M) else none := (fr_eq S (d) (15, 15, L, st) M).trans (x_oth _ _ "java/lang/IndexOutOfBoundsException" st M)
theorem f15_18 (S : pm_S) (d : Nat) (L : List Value) (v : Value) (r : List Value) (M : pm_M) : fr S (d) (15, 18, L, v :: r) M = if ¬ pm_ty v = 1 ∧ ¬ pm_ty v = 9 then fr S d (15, 19, L, v :: v :: r) M else none := (fr_eq S (d) (15, 18, L, v :: r) M).trans (x_odup _ _ 15 19 L r v M)
theorem f15_25 (S : pm_S) (d : Nat) (L : List Value) (st : List Value) (M : pm_M) : fr S (d) (15, 25, L, st) M = if pm_ty (L.getD 0 pm_U) = 2 then fr S d (15, 26, L, L.getD 0 pm_U :: st) M else none := (fr_eq S (d) (15, 25, L, st) M).trans (x_old _ _ 2 0 15 26 L st M)
theorem f15_26 (S : pm_S) (d : Nat) (L : List Value) (q : Nat) (r : List Value) (M : pm_M) : fr S (d) (15, 26, L, .ref q :: r) M = match pm_get M q with
  | some (.inr (c, fs)) => if c = 0 ∧ 6 < fs.length then fr S d (15, 29, L, fs.getD 6 pm_U :: r) M else none
  | _ => none := (fr_eq S (d) (15, 26, L, .ref q :: r) M).trans (x_ogf _ _ 0 6 15 29 L r q M)
theorem f15_29 (S : pm_S) (d : Nat) (L : List Value) (st : List Value) (M : pm_M) : fr S (d) (15, 29, L, st) M = if pm_ty (L.getD 5 pm_U) = 0 then fr S d (15, 31, L, L.getD 5 pm_U :: st) M else none := (fr_eq S (d) (15, 29, L, st) M).trans (x_old _ _ 0 5 15 31 L st M)
theorem f15_31 (S : pm_S) (d : Nat) (L : List Value) (i : Int32) (q : Nat) (hq : ¬ q = 1) (r : List Value) (M : pm_M) : fr S (d) (15, 31, L, .int i :: .ref q :: r) M = match (pm_get M q).bind (fun c => pm_el 1 c i) with
  | some v => fr S d (15, 32, L, v :: r) M
  | none => none := (fr_eq S (d) (15, 31, L, .int i :: .ref q :: r) M).trans (x_oal _ _ S 1 15 32 L r i q hq M)
theorem f15_32 (S : pm_S) (d : Nat) (L : List Value) (st : List Value) (M : pm_M) : fr S (d) (15, 32, L, st) M = if pm_ty (L.getD 4 pm_U) = 0 then fr S d (15, 34, L, L.getD 4 pm_U :: st) M else none := (fr_eq S (d) (15, 32, L, st) M).trans (x_old _ _ 0 4 15 34 L st M)
theorem f15_34 (S : pm_S) (d : Nat) (L : List Value) (x y : Int32) (r : List Value) (M : pm_M) : fr S (d) (15, 34, L, .int y :: .int x :: r) M = if ¬ x = y then fr S d (15, 39, L, r) M else fr S d (15, 37, L, r) M := (fr_eq S (d) (15, 34, L, .int y :: .int x :: r) M).trans (x_oc2ne _ _ 15 37 39 L r x y M)
theorem f15_37 (S : pm_S) (d : Nat) (L : List Value) (st : List Value) (M : pm_M) : fr S (d) (15, 37, L, st) M = fr S d (15, 38, L, .int 0 :: st) M := (fr_eq S (d) (15, 37, L, st) M).trans (x_ocs _ _ (.int 0) 15 38 L st M)
theorem f15_38 (S : pm_S) (d : Nat) (L : List Value) (v : Value) (M : pm_M) : fr S (d) (15, 38, L, [v]) M = if pm_fit 3 v = true then some (.inl (some v), M) else none := (fr_eq S (d) (15, 38, L, [v]) M).trans (x_ort _ _ 3 v M)
theorem f15_39 (S : pm_S) (d : Nat) (L : List Value) (st : List Value) (M : pm_M) : fr S (d) (15, 39, L, st) M = if pm_ty (L.getD 0 pm_U) = 2 then fr S d (15, 40, L, L.getD 0 pm_U :: st) M else none := (fr_eq S (d) (15, 39, L, st) M).trans (x_old _ _ 2 0 15 40 L st M)
theorem f15_40 (S : pm_S) (d : Nat) (L : List Value) (q : Nat) (r : List Value) (M : pm_M) : fr S (d) (15, 40, L, .ref q :: r) M = match pm_get M q with
  | some (.inr (c, fs)) => if c = 0 ∧ 6 < fs.length then fr S d (15, 43, L, fs.getD 6 pm_U :: r) M else none
  | _ => none := (fr_eq S (d) (15, 40, L, .ref q :: r) M).trans (x_ogf _ _ 0 6 15 43 L r q M)
theorem f15_43 (S : pm_S) (d : Nat) (L : List Value) (st : List Value) (M : pm_M) : fr S (d) (15, 43, L, st) M = if pm_ty (L.getD 5 pm_U) = 0 then fr S d (15, 45, L, L.getD 5 pm_U :: st) M else none := (fr_eq S (d) (15, 43, L, st) M).trans (x_old _ _ 0 5 15 45 L st M)
theorem f15_45 (S : pm_S) (d : Nat) (L : List Value) (st : List Value) (M : pm_M) : fr S (d) (15, 45, L, st) M = if pm_ty (L.getD 4 pm_U) = 0 then fr S d (15, 47, L, L.getD 4 pm_U :: st) M else none := (fr_eq S (d) (15, 45, L, st) M).trans (x_old _ _ 0 4 15 47 L st M)
theorem f15_47 (S : pm_S) (d : Nat) (L : List Value) (v : Value) (i : Int32) (q : Nat) (r : List Value) (M : pm_M) : fr S (d) (15, 47, L, v :: .int i :: .ref q :: r) M = if pm_sq M 9 v = true then (match (pm_get M q).bind (fun c => pm_ev 3 1 c i v) with
  | some c => fr S d (15, 48, L, r) (pm_set M q c)
  | none => none) else none := (fr_eq S (d) (15, 47, L, v :: .int i :: .ref q :: r) M).trans (x_oas _ _ 3 1 9 15 48 L r v i q M)
theorem f15_48 (S : pm_S) (d : Nat) (L : List Value) (st : List Value) (M : pm_M) : fr S (d) (15, 48, L, st) M = fr S d (15, 49, L, .int 1 :: st) M := (fr_eq S (d) (15, 48, L, st) M).trans (x_ocs _ _ (.int 1) 15 49 L st M)
theorem f15_49 (S : pm_S) (d : Nat) (L : List Value) (v : Value) (M : pm_M) : fr S (d) (15, 49, L, [v]) M = if pm_fit 3 v = true then some (.inl (some v), M) else none := (fr_eq S (d) (15, 49, L, [v]) M).trans (x_ort _ _ 3 v M)
theorem f16_0 (S : pm_S) (d : Nat) (L : List Value) (st : List Value) (M : pm_M) : fr S (d) (16, 0, L, st) M = if pm_ty (L.getD 0 pm_U) = 2 then fr S d (16, 1, L, L.getD 0 pm_U :: st) M else none := (fr_eq S (d) (16, 0, L, st) M).trans (x_old _ _ 2 0 16 1 L st M)
theorem f16_1 (S : pm_S) (d : Nat) (L : List Value) (st : List Value) (M : pm_M) : fr S (d) (16, 1, L, st) M = if pm_ty (L.getD 1 pm_U) = 0 then fr S d (16, 2, L, L.getD 1 pm_U :: st) M else none := (fr_eq S (d) (16, 1, L, st) M).trans (x_old _ _ 0 1 16 2 L st M)
theorem f16_2 (S : pm_S) (d : Nat) (L : List Value) (st : List Value) (M : pm_M) : fr S (d + 1) (16, 2, L, st) M = match pm_ag 2 [] st with
  | some (a, r) => if r.length ≤ 4 ∧ (1 = 0 ∨ pm_obj M 0 (a.headD pm_U) = true) then (match fr S d (30, 0, a ++ [], []) M with
    | none => none
    | some (.inl v, M') => fr S (d + 1) (16, 5, L, v.toList ++ r) M'
    | some (.inr E, M') => some (.inr E, M')) else none
  | none => none := (fr_eq S (d + 1) (16, 2, L, st) M).trans (x_ocl _ _ 1 30 2 0 [] 16 5 L st M)
theorem f16_5 (S : pm_S) (d : Nat) (L : List Value) (v : Value) (r : List Value) (M : pm_M) : fr S (d) (16, 5, L, v :: r) M = if pm_ty v = 2 ∧ 4 < L.length ∧ ¬ pm_ty (L.getD (4 - 1) pm_U) = 1 then fr S d (16, 7, L.set 4 v, r) M else none := (fr_eq S (d) (16, 5, L, v :: r) M).trans (x_ost _ _ 2 4 16 7 L r v M)
theorem f16_7 (S : pm_S) (d : Nat) (L : List Value) (st : List Value) (M : pm_M) : fr S (d) (16, 7, L, st) M = if pm_ty (L.getD 0 pm_U) = 2 then fr S d (16, 8, L, L.getD 0 pm_U :: st) M else none := (fr_eq S (d) (16, 7, L, st) M).trans (x_old _ _ 2 0 16 8 L st M)
theorem f16_8 (S : pm_S) (d : Nat) (L : List Value) (st : List Value) (M : pm_M) : fr S (d) (16, 8, L, st) M = if pm_ty (L.getD 2 pm_U) = 0 then fr S d (16, 9, L, L.getD 2 pm_U :: st) M else none := (fr_eq S (d) (16, 8, L, st) M).trans (x_old _ _ 0 2 16 9 L st M)
theorem f16_9 (S : pm_S) (d : Nat) (L : List Value) (st : List Value) (M : pm_M) : fr S (d + 1) (16, 9, L, st) M = match pm_ag 2 [] st with
  | some (a, r) => if r.length ≤ 4 ∧ (1 = 0 ∨ pm_obj M 0 (a.headD pm_U) = true) then (match fr S d (30, 0, a ++ [], []) M with
    | none => none
    | some (.inl v, M') => fr S (d + 1) (16, 12, L, v.toList ++ r) M'
    | some (.inr E, M') => some (.inr E, M')) else none
  | none => none := (fr_eq S (d + 1) (16, 9, L, st) M).trans (x_ocl _ _ 1 30 2 0 [] 16 12 L st M)
theorem f16_12 (S : pm_S) (d : Nat) (L : List Value) (v : Value) (r : List Value) (M : pm_M) : fr S (d) (16, 12, L, v :: r) M = if pm_ty v = 2 ∧ 5 < L.length ∧ ¬ pm_ty (L.getD (5 - 1) pm_U) = 1 then fr S d (16, 14, L.set 5 v, r) M else none := (fr_eq S (d) (16, 12, L, v :: r) M).trans (x_ost _ _ 2 5 16 14 L r v M)
theorem f16_14 (S : pm_S) (d : Nat) (L : List Value) (st : List Value) (M : pm_M) : fr S (d) (16, 14, L, st) M = if pm_ty (L.getD 4 pm_U) = 2 then fr S d (16, 16, L, L.getD 4 pm_U :: st) M else none := (fr_eq S (d) (16, 14, L, st) M).trans (x_old _ _ 2 4 16 16 L st M)
theorem f16_16 (S : pm_S) (d : Nat) (L : List Value) (v : Value) (r : List Value) (M : pm_M) : fr S (d) (16, 16, L, v :: r) M = if pm_ty v = 2 then (if v = .null then fr S d (16, 42, L, r) M else fr S d (16, 19, L, r) M) else none := (fr_eq S (d) (16, 16, L, v :: r) M).trans (x_onu _ _ 42 19 16 L r v M)
theorem f16_19 (S : pm_S) (d : Nat) (L : List Value) (st : List Value) (M : pm_M) : fr S (d) (16, 19, L, st) M = if pm_ty (L.getD 5 pm_U) = 2 then fr S d (16, 21, L, L.getD 5 pm_U :: st) M else none := (fr_eq S (d) (16, 19, L, st) M).trans (x_old _ _ 2 5 16 21 L st M)
theorem f16_21 (S : pm_S) (d : Nat) (L : List Value) (v : Value) (r : List Value) (M : pm_M) : fr S (d) (16, 21, L, v :: r) M = if pm_ty v = 2 then (if v = .null then fr S d (16, 42, L, r) M else fr S d (16, 24, L, r) M) else none := (fr_eq S (d) (16, 21, L, v :: r) M).trans (x_onu _ _ 42 24 16 L r v M)
theorem f16_24 (S : pm_S) (d : Nat) (L : List Value) (st : List Value) (M : pm_M) : fr S (d) (16, 24, L, st) M = if pm_ty (L.getD 4 pm_U) = 2 then fr S d (16, 26, L, L.getD 4 pm_U :: st) M else none := (fr_eq S (d) (16, 24, L, st) M).trans (x_old _ _ 2 4 16 26 L st M)
theorem f16_26 (S : pm_S) (d : Nat) (L : List Value) (st : List Value) (M : pm_M) : fr S (d) (16, 26, L, st) M = if pm_ty (L.getD 5 pm_U) = 2 then fr S d (16, 28, L, L.getD 5 pm_U :: st) M else none := (fr_eq S (d) (16, 26, L, st) M).trans (x_old _ _ 2 5 16 28 L st M)
theorem f16_28 (S : pm_S) (d : Nat) (L : List Value) (v w : Value) (r : List Value) (M : pm_M) : fr S (d) (16, 28, L, w :: v :: r) M = if pm_lv M v = true ∧ pm_lv M w = true then (if v = w then fr S d (16, 42, L, r) M else fr S d (16, 31, L, r) M) else none := (fr_eq S (d) (16, 28, L, w :: v :: r) M).trans (x_oac _ _ 42 31 16 L r v w M)
theorem f16_31 (S : pm_S) (d : Nat) (L : List Value) (st : List Value) (M : pm_M) : fr S (d) (16, 31, L, st) M = if pm_ty (L.getD 4 pm_U) = 2 then fr S d (16, 33, L, L.getD 4 pm_U :: st) M else none := (fr_eq S (d) (16, 31, L, st) M).trans (x_old _ _ 2 4 16 33 L st M)
theorem f16_33 (S : pm_S) (d : Nat) (L : List Value) (st : List Value) (M : pm_M) : fr S (d) (16, 33, L, st) M = if pm_ty (L.getD 5 pm_U) = 2 then fr S d (16, 35, L, L.getD 5 pm_U :: st) M else none := (fr_eq S (d) (16, 33, L, st) M).trans (x_old _ _ 2 5 16 35 L st M)
theorem f16_35 (S : pm_S) (d : Nat) (L : List Value) (st : List Value) (M : pm_M) : fr S (d + 1) (16, 35, L, st) M = match pm_ag 2 [] st with
  | some (a, r) => if r.length ≤ 4 ∧ (1 = 0 ∨ pm_obj M 1 (a.headD pm_U) = true) then (match fr S d (66, 0, a ++ [], []) M with
    | none => none
    | some (.inl v, M') => fr S (d + 1) (16, 38, L, v.toList ++ r) M'
    | some (.inr E, M') => some (.inr E, M')) else none
  | none => none := (fr_eq S (d + 1) (16, 35, L, st) M).trans (x_ocl _ _ 1 66 2 1 [] 16 38 L st M)
theorem f16_38 (S : pm_S) (d : Nat) (L : List Value) (st : List Value) (M : pm_M) : fr S (d) (16, 38, L, st) M = if pm_ty (L.getD 3 pm_U) = 0 then fr S d (16, 39, L, L.getD 3 pm_U :: st) M else none := (fr_eq S (d) (16, 38, L, st) M).trans (x_old _ _ 0 3 16 39 L st M)
theorem f16_39 (S : pm_S) (d : Nat) (L : List Value) (x y : Int32) (r : List Value) (M : pm_M) : fr S (d) (16, 39, L, .int y :: .int x :: r) M = if ¬ x = y then fr S d (16, 44, L, r) M else fr S d (16, 42, L, r) M := (fr_eq S (d) (16, 39, L, .int y :: .int x :: r) M).trans (x_oc2ne _ _ 16 42 44 L r x y M)
theorem f16_42 (S : pm_S) (d : Nat) (L : List Value) (st : List Value) (M : pm_M) : fr S (d) (16, 42, L, st) M = fr S d (16, 43, L, .int 0 :: st) M := (fr_eq S (d) (16, 42, L, st) M).trans (x_ocs _ _ (.int 0) 16 43 L st M)
theorem f16_43 (S : pm_S) (d : Nat) (L : List Value) (v : Value) (M : pm_M) : fr S (d) (16, 43, L, [v]) M = if pm_fit 3 v = true then some (.inl (some v), M) else none := (fr_eq S (d) (16, 43, L, [v]) M).trans (x_ort _ _ 3 v M)
theorem f16_44 (S : pm_S) (d : Nat) (L : List Value) (st : List Value) (M : pm_M) : fr S (d) (16, 44, L, st) M = if pm_ty (L.getD 4 pm_U) = 2 then fr S d (16, 46, L, L.getD 4 pm_U :: st) M else none := (fr_eq S (d) (16, 44, L, st) M).trans (x_old _ _ 2 4 16 46 L st M)
theorem f16_46 (S : pm_S) (d : Nat) (L : List Value) (st : List Value) (M : pm_M) : fr S (d) (16, 46, L, st) M = if pm_ty (L.getD 5 pm_U) = 2 then fr S d (16, 48, L, L.getD 5 pm_U :: st) M else none := (fr_eq S (d) (16, 46, L, st) M).trans (x_old _ _ 2 5 16 48 L st M)
theorem f16_48 (S : pm_S) (d : Nat) (L : List Value) (st : List Value) (M : pm_M) : fr S (d) (16, 48, L, st) M = if pm_ty (L.getD 3 pm_U) = 0 then fr S d (16, 49, L, L.getD 3 pm_U :: st) M else none := (fr_eq S (d) (16, 48, L, st) M).trans (x_old _ _ 0 3 16 49 L st M)
theorem f16_49 (S : pm_S) (d : Nat) (L : List Value) (st : List Value) (M : pm_M) : fr S (d + 1) (16, 49, L, st) M = match pm_ag 3 [] st with
  | some (a, r) => if r.length ≤ 4 ∧ (1 = 0 ∨ pm_obj M 1 (a.headD pm_U) = true) then (match fr S d (67, 0, a ++ [pm_U, pm_U], []) M with
    | none => none
    | some (.inl v, M') => fr S (d + 1) (16, 52, L, v.toList ++ r) M'
    | some (.inr E, M') => some (.inr E, M')) else none
  | none => none := (fr_eq S (d + 1) (16, 49, L, st) M).trans (x_ocl _ _ 1 67 3 1 [pm_U, pm_U] 16 52 L st M)
theorem f16_52 (S : pm_S) (d : Nat) (L : List Value) (st : List Value) (M : pm_M) : fr S (d) (16, 52, L, st) M = if pm_ty (L.getD 5 pm_U) = 2 then fr S d (16, 54, L, L.getD 5 pm_U :: st) M else none := (fr_eq S (d) (16, 52, L, st) M).trans (x_old _ _ 2 5 16 54 L st M)
theorem f16_54 (S : pm_S) (d : Nat) (L : List Value) (st : List Value) (M : pm_M) : fr S (d) (16, 54, L, st) M = if pm_ty (L.getD 4 pm_U) = 2 then fr S d (16, 56, L, L.getD 4 pm_U :: st) M else none := (fr_eq S (d) (16, 54, L, st) M).trans (x_old _ _ 2 4 16 56 L st M)
theorem f16_56 (S : pm_S) (d : Nat) (L : List Value) (st : List Value) (M : pm_M) : fr S (d) (16, 56, L, st) M = if pm_ty (L.getD 3 pm_U) = 0 then fr S d (16, 57, L, L.getD 3 pm_U :: st) M else none := (fr_eq S (d) (16, 56, L, st) M).trans (x_old _ _ 0 3 16 57 L st M)
theorem f16_57 (S : pm_S) (d : Nat) (L : List Value) (st : List Value) (M : pm_M) : fr S (d + 1) (16, 57, L, st) M = match pm_ag 3 [] st with
  | some (a, r) => if r.length ≤ 4 ∧ (1 = 0 ∨ pm_obj M 1 (a.headD pm_U) = true) then (match fr S d (67, 0, a ++ [pm_U, pm_U], []) M with
    | none => none
    | some (.inl v, M') => fr S (d + 1) (16, 60, L, v.toList ++ r) M'
    | some (.inr E, M') => some (.inr E, M')) else none
  | none => none := (fr_eq S (d + 1) (16, 57, L, st) M).trans (x_ocl _ _ 1 67 3 1 [pm_U, pm_U] 16 60 L st M)
theorem f16_60 (S : pm_S) (d : Nat) (L : List Value) (st : List Value) (M : pm_M) : fr S (d) (16, 60, L, st) M = fr S d (16, 61, L, .int 1 :: st) M := (fr_eq S (d) (16, 60, L, st) M).trans (x_ocs _ _ (.int 1) 16 61 L st M)
theorem f16_61 (S : pm_S) (d : Nat) (L : List Value) (v : Value) (M : pm_M) : fr S (d) (16, 61, L, [v]) M = if pm_fit 3 v = true then some (.inl (some v), M) else none := (fr_eq S (d) (16, 61, L, [v]) M).trans (x_ort _ _ 3 v M)
theorem f17_0 (S : pm_S) (d : Nat) (L : List Value) (st : List Value) (M : pm_M) : fr S (d) (17, 0, L, st) M = fr S d (17, 1, L, .int 0 :: st) M := (fr_eq S (d) (17, 0, L, st) M).trans (x_ocs _ _ (.int 0) 17 1 L st M)
theorem f17_1 (S : pm_S) (d : Nat) (L : List Value) (v : Value) (r : List Value) (M : pm_M) : fr S (d) (17, 1, L, v :: r) M = if pm_ty v = 0 ∧ 1 < L.length ∧ ¬ pm_ty (L.getD (1 - 1) pm_U) = 1 then fr S d (17, 2, L.set 1 v, r) M else none := (fr_eq S (d) (17, 1, L, v :: r) M).trans (x_ost _ _ 0 1 17 2 L r v M)
theorem f17_2 (S : pm_S) (d : Nat) (L : List Value) (st : List Value) (M : pm_M) : fr S (d) (17, 2, L, st) M = fr S d (17, 3, L, .int 0 :: st) M := (fr_eq S (d) (17, 2, L, st) M).trans (x_ocs _ _ (.int 0) 17 3 L st M)
theorem f17_3 (S : pm_S) (d : Nat) (L : List Value) (v : Value) (r : List Value) (M : pm_M) : fr S (d) (17, 3, L, v :: r) M = if pm_ty v = 0 ∧ 2 < L.length ∧ ¬ pm_ty (L.getD (2 - 1) pm_U) = 1 then fr S d (17, 4, L.set 2 v, r) M else none := (fr_eq S (d) (17, 3, L, v :: r) M).trans (x_ost _ _ 0 2 17 4 L r v M)
theorem f17_4 (S : pm_S) (d : Nat) (L : List Value) (st : List Value) (M : pm_M) : fr S (d) (17, 4, L, st) M = if pm_ty (L.getD 2 pm_U) = 0 then fr S d (17, 5, L, L.getD 2 pm_U :: st) M else none := (fr_eq S (d) (17, 4, L, st) M).trans (x_old _ _ 0 2 17 5 L st M)
theorem f17_5 (S : pm_S) (d : Nat) (L : List Value) (st : List Value) (M : pm_M) : fr S (d) (17, 5, L, st) M = if pm_ty (L.getD 0 pm_U) = 2 then fr S d (17, 6, L, L.getD 0 pm_U :: st) M else none := (fr_eq S (d) (17, 5, L, st) M).trans (x_old _ _ 2 0 17 6 L st M)
theorem f17_6 (S : pm_S) (d : Nat) (L : List Value) (q : Nat) (r : List Value) (M : pm_M) : fr S (d) (17, 6, L, .ref q :: r) M = match pm_get M q with
  | some (.inr (c, fs)) => if c = 0 ∧ 4 < fs.length then fr S d (17, 9, L, fs.getD 4 pm_U :: r) M else none
  | _ => none := (fr_eq S (d) (17, 6, L, .ref q :: r) M).trans (x_ogf _ _ 0 4 17 9 L r q M)
theorem f17_9 (S : pm_S) (d : Nat) (L : List Value) (x y : Int32) (r : List Value) (M : pm_M) : fr S (d) (17, 9, L, .int y :: .int x :: r) M = if y ≤ x then fr S d (17, 43, L, r) M else fr S d (17, 12, L, r) M := (fr_eq S (d) (17, 9, L, .int y :: .int x :: r) M).trans (x_oc2ge _ _ 17 12 43 L r x y M)
theorem f17_12 (S : pm_S) (d : Nat) (L : List Value) (st : List Value) (M : pm_M) : fr S (d) (17, 12, L, st) M = if pm_ty (L.getD 0 pm_U) = 2 then fr S d (17, 13, L, L.getD 0 pm_U :: st) M else none := (fr_eq S (d) (17, 12, L, st) M).trans (x_old _ _ 2 0 17 13 L st M)
theorem f17_13 (S : pm_S) (d : Nat) (L : List Value) (st : List Value) (M : pm_M) : fr S (d) (17, 13, L, st) M = if pm_ty (L.getD 2 pm_U) = 0 then fr S d (17, 14, L, L.getD 2 pm_U :: st) M else none := (fr_eq S (d) (17, 13, L, st) M).trans (x_old _ _ 0 2 17 14 L st M)
theorem f17_14 (S : pm_S) (d : Nat) (L : List Value) (st : List Value) (M : pm_M) : fr S (d + 1) (17, 14, L, st) M = match pm_ag 2 [] st with
  | some (a, r) => if r.length ≤ 4 ∧ (1 = 0 ∨ pm_obj M 0 (a.headD pm_U) = true) then (match fr S d (30, 0, a ++ [], []) M with
    | none => none
    | some (.inl v, M') => fr S (d + 1) (17, 17, L, v.toList ++ r) M'
    | some (.inr E, M') => some (.inr E, M')) else none
  | none => none := (fr_eq S (d + 1) (17, 14, L, st) M).trans (x_ocl _ _ 1 30 2 0 [] 17 17 L st M)
theorem f17_17 (S : pm_S) (d : Nat) (L : List Value) (v : Value) (r : List Value) (M : pm_M) : fr S (d) (17, 17, L, v :: r) M = if pm_ty v = 2 ∧ 3 < L.length ∧ ¬ pm_ty (L.getD (3 - 1) pm_U) = 1 then fr S d (17, 18, L.set 3 v, r) M else none := (fr_eq S (d) (17, 17, L, v :: r) M).trans (x_ost _ _ 2 3 17 18 L r v M)
theorem f17_18 (S : pm_S) (d : Nat) (L : List Value) (st : List Value) (M : pm_M) : fr S (d) (17, 18, L, st) M = if pm_ty (L.getD 3 pm_U) = 2 then fr S d (17, 19, L, L.getD 3 pm_U :: st) M else none := (fr_eq S (d) (17, 18, L, st) M).trans (x_old _ _ 2 3 17 19 L st M)
theorem f17_19 (S : pm_S) (d : Nat) (L : List Value) (v : Value) (r : List Value) (M : pm_M) : fr S (d) (17, 19, L, v :: r) M = if pm_ty v = 2 then (if v = .null then fr S d (17, 37, L, r) M else fr S d (17, 22, L, r) M) else none := (fr_eq S (d) (17, 19, L, v :: r) M).trans (x_onu _ _ 37 22 17 L r v M)
theorem f17_22 (S : pm_S) (d : Nat) (L : List Value) (st : List Value) (M : pm_M) : fr S (d) (17, 22, L, st) M = if pm_ty (L.getD 3 pm_U) = 2 then fr S d (17, 23, L, L.getD 3 pm_U :: st) M else none := (fr_eq S (d) (17, 22, L, st) M).trans (x_old _ _ 2 3 17 23 L st M)
theorem f17_23 (S : pm_S) (d : Nat) (L : List Value) (st : List Value) (M : pm_M) : fr S (d + 1) (17, 23, L, st) M = match pm_ag 1 [] st with
  | some (a, r) => if r.length ≤ 4 ∧ (1 = 0 ∨ pm_obj M 1 (a.headD pm_U) = true) then (match fr S d (64, 0, a ++ [], []) M with
    | none => none
    | some (.inl v, M') => fr S (d + 1) (17, 26, L, v.toList ++ r) M'
    | some (.inr E, M') => some (.inr E, M')) else none
  | none => none := (fr_eq S (d + 1) (17, 23, L, st) M).trans (x_ocl _ _ 1 64 1 1 [] 17 26 L st M)
theorem f17_26 (S : pm_S) (d : Nat) (L : List Value) (x : Int32) (r : List Value) (M : pm_M) : fr S (d) (17, 26, L, .int x :: r) M = if x = 0 then fr S d (17, 37, L, r) M else fr S d (17, 29, L, r) M := (fr_eq S (d) (17, 26, L, .int x :: r) M).trans (x_oc1eq _ _ 17 29 37 L r x M)
theorem f17_29 (S : pm_S) (d : Nat) (L : List Value) (st : List Value) (M : pm_M) : fr S (d) (17, 29, L, st) M = if pm_ty (L.getD 1 pm_U) = 0 then fr S d (17, 30, L, L.getD 1 pm_U :: st) M else none := (fr_eq S (d) (17, 29, L, st) M).trans (x_old _ _ 0 1 17 30 L st M)
theorem f17_30 (S : pm_S) (d : Nat) (L : List Value) (st : List Value) (M : pm_M) : fr S (d) (17, 30, L, st) M = if pm_ty (L.getD 0 pm_U) = 2 then fr S d (17, 31, L, L.getD 0 pm_U :: st) M else none := (fr_eq S (d) (17, 30, L, st) M).trans (x_old _ _ 2 0 17 31 L st M)
theorem f17_31 (S : pm_S) (d : Nat) (L : List Value) (st : List Value) (M : pm_M) : fr S (d) (17, 31, L, st) M = if pm_ty (L.getD 3 pm_U) = 2 then fr S d (17, 32, L, L.getD 3 pm_U :: st) M else none := (fr_eq S (d) (17, 31, L, st) M).trans (x_old _ _ 2 3 17 32 L st M)
theorem f17_32 (S : pm_S) (d : Nat) (L : List Value) (st : List Value) (M : pm_M) : fr S (d + 1) (17, 32, L, st) M = match pm_ag 2 [] st with
  | some (a, r) => if r.length ≤ 4 ∧ (1 = 0 ∨ pm_obj M 0 (a.headD pm_U) = true) then (match fr S d (38, 0, a ++ [pm_U, pm_U], []) M with
    | none => none
    | some (.inl v, M') => fr S (d + 1) (17, 35, L, v.toList ++ r) M'
    | some (.inr E, M') => some (.inr E, M')) else none
  | none => none := (fr_eq S (d + 1) (17, 32, L, st) M).trans (x_ocl _ _ 1 38 2 0 [pm_U, pm_U] 17 35 L st M)
theorem f17_35 (S : pm_S) (d : Nat) (L : List Value) (x y : Int32) (r : List Value) (M : pm_M) : fr S (d) (17, 35, L, .int y :: .int x :: r) M = fr S d (17, 36, L, .int (x + y) :: r) M := (fr_eq S (d) (17, 35, L, .int y :: .int x :: r) M).trans (x_oii _ _ (fun x y => x + y) 17 36 L r x y M)
theorem f17_36 (S : pm_S) (d : Nat) (L : List Value) (v : Value) (r : List Value) (M : pm_M) : fr S (d) (17, 36, L, v :: r) M = if pm_ty v = 0 ∧ 1 < L.length ∧ ¬ pm_ty (L.getD (1 - 1) pm_U) = 1 then fr S d (17, 37, L.set 1 v, r) M else none := (fr_eq S (d) (17, 36, L, v :: r) M).trans (x_ost _ _ 0 1 17 37 L r v M)
theorem f17_37 (S : pm_S) (d : Nat) (L : List Value) (st : List Value) (M : pm_M) : fr S (d) (17, 37, L, st) M = match L.getD 2 pm_U with
  | .int x => if 2 < L.length ∧ ¬ pm_ty (L.getD (2 - 1) pm_U) = 1 then fr S d (17, 40, L.set 2 (.int (x + 1)), st) M else none
  | _ => none := (fr_eq S (d) (17, 37, L, st) M).trans (x_oinc _ _ 2 1 17 40 L st M)
theorem f17_40 (S : pm_S) (d : Nat) (L : List Value) (st : List Value) (M : pm_M) : fr S (d) (17, 40, L, st) M = fr S d (17, 4, L, st) M := (fr_eq S (d) (17, 40, L, st) M).trans (x_ogo _ _ 17 4 L st M)
theorem f17_43 (S : pm_S) (d : Nat) (L : List Value) (st : List Value) (M : pm_M) : fr S (d) (17, 43, L, st) M = if pm_ty (L.getD 1 pm_U) = 0 then fr S d (17, 44, L, L.getD 1 pm_U :: st) M else none := (fr_eq S (d) (17, 43, L, st) M).trans (x_old _ _ 0 1 17 44 L st M)
theorem f17_44 (S : pm_S) (d : Nat) (L : List Value) (v : Value) (M : pm_M) : fr S (d) (17, 44, L, [v]) M = if pm_fit 0 v = true then some (.inl (some v), M) else none := (fr_eq S (d) (17, 44, L, [v]) M).trans (x_ort _ _ 0 v M)
theorem f18_0 (S : pm_S) (d : Nat) (L : List Value) (st : List Value) (M : pm_M) : fr S (d) (18, 0, L, st) M = if pm_ty (L.getD 1 pm_U) = 0 then fr S d (18, 1, L, L.getD 1 pm_U :: st) M else none := (fr_eq S (d) (18, 0, L, st) M).trans (x_old _ _ 0 1 18 1 L st M)
theorem f18_1 (S : pm_S) (d : Nat) (L : List Value) (x : Int32) (r : List Value) (M : pm_M) : fr S (d) (18, 1, L, .int x :: r) M = if x < 0 then fr S d (18, 13, L, r) M else fr S d (18, 4, L, r) M := (fr_eq S (d) (18, 1, L, .int x :: r) M).trans (x_oc1lt _ _ 18 4 13 L r x M)
theorem f18_4 (S : pm_S) (d : Nat) (L : List Value) (st : List Value) (M : pm_M) : fr S (d) (18, 4, L, st) M = if pm_ty (L.getD 2 pm_U) = 0 then fr S d (18, 5, L, L.getD 2 pm_U :: st) M else none := (fr_eq S (d) (18, 4, L, st) M).trans (x_old _ _ 0 2 18 5 L st M)
theorem f18_5 (S : pm_S) (d : Nat) (L : List Value) (x : Int32) (r : List Value) (M : pm_M) : fr S (d) (18, 5, L, .int x :: r) M = if x < 0 then fr S d (18, 13, L, r) M else fr S d (18, 8, L, r) M := (fr_eq S (d) (18, 5, L, .int x :: r) M).trans (x_oc1lt _ _ 18 8 13 L r x M)
theorem f18_8 (S : pm_S) (d : Nat) (L : List Value) (st : List Value) (M : pm_M) : fr S (d) (18, 8, L, st) M = if pm_ty (L.getD 2 pm_U) = 0 then fr S d (18, 9, L, L.getD 2 pm_U :: st) M else none := (fr_eq S (d) (18, 8, L, st) M).trans (x_old _ _ 0 2 18 9 L st M)
theorem f18_9 (S : pm_S) (d : Nat) (L : List Value) (st : List Value) (M : pm_M) : fr S (d) (18, 9, L, st) M = fr S d (18, 10, L, .int 4 :: st) M := (fr_eq S (d) (18, 9, L, st) M).trans (x_ocs _ _ (.int 4) 18 10 L st M)
theorem f18_10 (S : pm_S) (d : Nat) (L : List Value) (x y : Int32) (r : List Value) (M : pm_M) : fr S (d) (18, 10, L, .int y :: .int x :: r) M = if x ≤ y then fr S d (18, 23, L, r) M else fr S d (18, 13, L, r) M := (fr_eq S (d) (18, 10, L, .int y :: .int x :: r) M).trans (x_oc2le _ _ 18 13 23 L r x y M)
theorem f18_13 (S : pm_S) (d : Nat) (L : List Value) (st : List Value) (M : pm_M) : fr S (d) (18, 13, L, st) M = if st.length ≤ 8 then some (.inr "java/lang/IndexOutOfBoundsException", pm_thr M) else none := (fr_eq S (d) (18, 13, L, st) M).trans (x_oth _ _ "java/lang/IndexOutOfBoundsException" st M)
theorem f18_16 (S : pm_S) (d : Nat) (L : List Value) (v : Value) (r : List Value) (M : pm_M) : fr S (d) (18, 16, L, v :: r) M = if ¬ pm_ty v = 1 ∧ ¬ pm_ty v = 9 then fr S d (18, 17, L, v :: v :: r) M else none := (fr_eq S (d) (18, 16, L, v :: r) M).trans (x_odup _ _ 18 17 L r v M)
theorem f18_23 (S : pm_S) (d : Nat) (L : List Value) (st : List Value) (M : pm_M) : fr S (d) (18, 23, L, st) M = if pm_ty (L.getD 1 pm_U) = 0 then fr S d (18, 24, L, L.getD 1 pm_U :: st) M else none := (fr_eq S (d) (18, 23, L, st) M).trans (x_old _ _ 0 1 18 24 L st M)
theorem f18_24 (S : pm_S) (d : Nat) (L : List Value) (v : Value) (r : List Value) (M : pm_M) : fr S (d) (18, 24, L, v :: r) M = if pm_ty v = 0 ∧ 3 < L.length ∧ ¬ pm_ty (L.getD (3 - 1) pm_U) = 1 then fr S d (18, 25, L.set 3 v, r) M else none := (fr_eq S (d) (18, 24, L, v :: r) M).trans (x_ost _ _ 0 3 18 25 L r v M)
theorem f18_25 (S : pm_S) (d : Nat) (L : List Value) (st : List Value) (M : pm_M) : fr S (d) (18, 25, L, st) M = fr S d (18, 26, L, .int 0 :: st) M := (fr_eq S (d) (18, 25, L, st) M).trans (x_ocs _ _ (.int 0) 18 26 L st M)
theorem f18_26 (S : pm_S) (d : Nat) (L : List Value) (v : Value) (r : List Value) (M : pm_M) : fr S (d) (18, 26, L, v :: r) M = if pm_ty v = 0 ∧ 4 < L.length ∧ ¬ pm_ty (L.getD (4 - 1) pm_U) = 1 then fr S d (18, 28, L.set 4 v, r) M else none := (fr_eq S (d) (18, 26, L, v :: r) M).trans (x_ost _ _ 0 4 18 28 L r v M)
theorem f18_28 (S : pm_S) (d : Nat) (L : List Value) (st : List Value) (M : pm_M) : fr S (d) (18, 28, L, st) M = if pm_ty (L.getD 4 pm_U) = 0 then fr S d (18, 30, L, L.getD 4 pm_U :: st) M else none := (fr_eq S (d) (18, 28, L, st) M).trans (x_old _ _ 0 4 18 30 L st M)
theorem f18_30 (S : pm_S) (d : Nat) (L : List Value) (st : List Value) (M : pm_M) : fr S (d) (18, 30, L, st) M = if pm_ty (L.getD 0 pm_U) = 2 then fr S d (18, 31, L, L.getD 0 pm_U :: st) M else none := (fr_eq S (d) (18, 30, L, st) M).trans (x_old _ _ 2 0 18 31 L st M)
theorem f18_31 (S : pm_S) (d : Nat) (L : List Value) (q : Nat) (r : List Value) (M : pm_M) : fr S (d) (18, 31, L, .ref q :: r) M = match pm_get M q with
  | some (.inr (c, fs)) => if c = 0 ∧ 5 < fs.length then fr S d (18, 34, L, fs.getD 5 pm_U :: r) M else none
  | _ => none := (fr_eq S (d) (18, 31, L, .ref q :: r) M).trans (x_ogf _ _ 0 5 18 34 L r q M)
theorem f18_34 (S : pm_S) (d : Nat) (L : List Value) (q : Nat) (hq : ¬ q = 1) (r : List Value) (M : pm_M) : fr S (d) (18, 34, L, .ref q :: r) M = match pm_get M q with
  | some (.inl (_, (n, _))) => fr S d (18, 35, L, .int (Int32.ofNat n) :: r) M
  | _ => none := (fr_eq S (d) (18, 34, L, .ref q :: r) M).trans (x_oln _ _ S 18 35 L r q hq M)
theorem f18_35 (S : pm_S) (d : Nat) (L : List Value) (x y : Int32) (r : List Value) (M : pm_M) : fr S (d) (18, 35, L, .int y :: .int x :: r) M = if y ≤ x then fr S d (18, 113, L, r) M else fr S d (18, 38, L, r) M := (fr_eq S (d) (18, 35, L, .int y :: .int x :: r) M).trans (x_oc2ge _ _ 18 38 113 L r x y M)
theorem f18_38 (S : pm_S) (d : Nat) (L : List Value) (st : List Value) (M : pm_M) : fr S (d) (18, 38, L, st) M = if pm_ty (L.getD 0 pm_U) = 2 then fr S d (18, 39, L, L.getD 0 pm_U :: st) M else none := (fr_eq S (d) (18, 38, L, st) M).trans (x_old _ _ 2 0 18 39 L st M)
theorem f18_39 (S : pm_S) (d : Nat) (L : List Value) (q : Nat) (r : List Value) (M : pm_M) : fr S (d) (18, 39, L, .ref q :: r) M = match pm_get M q with
  | some (.inr (c, fs)) => if c = 0 ∧ 5 < fs.length then fr S d (18, 42, L, fs.getD 5 pm_U :: r) M else none
  | _ => none := (fr_eq S (d) (18, 39, L, .ref q :: r) M).trans (x_ogf _ _ 0 5 18 42 L r q M)
theorem f18_42 (S : pm_S) (d : Nat) (L : List Value) (st : List Value) (M : pm_M) : fr S (d) (18, 42, L, st) M = if pm_ty (L.getD 4 pm_U) = 0 then fr S d (18, 44, L, L.getD 4 pm_U :: st) M else none := (fr_eq S (d) (18, 42, L, st) M).trans (x_old _ _ 0 4 18 44 L st M)
theorem f18_44 (S : pm_S) (d : Nat) (L : List Value) (i : Int32) (q : Nat) (hq : ¬ q = 1) (r : List Value) (M : pm_M) : fr S (d) (18, 44, L, .int i :: .ref q :: r) M = match (pm_get M q).bind (fun c => pm_el 3 c i) with
  | some v => fr S d (18, 45, L, v :: r) M
  | none => none := (fr_eq S (d) (18, 44, L, .int i :: .ref q :: r) M).trans (x_oal _ _ S 3 18 45 L r i q hq M)
theorem f18_45 (S : pm_S) (d : Nat) (L : List Value) (v : Value) (r : List Value) (M : pm_M) : fr S (d) (18, 45, L, v :: r) M = if pm_ty v = 2 ∧ 5 < L.length ∧ ¬ pm_ty (L.getD (5 - 1) pm_U) = 1 then fr S d (18, 47, L.set 5 v, r) M else none := (fr_eq S (d) (18, 45, L, v :: r) M).trans (x_ost _ _ 2 5 18 47 L r v M)
theorem f18_47 (S : pm_S) (d : Nat) (L : List Value) (st : List Value) (M : pm_M) : fr S (d) (18, 47, L, st) M = if pm_ty (L.getD 5 pm_U) = 2 then fr S d (18, 49, L, L.getD 5 pm_U :: st) M else none := (fr_eq S (d) (18, 47, L, st) M).trans (x_old _ _ 2 5 18 49 L st M)
theorem f18_49 (S : pm_S) (d : Nat) (L : List Value) (v : Value) (r : List Value) (M : pm_M) : fr S (d) (18, 49, L, v :: r) M = if pm_ty v = 2 then (if v = .null then fr S d (18, 107, L, r) M else fr S d (18, 52, L, r) M) else none := (fr_eq S (d) (18, 49, L, v :: r) M).trans (x_onu _ _ 107 52 18 L r v M)
theorem f18_52 (S : pm_S) (d : Nat) (L : List Value) (st : List Value) (M : pm_M) : fr S (d) (18, 52, L, st) M = if pm_ty (L.getD 0 pm_U) = 2 then fr S d (18, 53, L, L.getD 0 pm_U :: st) M else none := (fr_eq S (d) (18, 52, L, st) M).trans (x_old _ _ 2 0 18 53 L st M)
theorem f18_53 (S : pm_S) (d : Nat) (L : List Value) (st : List Value) (M : pm_M) : fr S (d) (18, 53, L, st) M = if pm_ty (L.getD 5 pm_U) = 2 then fr S d (18, 55, L, L.getD 5 pm_U :: st) M else none := (fr_eq S (d) (18, 53, L, st) M).trans (x_old _ _ 2 5 18 55 L st M)
theorem f18_55 (S : pm_S) (d : Nat) (L : List Value) (q : Nat) (r : List Value) (M : pm_M) : fr S (d) (18, 55, L, .ref q :: r) M = match pm_get M q with
  | some (.inr (c, fs)) => if c = 1 ∧ 5 < fs.length then fr S d (18, 58, L, fs.getD 5 pm_U :: r) M else none
  | _ => none := (fr_eq S (d) (18, 55, L, .ref q :: r) M).trans (x_ogf _ _ 1 5 18 58 L r q M)
theorem f18_58 (S : pm_S) (d : Nat) (L : List Value) (st : List Value) (M : pm_M) : fr S (d) (18, 58, L, st) M = if pm_ty (L.getD 5 pm_U) = 2 then fr S d (18, 60, L, L.getD 5 pm_U :: st) M else none := (fr_eq S (d) (18, 58, L, st) M).trans (x_old _ _ 2 5 18 60 L st M)
theorem f18_60 (S : pm_S) (d : Nat) (L : List Value) (q : Nat) (r : List Value) (M : pm_M) : fr S (d) (18, 60, L, .ref q :: r) M = match pm_get M q with
  | some (.inr (c, fs)) => if c = 1 ∧ 6 < fs.length then fr S d (18, 63, L, fs.getD 6 pm_U :: r) M else none
  | _ => none := (fr_eq S (d) (18, 60, L, .ref q :: r) M).trans (x_ogf _ _ 1 6 18 63 L r q M)
theorem f18_63 (S : pm_S) (d : Nat) (L : List Value) (st : List Value) (M : pm_M) : fr S (d) (18, 63, L, st) M = if pm_ty (L.getD 5 pm_U) = 2 then fr S d (18, 65, L, L.getD 5 pm_U :: st) M else none := (fr_eq S (d) (18, 63, L, st) M).trans (x_old _ _ 2 5 18 65 L st M)
theorem f18_65 (S : pm_S) (d : Nat) (L : List Value) (q : Nat) (r : List Value) (M : pm_M) : fr S (d) (18, 65, L, .ref q :: r) M = match pm_get M q with
  | some (.inr (c, fs)) => if c = 1 ∧ 7 < fs.length then fr S d (18, 68, L, fs.getD 7 pm_U :: r) M else none
  | _ => none := (fr_eq S (d) (18, 65, L, .ref q :: r) M).trans (x_ogf _ _ 1 7 18 68 L r q M)
theorem f18_68 (S : pm_S) (d : Nat) (L : List Value) (st : List Value) (M : pm_M) : fr S (d + 1) (18, 68, L, st) M = match pm_ag 4 [] st with
  | some (a, r) => if r.length ≤ 4 ∧ (1 = 0 ∨ pm_obj M 0 (a.headD pm_U) = true) then (match fr S d (29, 0, a ++ [], []) M with
    | none => none
    | some (.inl v, M') => fr S (d + 1) (18, 71, L, v.toList ++ r) M'
    | some (.inr E, M') => some (.inr E, M')) else none
  | none => none := (fr_eq S (d + 1) (18, 68, L, st) M).trans (x_ocl _ _ 1 29 4 0 [] 18 71 L st M)
theorem f18_71 (S : pm_S) (d : Nat) (L : List Value) (st : List Value) (M : pm_M) : fr S (d) (18, 71, L, st) M = if pm_ty (L.getD 4 pm_U) = 0 then fr S d (18, 73, L, L.getD 4 pm_U :: st) M else none := (fr_eq S (d) (18, 71, L, st) M).trans (x_old _ _ 0 4 18 73 L st M)
theorem f18_73 (S : pm_S) (d : Nat) (L : List Value) (x y : Int32) (r : List Value) (M : pm_M) : fr S (d) (18, 73, L, .int y :: .int x :: r) M = if x = y then fr S d (18, 79, L, r) M else fr S d (18, 76, L, r) M := (fr_eq S (d) (18, 73, L, .int y :: .int x :: r) M).trans (x_oc2eq _ _ 18 76 79 L r x y M)
theorem f18_76 (S : pm_S) (d : Nat) (L : List Value) (st : List Value) (M : pm_M) : fr S (d) (18, 76, L, st) M = fr S d (18, 107, L, st) M := (fr_eq S (d) (18, 76, L, st) M).trans (x_ogo _ _ 18 107 L st M)
theorem f18_79 (S : pm_S) (d : Nat) (L : List Value) (st : List Value) (M : pm_M) : fr S (d) (18, 79, L, st) M = if pm_ty (L.getD 0 pm_U) = 2 then fr S d (18, 80, L, L.getD 0 pm_U :: st) M else none := (fr_eq S (d) (18, 79, L, st) M).trans (x_old _ _ 2 0 18 80 L st M)
theorem f18_80 (S : pm_S) (d : Nat) (L : List Value) (st : List Value) (M : pm_M) : fr S (d) (18, 80, L, st) M = if pm_ty (L.getD 5 pm_U) = 2 then fr S d (18, 82, L, L.getD 5 pm_U :: st) M else none := (fr_eq S (d) (18, 80, L, st) M).trans (x_old _ _ 2 5 18 82 L st M)
theorem f18_82 (S : pm_S) (d : Nat) (L : List Value) (st : List Value) (M : pm_M) : fr S (d + 1) (18, 82, L, st) M = match pm_ag 2 [] st with
  | some (a, r) => if r.length ≤ 4 ∧ (1 = 0 ∨ pm_obj M 0 (a.headD pm_U) = true) then (match fr S d (38, 0, a ++ [pm_U, pm_U], []) M with
    | none => none
    | some (.inl v, M') => fr S (d + 1) (18, 85, L, v.toList ++ r) M'
    | some (.inr E, M') => some (.inr E, M')) else none
  | none => none := (fr_eq S (d + 1) (18, 82, L, st) M).trans (x_ocl _ _ 1 38 2 0 [pm_U, pm_U] 18 85 L st M)
theorem f18_85 (S : pm_S) (d : Nat) (L : List Value) (v : Value) (r : List Value) (M : pm_M) : fr S (d) (18, 85, L, v :: r) M = if pm_ty v = 0 ∧ 6 < L.length ∧ ¬ pm_ty (L.getD (6 - 1) pm_U) = 1 then fr S d (18, 87, L.set 6 v, r) M else none := (fr_eq S (d) (18, 85, L, v :: r) M).trans (x_ost _ _ 0 6 18 87 L r v M)
theorem f18_87 (S : pm_S) (d : Nat) (L : List Value) (st : List Value) (M : pm_M) : fr S (d) (18, 87, L, st) M = if pm_ty (L.getD 3 pm_U) = 0 then fr S d (18, 88, L, L.getD 3 pm_U :: st) M else none := (fr_eq S (d) (18, 87, L, st) M).trans (x_old _ _ 0 3 18 88 L st M)
theorem f18_88 (S : pm_S) (d : Nat) (L : List Value) (st : List Value) (M : pm_M) : fr S (d) (18, 88, L, st) M = if pm_ty (L.getD 6 pm_U) = 0 then fr S d (18, 90, L, L.getD 6 pm_U :: st) M else none := (fr_eq S (d) (18, 88, L, st) M).trans (x_old _ _ 0 6 18 90 L st M)
theorem f18_90 (S : pm_S) (d : Nat) (L : List Value) (x y : Int32) (r : List Value) (M : pm_M) : fr S (d) (18, 90, L, .int y :: .int x :: r) M = if y ≤ x then fr S d (18, 102, L, r) M else fr S d (18, 93, L, r) M := (fr_eq S (d) (18, 90, L, .int y :: .int x :: r) M).trans (x_oc2ge _ _ 18 93 102 L r x y M)
theorem f18_93 (S : pm_S) (d : Nat) (L : List Value) (st : List Value) (M : pm_M) : fr S (d) (18, 93, L, st) M = if pm_ty (L.getD 0 pm_U) = 2 then fr S d (18, 94, L, L.getD 0 pm_U :: st) M else none := (fr_eq S (d) (18, 93, L, st) M).trans (x_old _ _ 2 0 18 94 L st M)
theorem f18_94 (S : pm_S) (d : Nat) (L : List Value) (st : List Value) (M : pm_M) : fr S (d) (18, 94, L, st) M = if pm_ty (L.getD 5 pm_U) = 2 then fr S d (18, 96, L, L.getD 5 pm_U :: st) M else none := (fr_eq S (d) (18, 94, L, st) M).trans (x_old _ _ 2 5 18 96 L st M)
theorem f18_96 (S : pm_S) (d : Nat) (L : List Value) (st : List Value) (M : pm_M) : fr S (d) (18, 96, L, st) M = if pm_ty (L.getD 3 pm_U) = 0 then fr S d (18, 97, L, L.getD 3 pm_U :: st) M else none := (fr_eq S (d) (18, 96, L, st) M).trans (x_old _ _ 0 3 18 97 L st M)
theorem f18_97 (S : pm_S) (d : Nat) (L : List Value) (st : List Value) (M : pm_M) : fr S (d) (18, 97, L, st) M = if pm_ty (L.getD 2 pm_U) = 0 then fr S d (18, 98, L, L.getD 2 pm_U :: st) M else none := (fr_eq S (d) (18, 97, L, st) M).trans (x_old _ _ 0 2 18 98 L st M)
theorem f18_98 (S : pm_S) (d : Nat) (L : List Value) (st : List Value) (M : pm_M) : fr S (d + 1) (18, 98, L, st) M = match pm_ag 4 [] st with
  | some (a, r) => if r.length ≤ 4 ∧ (1 = 0 ∨ pm_obj M 0 (a.headD pm_U) = true) then (match fr S d (39, 0, a ++ [], []) M with
    | none => none
    | some (.inl v, M') => fr S (d + 1) (18, 101, L, v.toList ++ r) M'
    | some (.inr E, M') => some (.inr E, M')) else none
  | none => none := (fr_eq S (d + 1) (18, 98, L, st) M).trans (x_ocl _ _ 1 39 4 0 [] 18 101 L st M)
theorem f18_101 (S : pm_S) (d : Nat) (L : List Value) (v : Value) (M : pm_M) : fr S (d) (18, 101, L, [v]) M = if pm_fit 0 v = true then some (.inl (some v), M) else none := (fr_eq S (d) (18, 101, L, [v]) M).trans (x_ort _ _ 0 v M)
theorem f18_102 (S : pm_S) (d : Nat) (L : List Value) (st : List Value) (M : pm_M) : fr S (d) (18, 102, L, st) M = if pm_ty (L.getD 3 pm_U) = 0 then fr S d (18, 103, L, L.getD 3 pm_U :: st) M else none := (fr_eq S (d) (18, 102, L, st) M).trans (x_old _ _ 0 3 18 103 L st M)
theorem f18_103 (S : pm_S) (d : Nat) (L : List Value) (st : List Value) (M : pm_M) : fr S (d) (18, 103, L, st) M = if pm_ty (L.getD 6 pm_U) = 0 then fr S d (18, 105, L, L.getD 6 pm_U :: st) M else none := (fr_eq S (d) (18, 103, L, st) M).trans (x_old _ _ 0 6 18 105 L st M)
theorem f18_105 (S : pm_S) (d : Nat) (L : List Value) (x y : Int32) (r : List Value) (M : pm_M) : fr S (d) (18, 105, L, .int y :: .int x :: r) M = fr S d (18, 106, L, .int (x - y) :: r) M := (fr_eq S (d) (18, 105, L, .int y :: .int x :: r) M).trans (x_oii _ _ (fun x y => x - y) 18 106 L r x y M)
theorem f18_106 (S : pm_S) (d : Nat) (L : List Value) (v : Value) (r : List Value) (M : pm_M) : fr S (d) (18, 106, L, v :: r) M = if pm_ty v = 0 ∧ 3 < L.length ∧ ¬ pm_ty (L.getD (3 - 1) pm_U) = 1 then fr S d (18, 107, L.set 3 v, r) M else none := (fr_eq S (d) (18, 106, L, v :: r) M).trans (x_ost _ _ 0 3 18 107 L r v M)
theorem f18_107 (S : pm_S) (d : Nat) (L : List Value) (st : List Value) (M : pm_M) : fr S (d) (18, 107, L, st) M = match L.getD 4 pm_U with
  | .int x => if 4 < L.length ∧ ¬ pm_ty (L.getD (4 - 1) pm_U) = 1 then fr S d (18, 110, L.set 4 (.int (x + 1)), st) M else none
  | _ => none := (fr_eq S (d) (18, 107, L, st) M).trans (x_oinc _ _ 4 1 18 110 L st M)
theorem f18_110 (S : pm_S) (d : Nat) (L : List Value) (st : List Value) (M : pm_M) : fr S (d) (18, 110, L, st) M = fr S d (18, 28, L, st) M := (fr_eq S (d) (18, 110, L, st) M).trans (x_ogo _ _ 18 28 L st M)
theorem f18_113 (S : pm_S) (d : Nat) (L : List Value) (st : List Value) (M : pm_M) : fr S (d) (18, 113, L, st) M = if st.length ≤ 8 then some (.inr "java/lang/IndexOutOfBoundsException", pm_thr M) else none := (fr_eq S (d) (18, 113, L, st) M).trans (x_oth _ _ "java/lang/IndexOutOfBoundsException" st M)
theorem f18_116 (S : pm_S) (d : Nat) (L : List Value) (v : Value) (r : List Value) (M : pm_M) : fr S (d) (18, 116, L, v :: r) M = if ¬ pm_ty v = 1 ∧ ¬ pm_ty v = 9 then fr S d (18, 117, L, v :: v :: r) M else none := (fr_eq S (d) (18, 116, L, v :: r) M).trans (x_odup _ _ 18 117 L r v M)
theorem f19_0 (S : pm_S) (d : Nat) (L : List Value) (st : List Value) (M : pm_M) : fr S (d) (19, 0, L, st) M = if pm_ty (L.getD 1 pm_U) = 0 then fr S d (19, 1, L, L.getD 1 pm_U :: st) M else none := (fr_eq S (d) (19, 0, L, st) M).trans (x_old _ _ 0 1 19 1 L st M)
theorem f19_1 (S : pm_S) (d : Nat) (L : List Value) (x : Int32) (r : List Value) (M : pm_M) : fr S (d) (19, 1, L, .int x :: r) M = if x < 0 then fr S d (19, 10, L, r) M else fr S d (19, 4, L, r) M := (fr_eq S (d) (19, 1, L, .int x :: r) M).trans (x_oc1lt _ _ 19 4 10 L r x M)
theorem f19_4 (S : pm_S) (d : Nat) (L : List Value) (st : List Value) (M : pm_M) : fr S (d) (19, 4, L, st) M = if pm_ty (L.getD 1 pm_U) = 0 then fr S d (19, 5, L, L.getD 1 pm_U :: st) M else none := (fr_eq S (d) (19, 4, L, st) M).trans (x_old _ _ 0 1 19 5 L st M)
theorem f19_5 (S : pm_S) (d : Nat) (L : List Value) (st : List Value) (M : pm_M) : fr S (d) (19, 5, L, st) M = fr S d (19, 7, L, .int 6 :: st) M := (fr_eq S (d) (19, 5, L, st) M).trans (x_ocs _ _ (.int 6) 19 7 L st M)
theorem f19_7 (S : pm_S) (d : Nat) (L : List Value) (x y : Int32) (r : List Value) (M : pm_M) : fr S (d) (19, 7, L, .int y :: .int x :: r) M = if x ≤ y then fr S d (19, 20, L, r) M else fr S d (19, 10, L, r) M := (fr_eq S (d) (19, 7, L, .int y :: .int x :: r) M).trans (x_oc2le _ _ 19 10 20 L r x y M)
theorem f19_10 (S : pm_S) (d : Nat) (L : List Value) (st : List Value) (M : pm_M) : fr S (d) (19, 10, L, st) M = if st.length ≤ 8 then some (.inr "java/lang/IllegalArgumentException", pm_thr M) else none := (fr_eq S (d) (19, 10, L, st) M).trans (x_oth _ _ "java/lang/IllegalArgumentException" st M)
theorem f19_13 (S : pm_S) (d : Nat) (L : List Value) (v : Value) (r : List Value) (M : pm_M) : fr S (d) (19, 13, L, v :: r) M = if ¬ pm_ty v = 1 ∧ ¬ pm_ty v = 9 then fr S d (19, 14, L, v :: v :: r) M else none := (fr_eq S (d) (19, 13, L, v :: r) M).trans (x_odup _ _ 19 14 L r v M)
theorem f19_20 (S : pm_S) (d : Nat) (L : List Value) (st : List Value) (M : pm_M) : fr S (d) (19, 20, L, st) M = fr S d (19, 21, L, .int 0 :: st) M := (fr_eq S (d) (19, 20, L, st) M).trans (x_ocs _ _ (.int 0) 19 21 L st M)
theorem f19_21 (S : pm_S) (d : Nat) (L : List Value) (v : Value) (r : List Value) (M : pm_M) : fr S (d) (19, 21, L, v :: r) M = if pm_ty v = 0 ∧ 2 < L.length ∧ ¬ pm_ty (L.getD (2 - 1) pm_U) = 1 then fr S d (19, 22, L.set 2 v, r) M else none := (fr_eq S (d) (19, 21, L, v :: r) M).trans (x_ost _ _ 0 2 19 22 L r v M)
theorem f19_22 (S : pm_S) (d : Nat) (L : List Value) (st : List Value) (M : pm_M) : fr S (d) (19, 22, L, st) M = fr S d (19, 23, L, .int 0 :: st) M := (fr_eq S (d) (19, 22, L, st) M).trans (x_ocs _ _ (.int 0) 19 23 L st M)
theorem f19_23 (S : pm_S) (d : Nat) (L : List Value) (v : Value) (r : List Value) (M : pm_M) : fr S (d) (19, 23, L, v :: r) M = if pm_ty v = 0 ∧ 3 < L.length ∧ ¬ pm_ty (L.getD (3 - 1) pm_U) = 1 then fr S d (19, 24, L.set 3 v, r) M else none := (fr_eq S (d) (19, 23, L, v :: r) M).trans (x_ost _ _ 0 3 19 24 L r v M)
theorem f19_24 (S : pm_S) (d : Nat) (L : List Value) (st : List Value) (M : pm_M) : fr S (d) (19, 24, L, st) M = if pm_ty (L.getD 3 pm_U) = 0 then fr S d (19, 25, L, L.getD 3 pm_U :: st) M else none := (fr_eq S (d) (19, 24, L, st) M).trans (x_old _ _ 0 3 19 25 L st M)
theorem f19_25 (S : pm_S) (d : Nat) (L : List Value) (st : List Value) (M : pm_M) : fr S (d) (19, 25, L, st) M = if pm_ty (L.getD 0 pm_U) = 2 then fr S d (19, 26, L, L.getD 0 pm_U :: st) M else none := (fr_eq S (d) (19, 25, L, st) M).trans (x_old _ _ 2 0 19 26 L st M)
theorem f19_26 (S : pm_S) (d : Nat) (L : List Value) (q : Nat) (r : List Value) (M : pm_M) : fr S (d) (19, 26, L, .ref q :: r) M = match pm_get M q with
  | some (.inr (c, fs)) => if c = 0 ∧ 4 < fs.length then fr S d (19, 29, L, fs.getD 4 pm_U :: r) M else none
  | _ => none := (fr_eq S (d) (19, 26, L, .ref q :: r) M).trans (x_ogf _ _ 0 4 19 29 L r q M)
theorem f19_29 (S : pm_S) (d : Nat) (L : List Value) (x y : Int32) (r : List Value) (M : pm_M) : fr S (d) (19, 29, L, .int y :: .int x :: r) M = if y ≤ x then fr S d (19, 72, L, r) M else fr S d (19, 32, L, r) M := (fr_eq S (d) (19, 29, L, .int y :: .int x :: r) M).trans (x_oc2ge _ _ 19 32 72 L r x y M)
theorem f19_32 (S : pm_S) (d : Nat) (L : List Value) (st : List Value) (M : pm_M) : fr S (d) (19, 32, L, st) M = if pm_ty (L.getD 0 pm_U) = 2 then fr S d (19, 33, L, L.getD 0 pm_U :: st) M else none := (fr_eq S (d) (19, 32, L, st) M).trans (x_old _ _ 2 0 19 33 L st M)
theorem f19_33 (S : pm_S) (d : Nat) (L : List Value) (st : List Value) (M : pm_M) : fr S (d) (19, 33, L, st) M = if pm_ty (L.getD 3 pm_U) = 0 then fr S d (19, 34, L, L.getD 3 pm_U :: st) M else none := (fr_eq S (d) (19, 33, L, st) M).trans (x_old _ _ 0 3 19 34 L st M)
theorem f19_34 (S : pm_S) (d : Nat) (L : List Value) (st : List Value) (M : pm_M) : fr S (d + 1) (19, 34, L, st) M = match pm_ag 2 [] st with
  | some (a, r) => if r.length ≤ 4 ∧ (1 = 0 ∨ pm_obj M 0 (a.headD pm_U) = true) then (match fr S d (30, 0, a ++ [], []) M with
    | none => none
    | some (.inl v, M') => fr S (d + 1) (19, 37, L, v.toList ++ r) M'
    | some (.inr E, M') => some (.inr E, M')) else none
  | none => none := (fr_eq S (d + 1) (19, 34, L, st) M).trans (x_ocl _ _ 1 30 2 0 [] 19 37 L st M)
theorem f19_37 (S : pm_S) (d : Nat) (L : List Value) (v : Value) (r : List Value) (M : pm_M) : fr S (d) (19, 37, L, v :: r) M = if pm_ty v = 2 ∧ 4 < L.length ∧ ¬ pm_ty (L.getD (4 - 1) pm_U) = 1 then fr S d (19, 39, L.set 4 v, r) M else none := (fr_eq S (d) (19, 37, L, v :: r) M).trans (x_ost _ _ 2 4 19 39 L r v M)
theorem f19_39 (S : pm_S) (d : Nat) (L : List Value) (st : List Value) (M : pm_M) : fr S (d) (19, 39, L, st) M = if pm_ty (L.getD 4 pm_U) = 2 then fr S d (19, 41, L, L.getD 4 pm_U :: st) M else none := (fr_eq S (d) (19, 39, L, st) M).trans (x_old _ _ 2 4 19 41 L st M)
theorem f19_41 (S : pm_S) (d : Nat) (L : List Value) (v : Value) (r : List Value) (M : pm_M) : fr S (d) (19, 41, L, v :: r) M = if pm_ty v = 2 then (if v = .null then fr S d (19, 66, L, r) M else fr S d (19, 44, L, r) M) else none := (fr_eq S (d) (19, 41, L, v :: r) M).trans (x_onu _ _ 66 44 19 L r v M)
theorem f19_44 (S : pm_S) (d : Nat) (L : List Value) (st : List Value) (M : pm_M) : fr S (d) (19, 44, L, st) M = if pm_ty (L.getD 1 pm_U) = 0 then fr S d (19, 45, L, L.getD 1 pm_U :: st) M else none := (fr_eq S (d) (19, 44, L, st) M).trans (x_old _ _ 0 1 19 45 L st M)
theorem f19_45 (S : pm_S) (d : Nat) (L : List Value) (x : Int32) (r : List Value) (M : pm_M) : fr S (d) (19, 45, L, .int x :: r) M = if x = 0 then fr S d (19, 57, L, r) M else fr S d (19, 48, L, r) M := (fr_eq S (d) (19, 45, L, .int x :: r) M).trans (x_oc1eq _ _ 19 48 57 L r x M)
theorem f19_48 (S : pm_S) (d : Nat) (L : List Value) (st : List Value) (M : pm_M) : fr S (d) (19, 48, L, st) M = if pm_ty (L.getD 4 pm_U) = 2 then fr S d (19, 50, L, L.getD 4 pm_U :: st) M else none := (fr_eq S (d) (19, 48, L, st) M).trans (x_old _ _ 2 4 19 50 L st M)
theorem f19_50 (S : pm_S) (d : Nat) (L : List Value) (q : Nat) (r : List Value) (M : pm_M) : fr S (d) (19, 50, L, .ref q :: r) M = match pm_get M q with
  | some (.inr (c, fs)) => if c = 1 ∧ 3 < fs.length then fr S d (19, 53, L, fs.getD 3 pm_U :: r) M else none
  | _ => none := (fr_eq S (d) (19, 50, L, .ref q :: r) M).trans (x_ogf _ _ 1 3 19 53 L r q M)
theorem f19_53 (S : pm_S) (d : Nat) (L : List Value) (st : List Value) (M : pm_M) : fr S (d) (19, 53, L, st) M = if pm_ty (L.getD 1 pm_U) = 0 then fr S d (19, 54, L, L.getD 1 pm_U :: st) M else none := (fr_eq S (d) (19, 53, L, st) M).trans (x_old _ _ 0 1 19 54 L st M)
theorem f19_54 (S : pm_S) (d : Nat) (L : List Value) (x y : Int32) (r : List Value) (M : pm_M) : fr S (d) (19, 54, L, .int y :: .int x :: r) M = if ¬ x = y then fr S d (19, 66, L, r) M else fr S d (19, 57, L, r) M := (fr_eq S (d) (19, 54, L, .int y :: .int x :: r) M).trans (x_oc2ne _ _ 19 57 66 L r x y M)
theorem f19_57 (S : pm_S) (d : Nat) (L : List Value) (st : List Value) (M : pm_M) : fr S (d) (19, 57, L, st) M = if pm_ty (L.getD 2 pm_U) = 0 then fr S d (19, 58, L, L.getD 2 pm_U :: st) M else none := (fr_eq S (d) (19, 57, L, st) M).trans (x_old _ _ 0 2 19 58 L st M)
theorem f19_58 (S : pm_S) (d : Nat) (L : List Value) (st : List Value) (M : pm_M) : fr S (d) (19, 58, L, st) M = if pm_ty (L.getD 0 pm_U) = 2 then fr S d (19, 59, L, L.getD 0 pm_U :: st) M else none := (fr_eq S (d) (19, 58, L, st) M).trans (x_old _ _ 2 0 19 59 L st M)
theorem f19_59 (S : pm_S) (d : Nat) (L : List Value) (st : List Value) (M : pm_M) : fr S (d) (19, 59, L, st) M = if pm_ty (L.getD 4 pm_U) = 2 then fr S d (19, 61, L, L.getD 4 pm_U :: st) M else none := (fr_eq S (d) (19, 59, L, st) M).trans (x_old _ _ 2 4 19 61 L st M)
theorem f19_61 (S : pm_S) (d : Nat) (L : List Value) (st : List Value) (M : pm_M) : fr S (d + 1) (19, 61, L, st) M = match pm_ag 2 [] st with
  | some (a, r) => if r.length ≤ 4 ∧ (1 = 0 ∨ pm_obj M 0 (a.headD pm_U) = true) then (match fr S d (50, 0, a ++ [pm_U, pm_U, pm_U], []) M with
    | none => none
    | some (.inl v, M') => fr S (d + 1) (19, 64, L, v.toList ++ r) M'
    | some (.inr E, M') => some (.inr E, M')) else none
  | none => none := (fr_eq S (d + 1) (19, 61, L, st) M).trans (x_ocl _ _ 1 50 2 0 [pm_U, pm_U, pm_U] 19 64 L st M)
theorem f19_64 (S : pm_S) (d : Nat) (L : List Value) (x y : Int32) (r : List Value) (M : pm_M) : fr S (d) (19, 64, L, .int y :: .int x :: r) M = fr S d (19, 65, L, .int (x + y) :: r) M := (fr_eq S (d) (19, 64, L, .int y :: .int x :: r) M).trans (x_oii _ _ (fun x y => x + y) 19 65 L r x y M)
theorem f19_65 (S : pm_S) (d : Nat) (L : List Value) (v : Value) (r : List Value) (M : pm_M) : fr S (d) (19, 65, L, v :: r) M = if pm_ty v = 0 ∧ 2 < L.length ∧ ¬ pm_ty (L.getD (2 - 1) pm_U) = 1 then fr S d (19, 66, L.set 2 v, r) M else none := (fr_eq S (d) (19, 65, L, v :: r) M).trans (x_ost _ _ 0 2 19 66 L r v M)
theorem f19_66 (S : pm_S) (d : Nat) (L : List Value) (st : List Value) (M : pm_M) : fr S (d) (19, 66, L, st) M = match L.getD 3 pm_U with
  | .int x => if 3 < L.length ∧ ¬ pm_ty (L.getD (3 - 1) pm_U) = 1 then fr S d (19, 69, L.set 3 (.int (x + 1)), st) M else none
  | _ => none := (fr_eq S (d) (19, 66, L, st) M).trans (x_oinc _ _ 3 1 19 69 L st M)
theorem f19_69 (S : pm_S) (d : Nat) (L : List Value) (st : List Value) (M : pm_M) : fr S (d) (19, 69, L, st) M = fr S d (19, 24, L, st) M := (fr_eq S (d) (19, 69, L, st) M).trans (x_ogo _ _ 19 24 L st M)
theorem f19_72 (S : pm_S) (d : Nat) (L : List Value) (st : List Value) (M : pm_M) : fr S (d) (19, 72, L, st) M = if pm_ty (L.getD 2 pm_U) = 0 then fr S d (19, 73, L, L.getD 2 pm_U :: st) M else none := (fr_eq S (d) (19, 72, L, st) M).trans (x_old _ _ 0 2 19 73 L st M)
theorem f19_73 (S : pm_S) (d : Nat) (L : List Value) (v : Value) (M : pm_M) : fr S (d) (19, 73, L, [v]) M = if pm_fit 0 v = true then some (.inl (some v), M) else none := (fr_eq S (d) (19, 73, L, [v]) M).trans (x_ort _ _ 0 v M)
theorem f20_0 (S : pm_S) (d : Nat) (L : List Value) (st : List Value) (M : pm_M) : fr S (d) (20, 0, L, st) M = if pm_ty (L.getD 0 pm_U) = 2 then fr S d (20, 1, L, L.getD 0 pm_U :: st) M else none := (fr_eq S (d) (20, 0, L, st) M).trans (x_old _ _ 2 0 20 1 L st M)
theorem f20_1 (S : pm_S) (d : Nat) (L : List Value) (st : List Value) (M : pm_M) : fr S (d) (20, 1, L, st) M = if pm_ty (L.getD 1 pm_U) = 0 then fr S d (20, 2, L, L.getD 1 pm_U :: st) M else none := (fr_eq S (d) (20, 1, L, st) M).trans (x_old _ _ 0 1 20 2 L st M)
theorem f20_2 (S : pm_S) (d : Nat) (L : List Value) (st : List Value) (M : pm_M) : fr S (d + 1) (20, 2, L, st) M = match pm_ag 2 [] st with
  | some (a, r) => if r.length ≤ 4 ∧ (1 = 0 ∨ pm_obj M 0 (a.headD pm_U) = true) then (match fr S d (26, 0, a ++ [], []) M with
    | none => none
    | some (.inl v, M') => fr S (d + 1) (20, 5, L, v.toList ++ r) M'
    | some (.inr E, M') => some (.inr E, M')) else none
  | none => none := (fr_eq S (d + 1) (20, 2, L, st) M).trans (x_ocl _ _ 1 26 2 0 [] 20 5 L st M)
theorem f20_5 (S : pm_S) (d : Nat) (L : List Value) (x : Int32) (r : List Value) (M : pm_M) : fr S (d) (20, 5, L, .int x :: r) M = if ¬ x = 0 then fr S d (20, 18, L, r) M else fr S d (20, 8, L, r) M := (fr_eq S (d) (20, 5, L, .int x :: r) M).trans (x_oc1ne _ _ 20 8 18 L r x M)
theorem f20_8 (S : pm_S) (d : Nat) (L : List Value) (st : List Value) (M : pm_M) : fr S (d) (20, 8, L, st) M = if st.length ≤ 8 then some (.inr "java/lang/IndexOutOfBoundsException", pm_thr M) else none := (fr_eq S (d) (20, 8, L, st) M).trans (x_oth _ _ "java/lang/IndexOutOfBoundsException" st M)
theorem f20_11 (S : pm_S) (d : Nat) (L : List Value) (v : Value) (r : List Value) (M : pm_M) : fr S (d) (20, 11, L, v :: r) M = if ¬ pm_ty v = 1 ∧ ¬ pm_ty v = 9 then fr S d (20, 12, L, v :: v :: r) M else none := (fr_eq S (d) (20, 11, L, v :: r) M).trans (x_odup _ _ 20 12 L r v M)
theorem f20_18 (S : pm_S) (d : Nat) (L : List Value) (st : List Value) (M : pm_M) : fr S (d) (20, 18, L, st) M = if pm_ty (L.getD 0 pm_U) = 2 then fr S d (20, 19, L, L.getD 0 pm_U :: st) M else none := (fr_eq S (d) (20, 18, L, st) M).trans (x_old _ _ 2 0 20 19 L st M)
theorem f20_19 (S : pm_S) (d : Nat) (L : List Value) (st : List Value) (M : pm_M) : fr S (d + 1) (20, 19, L, st) M = match pm_ag 1 [] st with
  | some (a, r) => if r.length ≤ 4 ∧ (1 = 0 ∨ pm_obj M 0 (a.headD pm_U) = true) then (match fr S d (52, 0, a ++ [pm_U, pm_U], []) M with
    | none => none
    | some (.inl v, M') => fr S (d + 1) (20, 22, L, v.toList ++ r) M'
    | some (.inr E, M') => some (.inr E, M')) else none
  | none => none := (fr_eq S (d + 1) (20, 19, L, st) M).trans (x_ocl _ _ 1 52 1 0 [pm_U, pm_U] 20 22 L st M)
theorem f20_22 (S : pm_S) (d : Nat) (L : List Value) (st : List Value) (M : pm_M) : fr S (d) (20, 22, L, st) M = if pm_ty (L.getD 0 pm_U) = 2 then fr S d (20, 23, L, L.getD 0 pm_U :: st) M else none := (fr_eq S (d) (20, 22, L, st) M).trans (x_old _ _ 2 0 20 23 L st M)
theorem f20_23 (S : pm_S) (d : Nat) (L : List Value) (q : Nat) (r : List Value) (M : pm_M) : fr S (d) (20, 23, L, .ref q :: r) M = match pm_get M q with
  | some (.inr (c, fs)) => if c = 0 ∧ 10 < fs.length then fr S d (20, 26, L, fs.getD 10 pm_U :: r) M else none
  | _ => none := (fr_eq S (d) (20, 23, L, .ref q :: r) M).trans (x_ogf _ _ 0 10 20 26 L r q M)
theorem f20_26 (S : pm_S) (d : Nat) (L : List Value) (st : List Value) (M : pm_M) : fr S (d + 1) (20, 26, L, st) M = match pm_ag 1 [] st with
  | some (a, r) => if r.length ≤ 4 ∧ (1 = 0 ∨ pm_obj M 2 (a.headD pm_U) = true) then (match fr S d (76, 0, a ++ [], []) M with
    | none => none
    | some (.inl v, M') => fr S (d + 1) (20, 29, L, v.toList ++ r) M'
    | some (.inr E, M') => some (.inr E, M')) else none
  | none => none := (fr_eq S (d + 1) (20, 26, L, st) M).trans (x_ocl _ _ 1 76 1 2 [] 20 29 L st M)
theorem f20_29 (S : pm_S) (d : Nat) (L : List Value) (st : List Value) (M : pm_M) : fr S (d) (20, 29, L, st) M = if pm_ty (L.getD 0 pm_U) = 2 then fr S d (20, 30, L, L.getD 0 pm_U :: st) M else none := (fr_eq S (d) (20, 29, L, st) M).trans (x_old _ _ 2 0 20 30 L st M)
theorem f20_30 (S : pm_S) (d : Nat) (L : List Value) (q : Nat) (r : List Value) (M : pm_M) : fr S (d) (20, 30, L, .ref q :: r) M = match pm_get M q with
  | some (.inr (c, fs)) => if c = 0 ∧ 11 < fs.length then fr S d (20, 33, L, fs.getD 11 pm_U :: r) M else none
  | _ => none := (fr_eq S (d) (20, 30, L, .ref q :: r) M).trans (x_ogf _ _ 0 11 20 33 L r q M)
theorem f20_33 (S : pm_S) (d : Nat) (L : List Value) (st : List Value) (M : pm_M) : fr S (d + 1) (20, 33, L, st) M = match pm_ag 1 [] st with
  | some (a, r) => if r.length ≤ 4 ∧ (1 = 0 ∨ pm_obj M 2 (a.headD pm_U) = true) then (match fr S d (76, 0, a ++ [], []) M with
    | none => none
    | some (.inl v, M') => fr S (d + 1) (20, 36, L, v.toList ++ r) M'
    | some (.inr E, M') => some (.inr E, M')) else none
  | none => none := (fr_eq S (d + 1) (20, 33, L, st) M).trans (x_ocl _ _ 1 76 1 2 [] 20 36 L st M)
theorem f20_36 (S : pm_S) (d : Nat) (L : List Value) (st : List Value) (M : pm_M) : fr S (d) (20, 36, L, st) M = if pm_ty (L.getD 0 pm_U) = 2 then fr S d (20, 37, L, L.getD 0 pm_U :: st) M else none := (fr_eq S (d) (20, 36, L, st) M).trans (x_old _ _ 2 0 20 37 L st M)
theorem f20_37 (S : pm_S) (d : Nat) (L : List Value) (st : List Value) (M : pm_M) : fr S (d) (20, 37, L, st) M = if pm_ty (L.getD 1 pm_U) = 0 then fr S d (20, 38, L, L.getD 1 pm_U :: st) M else none := (fr_eq S (d) (20, 37, L, st) M).trans (x_old _ _ 0 1 20 38 L st M)
theorem f20_38 (S : pm_S) (d : Nat) (L : List Value) (st : List Value) (M : pm_M) : fr S (d) (20, 38, L, st) M = fr S d (20, 39, L, .int 0 :: st) M := (fr_eq S (d) (20, 38, L, st) M).trans (x_ocs _ _ (.int 0) 20 39 L st M)
theorem f20_39 (S : pm_S) (d : Nat) (L : List Value) (st : List Value) (M : pm_M) : fr S (d + 1) (20, 39, L, st) M = match pm_ag 3 [] st with
  | some (a, r) => if r.length ≤ 4 ∧ (1 = 0 ∨ pm_obj M 0 (a.headD pm_U) = true) then (match fr S d (53, 0, a ++ [pm_U, pm_U], []) M with
    | none => none
    | some (.inl v, M') => fr S (d + 1) (20, 42, L, v.toList ++ r) M'
    | some (.inr E, M') => some (.inr E, M')) else none
  | none => none := (fr_eq S (d + 1) (20, 39, L, st) M).trans (x_ocl _ _ 1 53 3 0 [pm_U, pm_U] 20 42 L st M)
theorem f20_42 (S : pm_S) (d : Nat) (L : List Value) (st : List Value) (M : pm_M) : fr S (d) (20, 42, L, st) M = fr S d (20, 43, L, .int 0 :: st) M := (fr_eq S (d) (20, 42, L, st) M).trans (x_ocs _ _ (.int 0) 20 43 L st M)
theorem f20_43 (S : pm_S) (d : Nat) (L : List Value) (v : Value) (r : List Value) (M : pm_M) : fr S (d) (20, 43, L, v :: r) M = if pm_ty v = 0 ∧ 2 < L.length ∧ ¬ pm_ty (L.getD (2 - 1) pm_U) = 1 then fr S d (20, 44, L.set 2 v, r) M else none := (fr_eq S (d) (20, 43, L, v :: r) M).trans (x_ost _ _ 0 2 20 44 L r v M)
theorem f20_44 (S : pm_S) (d : Nat) (L : List Value) (st : List Value) (M : pm_M) : fr S (d) (20, 44, L, st) M = if pm_ty (L.getD 2 pm_U) = 0 then fr S d (20, 45, L, L.getD 2 pm_U :: st) M else none := (fr_eq S (d) (20, 44, L, st) M).trans (x_old _ _ 0 2 20 45 L st M)
theorem f20_45 (S : pm_S) (d : Nat) (L : List Value) (st : List Value) (M : pm_M) : fr S (d) (20, 45, L, st) M = if pm_ty (L.getD 0 pm_U) = 2 then fr S d (20, 46, L, L.getD 0 pm_U :: st) M else none := (fr_eq S (d) (20, 45, L, st) M).trans (x_old _ _ 2 0 20 46 L st M)
theorem f20_46 (S : pm_S) (d : Nat) (L : List Value) (q : Nat) (r : List Value) (M : pm_M) : fr S (d) (20, 46, L, .ref q :: r) M = match pm_get M q with
  | some (.inr (c, fs)) => if c = 0 ∧ 11 < fs.length then fr S d (20, 49, L, fs.getD 11 pm_U :: r) M else none
  | _ => none := (fr_eq S (d) (20, 46, L, .ref q :: r) M).trans (x_ogf _ _ 0 11 20 49 L r q M)
theorem f20_49 (S : pm_S) (d : Nat) (L : List Value) (q : Nat) (r : List Value) (M : pm_M) : fr S (d) (20, 49, L, .ref q :: r) M = match pm_get M q with
  | some (.inr (c, fs)) => if c = 2 ∧ 2 < fs.length then fr S d (20, 52, L, fs.getD 2 pm_U :: r) M else none
  | _ => none := (fr_eq S (d) (20, 49, L, .ref q :: r) M).trans (x_ogf _ _ 2 2 20 52 L r q M)
theorem f20_52 (S : pm_S) (d : Nat) (L : List Value) (x y : Int32) (r : List Value) (M : pm_M) : fr S (d) (20, 52, L, .int y :: .int x :: r) M = if y ≤ x then fr S d (20, 83, L, r) M else fr S d (20, 55, L, r) M := (fr_eq S (d) (20, 52, L, .int y :: .int x :: r) M).trans (x_oc2ge _ _ 20 55 83 L r x y M)
theorem f20_55 (S : pm_S) (d : Nat) (L : List Value) (st : List Value) (M : pm_M) : fr S (d) (20, 55, L, st) M = if pm_ty (L.getD 0 pm_U) = 2 then fr S d (20, 56, L, L.getD 0 pm_U :: st) M else none := (fr_eq S (d) (20, 55, L, st) M).trans (x_old _ _ 2 0 20 56 L st M)
theorem f20_56 (S : pm_S) (d : Nat) (L : List Value) (st : List Value) (M : pm_M) : fr S (d) (20, 56, L, st) M = if pm_ty (L.getD 0 pm_U) = 2 then fr S d (20, 57, L, L.getD 0 pm_U :: st) M else none := (fr_eq S (d) (20, 56, L, st) M).trans (x_old _ _ 2 0 20 57 L st M)
theorem f20_57 (S : pm_S) (d : Nat) (L : List Value) (q : Nat) (r : List Value) (M : pm_M) : fr S (d) (20, 57, L, .ref q :: r) M = match pm_get M q with
  | some (.inr (c, fs)) => if c = 0 ∧ 11 < fs.length then fr S d (20, 60, L, fs.getD 11 pm_U :: r) M else none
  | _ => none := (fr_eq S (d) (20, 57, L, .ref q :: r) M).trans (x_ogf _ _ 0 11 20 60 L r q M)
theorem f20_60 (S : pm_S) (d : Nat) (L : List Value) (st : List Value) (M : pm_M) : fr S (d) (20, 60, L, st) M = if pm_ty (L.getD 2 pm_U) = 0 then fr S d (20, 61, L, L.getD 2 pm_U :: st) M else none := (fr_eq S (d) (20, 60, L, st) M).trans (x_old _ _ 0 2 20 61 L st M)
theorem f20_61 (S : pm_S) (d : Nat) (L : List Value) (st : List Value) (M : pm_M) : fr S (d + 1) (20, 61, L, st) M = match pm_ag 2 [] st with
  | some (a, r) => if r.length ≤ 4 ∧ (1 = 0 ∨ pm_obj M 2 (a.headD pm_U) = true) then (match fr S d (79, 0, a ++ [], []) M with
    | none => none
    | some (.inl v, M') => fr S (d + 1) (20, 64, L, v.toList ++ r) M'
    | some (.inr E, M') => some (.inr E, M')) else none
  | none => none := (fr_eq S (d + 1) (20, 61, L, st) M).trans (x_ocl _ _ 1 79 2 2 [] 20 64 L st M)
theorem f20_64 (S : pm_S) (d : Nat) (L : List Value) (st : List Value) (M : pm_M) : fr S (d) (20, 64, L, st) M = if pm_ty (L.getD 1 pm_U) = 0 then fr S d (20, 65, L, L.getD 1 pm_U :: st) M else none := (fr_eq S (d) (20, 64, L, st) M).trans (x_old _ _ 0 1 20 65 L st M)
theorem f20_65 (S : pm_S) (d : Nat) (L : List Value) (st : List Value) (M : pm_M) : fr S (d) (20, 65, L, st) M = if pm_ty (L.getD 0 pm_U) = 2 then fr S d (20, 66, L, L.getD 0 pm_U :: st) M else none := (fr_eq S (d) (20, 65, L, st) M).trans (x_old _ _ 2 0 20 66 L st M)
theorem f20_66 (S : pm_S) (d : Nat) (L : List Value) (q : Nat) (r : List Value) (M : pm_M) : fr S (d) (20, 66, L, .ref q :: r) M = match pm_get M q with
  | some (.inr (c, fs)) => if c = 0 ∧ 11 < fs.length then fr S d (20, 69, L, fs.getD 11 pm_U :: r) M else none
  | _ => none := (fr_eq S (d) (20, 66, L, .ref q :: r) M).trans (x_ogf _ _ 0 11 20 69 L r q M)
theorem f20_69 (S : pm_S) (d : Nat) (L : List Value) (st : List Value) (M : pm_M) : fr S (d) (20, 69, L, st) M = if pm_ty (L.getD 2 pm_U) = 0 then fr S d (20, 70, L, L.getD 2 pm_U :: st) M else none := (fr_eq S (d) (20, 69, L, st) M).trans (x_old _ _ 0 2 20 70 L st M)
theorem f20_70 (S : pm_S) (d : Nat) (L : List Value) (st : List Value) (M : pm_M) : fr S (d + 1) (20, 70, L, st) M = match pm_ag 2 [] st with
  | some (a, r) => if r.length ≤ 4 ∧ (1 = 0 ∨ pm_obj M 2 (a.headD pm_U) = true) then (match fr S d (80, 0, a ++ [], []) M with
    | none => none
    | some (.inl v, M') => fr S (d + 1) (20, 73, L, v.toList ++ r) M'
    | some (.inr E, M') => some (.inr E, M')) else none
  | none => none := (fr_eq S (d + 1) (20, 70, L, st) M).trans (x_ocl _ _ 1 80 2 2 [] 20 73 L st M)
theorem f20_73 (S : pm_S) (d : Nat) (L : List Value) (st : List Value) (M : pm_M) : fr S (d + 1) (20, 73, L, st) M = match pm_ag 4 [] st with
  | some (a, r) => if r.length ≤ 4 ∧ (1 = 0 ∨ pm_obj M 0 (a.headD pm_U) = true) then (match fr S d (56, 0, a ++ [pm_U], []) M with
    | none => none
    | some (.inl v, M') => fr S (d + 1) (20, 76, L, v.toList ++ r) M'
    | some (.inr E, M') => some (.inr E, M')) else none
  | none => none := (fr_eq S (d + 1) (20, 73, L, st) M).trans (x_ocl _ _ 1 56 4 0 [pm_U] 20 76 L st M)
theorem f20_76 (S : pm_S) (d : Nat) (L : List Value) (v : Value) (r : List Value) (M : pm_M) : fr S (d) (20, 76, L, v :: r) M = if ¬ pm_ty v = 1 ∧ ¬ pm_ty v = 9 then fr S d (20, 77, L, r) M else none := (fr_eq S (d) (20, 76, L, v :: r) M).trans (x_opop _ _ 20 77 L r v M)
theorem f20_77 (S : pm_S) (d : Nat) (L : List Value) (st : List Value) (M : pm_M) : fr S (d) (20, 77, L, st) M = match L.getD 2 pm_U with
  | .int x => if 2 < L.length ∧ ¬ pm_ty (L.getD (2 - 1) pm_U) = 1 then fr S d (20, 80, L.set 2 (.int (x + 1)), st) M else none
  | _ => none := (fr_eq S (d) (20, 77, L, st) M).trans (x_oinc _ _ 2 1 20 80 L st M)
theorem f20_80 (S : pm_S) (d : Nat) (L : List Value) (st : List Value) (M : pm_M) : fr S (d) (20, 80, L, st) M = fr S d (20, 44, L, st) M := (fr_eq S (d) (20, 80, L, st) M).trans (x_ogo _ _ 20 44 L st M)
theorem f20_83 (S : pm_S) (d : Nat) (L : List Value) (st : List Value) (M : pm_M) : fr S (d) (20, 83, L, st) M = if pm_ty (L.getD 0 pm_U) = 2 then fr S d (20, 84, L, L.getD 0 pm_U :: st) M else none := (fr_eq S (d) (20, 83, L, st) M).trans (x_old _ _ 2 0 20 84 L st M)
theorem f20_84 (S : pm_S) (d : Nat) (L : List Value) (q : Nat) (r : List Value) (M : pm_M) : fr S (d) (20, 84, L, .ref q :: r) M = match pm_get M q with
  | some (.inr (c, fs)) => if c = 0 ∧ 11 < fs.length then fr S d (20, 87, L, fs.getD 11 pm_U :: r) M else none
  | _ => none := (fr_eq S (d) (20, 84, L, .ref q :: r) M).trans (x_ogf _ _ 0 11 20 87 L r q M)
theorem f20_87 (S : pm_S) (d : Nat) (L : List Value) (q : Nat) (r : List Value) (M : pm_M) : fr S (d) (20, 87, L, .ref q :: r) M = match pm_get M q with
  | some (.inr (c, fs)) => if c = 2 ∧ 2 < fs.length then fr S d (20, 90, L, fs.getD 2 pm_U :: r) M else none
  | _ => none := (fr_eq S (d) (20, 87, L, .ref q :: r) M).trans (x_ogf _ _ 2 2 20 90 L r q M)
theorem f20_90 (S : pm_S) (d : Nat) (L : List Value) (v : Value) (M : pm_M) : fr S (d) (20, 90, L, [v]) M = if pm_fit 0 v = true then some (.inl (some v), M) else none := (fr_eq S (d) (20, 90, L, [v]) M).trans (x_ort _ _ 0 v M)
theorem f21_0 (S : pm_S) (d : Nat) (L : List Value) (st : List Value) (M : pm_M) : fr S (d) (21, 0, L, st) M = if pm_ty (L.getD 0 pm_U) = 2 then fr S d (21, 1, L, L.getD 0 pm_U :: st) M else none := (fr_eq S (d) (21, 0, L, st) M).trans (x_old _ _ 2 0 21 1 L st M)
theorem f21_1 (S : pm_S) (d : Nat) (L : List Value) (st : List Value) (M : pm_M) : fr S (d) (21, 1, L, st) M = if pm_ty (L.getD 1 pm_U) = 0 then fr S d (21, 2, L, L.getD 1 pm_U :: st) M else none := (fr_eq S (d) (21, 1, L, st) M).trans (x_old _ _ 0 1 21 2 L st M)
theorem f21_2 (S : pm_S) (d : Nat) (L : List Value) (st : List Value) (M : pm_M) : fr S (d) (21, 2, L, st) M = if pm_ty (L.getD 2 pm_U) = 0 then fr S d (21, 3, L, L.getD 2 pm_U :: st) M else none := (fr_eq S (d) (21, 2, L, st) M).trans (x_old _ _ 0 2 21 3 L st M)
theorem f21_3 (S : pm_S) (d : Nat) (L : List Value) (st : List Value) (M : pm_M) : fr S (d) (21, 3, L, st) M = if pm_ty (L.getD 3 pm_U) = 0 then fr S d (21, 4, L, L.getD 3 pm_U :: st) M else none := (fr_eq S (d) (21, 3, L, st) M).trans (x_old _ _ 0 3 21 4 L st M)
theorem f21_4 (S : pm_S) (d : Nat) (L : List Value) (st : List Value) (M : pm_M) : fr S (d + 1) (21, 4, L, st) M = match pm_ag 4 [] st with
  | some (a, r) => if r.length ≤ 4 ∧ (1 = 0 ∨ pm_obj M 0 (a.headD pm_U) = true) then (match fr S d (27, 0, a ++ [], []) M with
    | none => none
    | some (.inl v, M') => fr S (d + 1) (21, 7, L, v.toList ++ r) M'
    | some (.inr E, M') => some (.inr E, M')) else none
  | none => none := (fr_eq S (d + 1) (21, 4, L, st) M).trans (x_ocl _ _ 1 27 4 0 [] 21 7 L st M)
theorem f21_7 (S : pm_S) (d : Nat) (L : List Value) (x : Int32) (r : List Value) (M : pm_M) : fr S (d) (21, 7, L, .int x :: r) M = if ¬ x = 0 then fr S d (21, 20, L, r) M else fr S d (21, 10, L, r) M := (fr_eq S (d) (21, 7, L, .int x :: r) M).trans (x_oc1ne _ _ 21 10 20 L r x M)
theorem f21_10 (S : pm_S) (d : Nat) (L : List Value) (st : List Value) (M : pm_M) : fr S (d) (21, 10, L, st) M = if st.length ≤ 8 then some (.inr "java/lang/IndexOutOfBoundsException", pm_thr M) else none := (fr_eq S (d) (21, 10, L, st) M).trans (x_oth _ _ "java/lang/IndexOutOfBoundsException" st M)
theorem f21_13 (S : pm_S) (d : Nat) (L : List Value) (v : Value) (r : List Value) (M : pm_M) : fr S (d) (21, 13, L, v :: r) M = if ¬ pm_ty v = 1 ∧ ¬ pm_ty v = 9 then fr S d (21, 14, L, v :: v :: r) M else none := (fr_eq S (d) (21, 13, L, v :: r) M).trans (x_odup _ _ 21 14 L r v M)
theorem f21_20 (S : pm_S) (d : Nat) (L : List Value) (st : List Value) (M : pm_M) : fr S (d) (21, 20, L, st) M = if pm_ty (L.getD 0 pm_U) = 2 then fr S d (21, 21, L, L.getD 0 pm_U :: st) M else none := (fr_eq S (d) (21, 20, L, st) M).trans (x_old _ _ 2 0 21 21 L st M)
theorem f21_21 (S : pm_S) (d : Nat) (L : List Value) (st : List Value) (M : pm_M) : fr S (d) (21, 21, L, st) M = if pm_ty (L.getD 1 pm_U) = 0 then fr S d (21, 22, L, L.getD 1 pm_U :: st) M else none := (fr_eq S (d) (21, 21, L, st) M).trans (x_old _ _ 0 1 21 22 L st M)
theorem f21_22 (S : pm_S) (d : Nat) (L : List Value) (st : List Value) (M : pm_M) : fr S (d) (21, 22, L, st) M = if pm_ty (L.getD 2 pm_U) = 0 then fr S d (21, 23, L, L.getD 2 pm_U :: st) M else none := (fr_eq S (d) (21, 22, L, st) M).trans (x_old _ _ 0 2 21 23 L st M)
theorem f21_23 (S : pm_S) (d : Nat) (L : List Value) (st : List Value) (M : pm_M) : fr S (d) (21, 23, L, st) M = if pm_ty (L.getD 3 pm_U) = 0 then fr S d (21, 24, L, L.getD 3 pm_U :: st) M else none := (fr_eq S (d) (21, 23, L, st) M).trans (x_old _ _ 0 3 21 24 L st M)
theorem f21_24 (S : pm_S) (d : Nat) (L : List Value) (st : List Value) (M : pm_M) : fr S (d + 1) (21, 24, L, st) M = match pm_ag 4 [] st with
  | some (a, r) => if r.length ≤ 4 ∧ (1 = 0 ∨ pm_obj M 0 (a.headD pm_U) = true) then (match fr S d (31, 0, a ++ [pm_U], []) M with
    | none => none
    | some (.inl v, M') => fr S (d + 1) (21, 27, L, v.toList ++ r) M'
    | some (.inr E, M') => some (.inr E, M')) else none
  | none => none := (fr_eq S (d + 1) (21, 24, L, st) M).trans (x_ocl _ _ 1 31 4 0 [pm_U] 21 27 L st M)
theorem f21_27 (S : pm_S) (d : Nat) (L : List Value) (v : Value) (r : List Value) (M : pm_M) : fr S (d) (21, 27, L, v :: r) M = if pm_ty v = 2 ∧ 4 < L.length ∧ ¬ pm_ty (L.getD (4 - 1) pm_U) = 1 then fr S d (21, 29, L.set 4 v, r) M else none := (fr_eq S (d) (21, 27, L, v :: r) M).trans (x_ost _ _ 2 4 21 29 L r v M)
theorem f21_29 (S : pm_S) (d : Nat) (L : List Value) (st : List Value) (M : pm_M) : fr S (d) (21, 29, L, st) M = if pm_ty (L.getD 4 pm_U) = 2 then fr S d (21, 31, L, L.getD 4 pm_U :: st) M else none := (fr_eq S (d) (21, 29, L, st) M).trans (x_old _ _ 2 4 21 31 L st M)
theorem f21_31 (S : pm_S) (d : Nat) (L : List Value) (v : Value) (r : List Value) (M : pm_M) : fr S (d) (21, 31, L, v :: r) M = if pm_ty v = 2 then (if v = .null then fr S d (21, 34, L, r) M else fr S d (21, 38, L, r) M) else none := (fr_eq S (d) (21, 31, L, v :: r) M).trans (x_onu _ _ 34 38 21 L r v M)
theorem f21_34 (S : pm_S) (d : Nat) (L : List Value) (st : List Value) (M : pm_M) : fr S (d) (21, 34, L, st) M = fr S d (21, 35, L, .int (-1) :: st) M := (fr_eq S (d) (21, 34, L, st) M).trans (x_ocs _ _ (.int (-1)) 21 35 L st M)
theorem f21_35 (S : pm_S) (d : Nat) (L : List Value) (st : List Value) (M : pm_M) : fr S (d) (21, 35, L, st) M = fr S d (21, 43, L, st) M := (fr_eq S (d) (21, 35, L, st) M).trans (x_ogo _ _ 21 43 L st M)
theorem f21_38 (S : pm_S) (d : Nat) (L : List Value) (st : List Value) (M : pm_M) : fr S (d) (21, 38, L, st) M = if pm_ty (L.getD 4 pm_U) = 2 then fr S d (21, 40, L, L.getD 4 pm_U :: st) M else none := (fr_eq S (d) (21, 38, L, st) M).trans (x_old _ _ 2 4 21 40 L st M)
theorem f21_40 (S : pm_S) (d : Nat) (L : List Value) (q : Nat) (r : List Value) (M : pm_M) : fr S (d) (21, 40, L, .ref q :: r) M = match pm_get M q with
  | some (.inr (c, fs)) => if c = 1 ∧ 0 < fs.length then fr S d (21, 43, L, fs.getD 0 pm_U :: r) M else none
  | _ => none := (fr_eq S (d) (21, 40, L, .ref q :: r) M).trans (x_ogf _ _ 1 0 21 43 L r q M)
theorem f21_43 (S : pm_S) (d : Nat) (L : List Value) (v : Value) (M : pm_M) : fr S (d) (21, 43, L, [v]) M = if pm_fit 0 v = true then some (.inl (some v), M) else none := (fr_eq S (d) (21, 43, L, [v]) M).trans (x_ort _ _ 0 v M)
theorem f22_0 (S : pm_S) (d : Nat) (L : List Value) (st : List Value) (M : pm_M) : fr S (d) (22, 0, L, st) M = if pm_ty (L.getD 0 pm_U) = 2 then fr S d (22, 1, L, L.getD 0 pm_U :: st) M else none := (fr_eq S (d) (22, 0, L, st) M).trans (x_old _ _ 2 0 22 1 L st M)
theorem f22_1 (S : pm_S) (d : Nat) (L : List Value) (st : List Value) (M : pm_M) : fr S (d) (22, 1, L, st) M = if pm_ty (L.getD 1 pm_U) = 0 then fr S d (22, 2, L, L.getD 1 pm_U :: st) M else none := (fr_eq S (d) (22, 1, L, st) M).trans (x_old _ _ 0 1 22 2 L st M)
theorem f22_2 (S : pm_S) (d : Nat) (L : List Value) (st : List Value) (M : pm_M) : fr S (d + 1) (22, 2, L, st) M = match pm_ag 2 [] st with
  | some (a, r) => if r.length ≤ 4 ∧ (1 = 0 ∨ pm_obj M 0 (a.headD pm_U) = true) then (match fr S d (30, 0, a ++ [], []) M with
    | none => none
    | some (.inl v, M') => fr S (d + 1) (22, 5, L, v.toList ++ r) M'
    | some (.inr E, M') => some (.inr E, M')) else none
  | none => none := (fr_eq S (d + 1) (22, 2, L, st) M).trans (x_ocl _ _ 1 30 2 0 [] 22 5 L st M)
theorem f22_5 (S : pm_S) (d : Nat) (L : List Value) (v : Value) (r : List Value) (M : pm_M) : fr S (d) (22, 5, L, v :: r) M = if pm_ty v = 2 ∧ 3 < L.length ∧ ¬ pm_ty (L.getD (3 - 1) pm_U) = 1 then fr S d (22, 6, L.set 3 v, r) M else none := (fr_eq S (d) (22, 5, L, v :: r) M).trans (x_ost _ _ 2 3 22 6 L r v M)
theorem f22_6 (S : pm_S) (d : Nat) (L : List Value) (st : List Value) (M : pm_M) : fr S (d) (22, 6, L, st) M = if pm_ty (L.getD 3 pm_U) = 2 then fr S d (22, 7, L, L.getD 3 pm_U :: st) M else none := (fr_eq S (d) (22, 6, L, st) M).trans (x_old _ _ 2 3 22 7 L st M)
theorem f22_7 (S : pm_S) (d : Nat) (L : List Value) (v : Value) (r : List Value) (M : pm_M) : fr S (d) (22, 7, L, v :: r) M = if pm_ty v = 2 then (if v = .null then fr S d (22, 20, L, r) M else fr S d (22, 10, L, r) M) else none := (fr_eq S (d) (22, 7, L, v :: r) M).trans (x_onu _ _ 20 10 22 L r v M)
theorem f22_10 (S : pm_S) (d : Nat) (L : List Value) (st : List Value) (M : pm_M) : fr S (d) (22, 10, L, st) M = if pm_ty (L.getD 2 pm_U) = 0 then fr S d (22, 11, L, L.getD 2 pm_U :: st) M else none := (fr_eq S (d) (22, 10, L, st) M).trans (x_old _ _ 0 2 22 11 L st M)
theorem f22_11 (S : pm_S) (d : Nat) (L : List Value) (x : Int32) (r : List Value) (M : pm_M) : fr S (d) (22, 11, L, .int x :: r) M = if x < 0 then fr S d (22, 20, L, r) M else fr S d (22, 14, L, r) M := (fr_eq S (d) (22, 11, L, .int x :: r) M).trans (x_oc1lt _ _ 22 14 20 L r x M)
theorem f22_14 (S : pm_S) (d : Nat) (L : List Value) (st : List Value) (M : pm_M) : fr S (d) (22, 14, L, st) M = if pm_ty (L.getD 2 pm_U) = 0 then fr S d (22, 15, L, L.getD 2 pm_U :: st) M else none := (fr_eq S (d) (22, 14, L, st) M).trans (x_old _ _ 0 2 22 15 L st M)
theorem f22_15 (S : pm_S) (d : Nat) (L : List Value) (st : List Value) (M : pm_M) : fr S (d) (22, 15, L, st) M = fr S d (22, 17, L, .int 6 :: st) M := (fr_eq S (d) (22, 15, L, st) M).trans (x_ocs _ _ (.int 6) 22 17 L st M)
theorem f22_17 (S : pm_S) (d : Nat) (L : List Value) (x y : Int32) (r : List Value) (M : pm_M) : fr S (d) (22, 17, L, .int y :: .int x :: r) M = if x ≤ y then fr S d (22, 30, L, r) M else fr S d (22, 20, L, r) M := (fr_eq S (d) (22, 17, L, .int y :: .int x :: r) M).trans (x_oc2le _ _ 22 20 30 L r x y M)
theorem f22_20 (S : pm_S) (d : Nat) (L : List Value) (st : List Value) (M : pm_M) : fr S (d) (22, 20, L, st) M = if st.length ≤ 8 then some (.inr "java/lang/IndexOutOfBoundsException", pm_thr M) else none := (fr_eq S (d) (22, 20, L, st) M).trans (x_oth _ _ "java/lang/IndexOutOfBoundsException" st M)
theorem f22_23 (S : pm_S) (d : Nat) (L : List Value) (v : Value) (r : List Value) (M : pm_M) : fr S (d) (22, 23, L, v :: r) M = if ¬ pm_ty v = 1 ∧ ¬ pm_ty v = 9 then fr S d (22, 24, L, v :: v :: r) M else none := (fr_eq S (d) (22, 23, L, v :: r) M).trans (x_odup _ _ 22 24 L r v M)
theorem f22_30 (S : pm_S) (d : Nat) (L : List Value) (st : List Value) (M : pm_M) : fr S (d) (22, 30, L, st) M = if pm_ty (L.getD 2 pm_U) = 0 then fr S d (22, 31, L, L.getD 2 pm_U :: st) M else none := (fr_eq S (d) (22, 30, L, st) M).trans (x_old _ _ 0 2 22 31 L st M)
theorem f22_31 (S : pm_S) (d : Nat) (L : List Value) (x : Int32) (r : List Value) (M : pm_M) : fr S (d) (22, 31, L, .int x :: r) M = if x.toInt < 0 ∨ 0 + (([68, 73, 78, 83, 88, 93] : List Nat).length : Int) ≤ x.toInt then fr S d (22, 98, L, r) M else fr S d (22, ([68, 73, 78, 83, 88, 93] : List Nat).getD (x.toInt - 0).toNat 98, L, r) M := (fr_eq S (d) (22, 31, L, .int x :: r) M).trans (x_ots _ _ 98 0 [68, 73, 78, 83, 88, 93] 22 L r x M)
theorem f22_68 (S : pm_S) (d : Nat) (L : List Value) (st : List Value) (M : pm_M) : fr S (d) (22, 68, L, st) M = if pm_ty (L.getD 3 pm_U) = 2 then fr S d (22, 69, L, L.getD 3 pm_U :: st) M else none := (fr_eq S (d) (22, 68, L, st) M).trans (x_old _ _ 2 3 22 69 L st M)
theorem f22_69 (S : pm_S) (d : Nat) (L : List Value) (q : Nat) (r : List Value) (M : pm_M) : fr S (d) (22, 69, L, .ref q :: r) M = match pm_get M q with
  | some (.inr (c, fs)) => if c = 1 ∧ 1 < fs.length then fr S d (22, 72, L, fs.getD 1 pm_U :: r) M else none
  | _ => none := (fr_eq S (d) (22, 69, L, .ref q :: r) M).trans (x_ogf _ _ 1 1 22 72 L r q M)
theorem f22_72 (S : pm_S) (d : Nat) (L : List Value) (v : Value) (M : pm_M) : fr S (d) (22, 72, L, [v]) M = if pm_fit 0 v = true then some (.inl (some v), M) else none := (fr_eq S (d) (22, 72, L, [v]) M).trans (x_ort _ _ 0 v M)
theorem f22_73 (S : pm_S) (d : Nat) (L : List Value) (st : List Value) (M : pm_M) : fr S (d) (22, 73, L, st) M = if pm_ty (L.getD 3 pm_U) = 2 then fr S d (22, 74, L, L.getD 3 pm_U :: st) M else none := (fr_eq S (d) (22, 73, L, st) M).trans (x_old _ _ 2 3 22 74 L st M)
theorem f22_74 (S : pm_S) (d : Nat) (L : List Value) (q : Nat) (r : List Value) (M : pm_M) : fr S (d) (22, 74, L, .ref q :: r) M = match pm_get M q with
  | some (.inr (c, fs)) => if c = 1 ∧ 2 < fs.length then fr S d (22, 77, L, fs.getD 2 pm_U :: r) M else none
  | _ => none := (fr_eq S (d) (22, 74, L, .ref q :: r) M).trans (x_ogf _ _ 1 2 22 77 L r q M)
theorem f22_77 (S : pm_S) (d : Nat) (L : List Value) (v : Value) (M : pm_M) : fr S (d) (22, 77, L, [v]) M = if pm_fit 0 v = true then some (.inl (some v), M) else none := (fr_eq S (d) (22, 77, L, [v]) M).trans (x_ort _ _ 0 v M)
theorem f22_78 (S : pm_S) (d : Nat) (L : List Value) (st : List Value) (M : pm_M) : fr S (d) (22, 78, L, st) M = if pm_ty (L.getD 3 pm_U) = 2 then fr S d (22, 79, L, L.getD 3 pm_U :: st) M else none := (fr_eq S (d) (22, 78, L, st) M).trans (x_old _ _ 2 3 22 79 L st M)
theorem f22_79 (S : pm_S) (d : Nat) (L : List Value) (q : Nat) (r : List Value) (M : pm_M) : fr S (d) (22, 79, L, .ref q :: r) M = match pm_get M q with
  | some (.inr (c, fs)) => if c = 1 ∧ 3 < fs.length then fr S d (22, 82, L, fs.getD 3 pm_U :: r) M else none
  | _ => none := (fr_eq S (d) (22, 79, L, .ref q :: r) M).trans (x_ogf _ _ 1 3 22 82 L r q M)
theorem f22_82 (S : pm_S) (d : Nat) (L : List Value) (v : Value) (M : pm_M) : fr S (d) (22, 82, L, [v]) M = if pm_fit 0 v = true then some (.inl (some v), M) else none := (fr_eq S (d) (22, 82, L, [v]) M).trans (x_ort _ _ 0 v M)
theorem f22_83 (S : pm_S) (d : Nat) (L : List Value) (st : List Value) (M : pm_M) : fr S (d) (22, 83, L, st) M = if pm_ty (L.getD 3 pm_U) = 2 then fr S d (22, 84, L, L.getD 3 pm_U :: st) M else none := (fr_eq S (d) (22, 83, L, st) M).trans (x_old _ _ 2 3 22 84 L st M)
theorem f22_84 (S : pm_S) (d : Nat) (L : List Value) (q : Nat) (r : List Value) (M : pm_M) : fr S (d) (22, 84, L, .ref q :: r) M = match pm_get M q with
  | some (.inr (c, fs)) => if c = 1 ∧ 4 < fs.length then fr S d (22, 87, L, fs.getD 4 pm_U :: r) M else none
  | _ => none := (fr_eq S (d) (22, 84, L, .ref q :: r) M).trans (x_ogf _ _ 1 4 22 87 L r q M)
theorem f22_87 (S : pm_S) (d : Nat) (L : List Value) (v : Value) (M : pm_M) : fr S (d) (22, 87, L, [v]) M = if pm_fit 0 v = true then some (.inl (some v), M) else none := (fr_eq S (d) (22, 87, L, [v]) M).trans (x_ort _ _ 0 v M)
theorem f22_88 (S : pm_S) (d : Nat) (L : List Value) (st : List Value) (M : pm_M) : fr S (d) (22, 88, L, st) M = if pm_ty (L.getD 3 pm_U) = 2 then fr S d (22, 89, L, L.getD 3 pm_U :: st) M else none := (fr_eq S (d) (22, 88, L, st) M).trans (x_old _ _ 2 3 22 89 L st M)
theorem f22_89 (S : pm_S) (d : Nat) (L : List Value) (q : Nat) (r : List Value) (M : pm_M) : fr S (d) (22, 89, L, .ref q :: r) M = match pm_get M q with
  | some (.inr (c, fs)) => if c = 1 ∧ 5 < fs.length then fr S d (22, 92, L, fs.getD 5 pm_U :: r) M else none
  | _ => none := (fr_eq S (d) (22, 89, L, .ref q :: r) M).trans (x_ogf _ _ 1 5 22 92 L r q M)
theorem f22_92 (S : pm_S) (d : Nat) (L : List Value) (v : Value) (M : pm_M) : fr S (d) (22, 92, L, [v]) M = if pm_fit 0 v = true then some (.inl (some v), M) else none := (fr_eq S (d) (22, 92, L, [v]) M).trans (x_ort _ _ 0 v M)
theorem f22_93 (S : pm_S) (d : Nat) (L : List Value) (st : List Value) (M : pm_M) : fr S (d) (22, 93, L, st) M = if pm_ty (L.getD 3 pm_U) = 2 then fr S d (22, 94, L, L.getD 3 pm_U :: st) M else none := (fr_eq S (d) (22, 93, L, st) M).trans (x_old _ _ 2 3 22 94 L st M)
theorem f22_94 (S : pm_S) (d : Nat) (L : List Value) (q : Nat) (r : List Value) (M : pm_M) : fr S (d) (22, 94, L, .ref q :: r) M = match pm_get M q with
  | some (.inr (c, fs)) => if c = 1 ∧ 6 < fs.length then fr S d (22, 97, L, fs.getD 6 pm_U :: r) M else none
  | _ => none := (fr_eq S (d) (22, 94, L, .ref q :: r) M).trans (x_ogf _ _ 1 6 22 97 L r q M)
theorem f22_97 (S : pm_S) (d : Nat) (L : List Value) (v : Value) (M : pm_M) : fr S (d) (22, 97, L, [v]) M = if pm_fit 0 v = true then some (.inl (some v), M) else none := (fr_eq S (d) (22, 97, L, [v]) M).trans (x_ort _ _ 0 v M)
theorem f22_98 (S : pm_S) (d : Nat) (L : List Value) (st : List Value) (M : pm_M) : fr S (d) (22, 98, L, st) M = if pm_ty (L.getD 3 pm_U) = 2 then fr S d (22, 99, L, L.getD 3 pm_U :: st) M else none := (fr_eq S (d) (22, 98, L, st) M).trans (x_old _ _ 2 3 22 99 L st M)
theorem f22_99 (S : pm_S) (d : Nat) (L : List Value) (q : Nat) (r : List Value) (M : pm_M) : fr S (d) (22, 99, L, .ref q :: r) M = match pm_get M q with
  | some (.inr (c, fs)) => if c = 1 ∧ 7 < fs.length then fr S d (22, 102, L, fs.getD 7 pm_U :: r) M else none
  | _ => none := (fr_eq S (d) (22, 99, L, .ref q :: r) M).trans (x_ogf _ _ 1 7 22 102 L r q M)
theorem f22_102 (S : pm_S) (d : Nat) (L : List Value) (v : Value) (M : pm_M) : fr S (d) (22, 102, L, [v]) M = if pm_fit 0 v = true then some (.inl (some v), M) else none := (fr_eq S (d) (22, 102, L, [v]) M).trans (x_ort _ _ 0 v M)
theorem f23_0 (S : pm_S) (d : Nat) (L : List Value) (st : List Value) (M : pm_M) : fr S (d) (23, 0, L, st) M = if pm_ty (L.getD 1 pm_U) = 0 then fr S d (23, 1, L, L.getD 1 pm_U :: st) M else none := (fr_eq S (d) (23, 0, L, st) M).trans (x_old _ _ 0 1 23 1 L st M)
theorem f23_1 (S : pm_S) (d : Nat) (L : List Value) (x : Int32) (r : List Value) (M : pm_M) : fr S (d) (23, 1, L, .int x :: r) M = if x.toInt < 0 ∨ 0 + (([40, 45, 50, 55, 60, 65] : List Nat).length : Int) ≤ x.toInt then fr S d (23, 77, L, r) M else fr S d (23, ([40, 45, 50, 55, 60, 65] : List Nat).getD (x.toInt - 0).toNat 77, L, r) M := (fr_eq S (d) (23, 1, L, .int x :: r) M).trans (x_ots _ _ 77 0 [40, 45, 50, 55, 60, 65] 23 L r x M)
theorem f23_40 (S : pm_S) (d : Nat) (L : List Value) (st : List Value) (M : pm_M) : fr S (d) (23, 40, L, st) M = if pm_ty (L.getD 0 pm_U) = 2 then fr S d (23, 41, L, L.getD 0 pm_U :: st) M else none := (fr_eq S (d) (23, 40, L, st) M).trans (x_old _ _ 2 0 23 41 L st M)
theorem f23_41 (S : pm_S) (d : Nat) (L : List Value) (q : Nat) (r : List Value) (M : pm_M) : fr S (d) (23, 41, L, .ref q :: r) M = match pm_get M q with
  | some (.inr (c, fs)) => if c = 0 ∧ 4 < fs.length then fr S d (23, 44, L, fs.getD 4 pm_U :: r) M else none
  | _ => none := (fr_eq S (d) (23, 41, L, .ref q :: r) M).trans (x_ogf _ _ 0 4 23 44 L r q M)
theorem f23_44 (S : pm_S) (d : Nat) (L : List Value) (v : Value) (M : pm_M) : fr S (d) (23, 44, L, [v]) M = if pm_fit 0 v = true then some (.inl (some v), M) else none := (fr_eq S (d) (23, 44, L, [v]) M).trans (x_ort _ _ 0 v M)
theorem f23_45 (S : pm_S) (d : Nat) (L : List Value) (st : List Value) (M : pm_M) : fr S (d) (23, 45, L, st) M = if pm_ty (L.getD 0 pm_U) = 2 then fr S d (23, 46, L, L.getD 0 pm_U :: st) M else none := (fr_eq S (d) (23, 45, L, st) M).trans (x_old _ _ 2 0 23 46 L st M)
theorem f23_46 (S : pm_S) (d : Nat) (L : List Value) (st : List Value) (M : pm_M) : fr S (d + 1) (23, 46, L, st) M = match pm_ag 1 [] st with
  | some (a, r) => if r.length ≤ 4 ∧ (1 = 0 ∨ pm_obj M 0 (a.headD pm_U) = true) then (match fr S d (36, 0, a ++ [pm_U, pm_U, pm_U], []) M with
    | none => none
    | some (.inl v, M') => fr S (d + 1) (23, 49, L, v.toList ++ r) M'
    | some (.inr E, M') => some (.inr E, M')) else none
  | none => none := (fr_eq S (d + 1) (23, 46, L, st) M).trans (x_ocl _ _ 1 36 1 0 [pm_U, pm_U, pm_U] 23 49 L st M)
theorem f23_49 (S : pm_S) (d : Nat) (L : List Value) (v : Value) (M : pm_M) : fr S (d) (23, 49, L, [v]) M = if pm_fit 0 v = true then some (.inl (some v), M) else none := (fr_eq S (d) (23, 49, L, [v]) M).trans (x_ort _ _ 0 v M)
theorem f23_50 (S : pm_S) (d : Nat) (L : List Value) (st : List Value) (M : pm_M) : fr S (d) (23, 50, L, st) M = if pm_ty (L.getD 0 pm_U) = 2 then fr S d (23, 51, L, L.getD 0 pm_U :: st) M else none := (fr_eq S (d) (23, 50, L, st) M).trans (x_old _ _ 2 0 23 51 L st M)
theorem f23_51 (S : pm_S) (d : Nat) (L : List Value) (q : Nat) (r : List Value) (M : pm_M) : fr S (d) (23, 51, L, .ref q :: r) M = match pm_get M q with
  | some (.inr (c, fs)) => if c = 0 ∧ 0 < fs.length then fr S d (23, 54, L, fs.getD 0 pm_U :: r) M else none
  | _ => none := (fr_eq S (d) (23, 51, L, .ref q :: r) M).trans (x_ogf _ _ 0 0 23 54 L r q M)
theorem f23_54 (S : pm_S) (d : Nat) (L : List Value) (v : Value) (M : pm_M) : fr S (d) (23, 54, L, [v]) M = if pm_fit 0 v = true then some (.inl (some v), M) else none := (fr_eq S (d) (23, 54, L, [v]) M).trans (x_ort _ _ 0 v M)
theorem f23_55 (S : pm_S) (d : Nat) (L : List Value) (st : List Value) (M : pm_M) : fr S (d) (23, 55, L, st) M = if pm_ty (L.getD 0 pm_U) = 2 then fr S d (23, 56, L, L.getD 0 pm_U :: st) M else none := (fr_eq S (d) (23, 55, L, st) M).trans (x_old _ _ 2 0 23 56 L st M)
theorem f23_56 (S : pm_S) (d : Nat) (L : List Value) (q : Nat) (r : List Value) (M : pm_M) : fr S (d) (23, 56, L, .ref q :: r) M = match pm_get M q with
  | some (.inr (c, fs)) => if c = 0 ∧ 1 < fs.length then fr S d (23, 59, L, fs.getD 1 pm_U :: r) M else none
  | _ => none := (fr_eq S (d) (23, 56, L, .ref q :: r) M).trans (x_ogf _ _ 0 1 23 59 L r q M)
theorem f23_59 (S : pm_S) (d : Nat) (L : List Value) (v : Value) (M : pm_M) : fr S (d) (23, 59, L, [v]) M = if pm_fit 0 v = true then some (.inl (some v), M) else none := (fr_eq S (d) (23, 59, L, [v]) M).trans (x_ort _ _ 0 v M)
theorem f23_60 (S : pm_S) (d : Nat) (L : List Value) (st : List Value) (M : pm_M) : fr S (d) (23, 60, L, st) M = if pm_ty (L.getD 0 pm_U) = 2 then fr S d (23, 61, L, L.getD 0 pm_U :: st) M else none := (fr_eq S (d) (23, 60, L, st) M).trans (x_old _ _ 2 0 23 61 L st M)
theorem f23_61 (S : pm_S) (d : Nat) (L : List Value) (q : Nat) (r : List Value) (M : pm_M) : fr S (d) (23, 61, L, .ref q :: r) M = match pm_get M q with
  | some (.inr (c, fs)) => if c = 0 ∧ 2 < fs.length then fr S d (23, 64, L, fs.getD 2 pm_U :: r) M else none
  | _ => none := (fr_eq S (d) (23, 61, L, .ref q :: r) M).trans (x_ogf _ _ 0 2 23 64 L r q M)
theorem f23_64 (S : pm_S) (d : Nat) (L : List Value) (v : Value) (M : pm_M) : fr S (d) (23, 64, L, [v]) M = if pm_fit 0 v = true then some (.inl (some v), M) else none := (fr_eq S (d) (23, 64, L, [v]) M).trans (x_ort _ _ 0 v M)
theorem f23_65 (S : pm_S) (d : Nat) (L : List Value) (st : List Value) (M : pm_M) : fr S (d) (23, 65, L, st) M = if pm_ty (L.getD 0 pm_U) = 2 then fr S d (23, 66, L, L.getD 0 pm_U :: st) M else none := (fr_eq S (d) (23, 65, L, st) M).trans (x_old _ _ 2 0 23 66 L st M)
theorem f23_66 (S : pm_S) (d : Nat) (L : List Value) (st : List Value) (M : pm_M) : fr S (d) (23, 66, L, st) M = fr S d (23, 67, L, .int 0 :: st) M := (fr_eq S (d) (23, 66, L, st) M).trans (x_ocs _ _ (.int 0) 23 67 L st M)
theorem f23_67 (S : pm_S) (d : Nat) (L : List Value) (st : List Value) (M : pm_M) : fr S (d) (23, 67, L, st) M = if pm_ty (L.getD 0 pm_U) = 2 then fr S d (23, 68, L, L.getD 0 pm_U :: st) M else none := (fr_eq S (d) (23, 67, L, st) M).trans (x_old _ _ 2 0 23 68 L st M)
theorem f23_68 (S : pm_S) (d : Nat) (L : List Value) (q : Nat) (r : List Value) (M : pm_M) : fr S (d) (23, 68, L, .ref q :: r) M = match pm_get M q with
  | some (.inr (c, fs)) => if c = 0 ∧ 0 < fs.length then fr S d (23, 71, L, fs.getD 0 pm_U :: r) M else none
  | _ => none := (fr_eq S (d) (23, 68, L, .ref q :: r) M).trans (x_ogf _ _ 0 0 23 71 L r q M)
theorem f23_71 (S : pm_S) (d : Nat) (L : List Value) (st : List Value) (M : pm_M) : fr S (d) (23, 71, L, st) M = fr S d (23, 72, L, .int 1 :: st) M := (fr_eq S (d) (23, 71, L, st) M).trans (x_ocs _ _ (.int 1) 23 72 L st M)
theorem f23_72 (S : pm_S) (d : Nat) (L : List Value) (x y : Int32) (r : List Value) (M : pm_M) : fr S (d) (23, 72, L, .int y :: .int x :: r) M = fr S d (23, 73, L, .int (x - y) :: r) M := (fr_eq S (d) (23, 72, L, .int y :: .int x :: r) M).trans (x_oii _ _ (fun x y => x - y) 23 73 L r x y M)
theorem f23_73 (S : pm_S) (d : Nat) (L : List Value) (st : List Value) (M : pm_M) : fr S (d + 1) (23, 73, L, st) M = match pm_ag 3 [] st with
  | some (a, r) => if r.length ≤ 4 ∧ (1 = 0 ∨ pm_obj M 0 (a.headD pm_U) = true) then (match fr S d (37, 0, a ++ [pm_U, pm_U, pm_U], []) M with
    | none => none
    | some (.inl v, M') => fr S (d + 1) (23, 76, L, v.toList ++ r) M'
    | some (.inr E, M') => some (.inr E, M')) else none
  | none => none := (fr_eq S (d + 1) (23, 73, L, st) M).trans (x_ocl _ _ 1 37 3 0 [pm_U, pm_U, pm_U] 23 76 L st M)
theorem f23_76 (S : pm_S) (d : Nat) (L : List Value) (v : Value) (M : pm_M) : fr S (d) (23, 76, L, [v]) M = if pm_fit 0 v = true then some (.inl (some v), M) else none := (fr_eq S (d) (23, 76, L, [v]) M).trans (x_ort _ _ 0 v M)
theorem f23_77 (S : pm_S) (d : Nat) (L : List Value) (st : List Value) (M : pm_M) : fr S (d) (23, 77, L, st) M = if pm_ty (L.getD 1 pm_U) = 0 then fr S d (23, 78, L, L.getD 1 pm_U :: st) M else none := (fr_eq S (d) (23, 77, L, st) M).trans (x_old _ _ 0 1 23 78 L st M)
theorem f23_78 (S : pm_S) (d : Nat) (L : List Value) (st : List Value) (M : pm_M) : fr S (d) (23, 78, L, st) M = fr S d (23, 80, L, .int 10 :: st) M := (fr_eq S (d) (23, 78, L, st) M).trans (x_ocs _ _ (.int 10) 23 80 L st M)
theorem f23_80 (S : pm_S) (d : Nat) (L : List Value) (x y : Int32) (r : List Value) (M : pm_M) : fr S (d) (23, 80, L, .int y :: .int x :: r) M = if x < y then fr S d (23, 94, L, r) M else fr S d (23, 83, L, r) M := (fr_eq S (d) (23, 80, L, .int y :: .int x :: r) M).trans (x_oc2lt _ _ 23 83 94 L r x y M)
theorem f23_83 (S : pm_S) (d : Nat) (L : List Value) (st : List Value) (M : pm_M) : fr S (d) (23, 83, L, st) M = if pm_ty (L.getD 0 pm_U) = 2 then fr S d (23, 84, L, L.getD 0 pm_U :: st) M else none := (fr_eq S (d) (23, 83, L, st) M).trans (x_old _ _ 2 0 23 84 L st M)
theorem f23_84 (S : pm_S) (d : Nat) (L : List Value) (st : List Value) (M : pm_M) : fr S (d) (23, 84, L, st) M = if pm_ty (L.getD 1 pm_U) = 0 then fr S d (23, 85, L, L.getD 1 pm_U :: st) M else none := (fr_eq S (d) (23, 84, L, st) M).trans (x_old _ _ 0 1 23 85 L st M)
theorem f23_85 (S : pm_S) (d : Nat) (L : List Value) (st : List Value) (M : pm_M) : fr S (d) (23, 85, L, st) M = fr S d (23, 87, L, .int 10 :: st) M := (fr_eq S (d) (23, 85, L, st) M).trans (x_ocs _ _ (.int 10) 23 87 L st M)
theorem f23_87 (S : pm_S) (d : Nat) (L : List Value) (x y : Int32) (r : List Value) (M : pm_M) : fr S (d) (23, 87, L, .int y :: .int x :: r) M = fr S d (23, 88, L, .int (x - y) :: r) M := (fr_eq S (d) (23, 87, L, .int y :: .int x :: r) M).trans (x_oii _ _ (fun x y => x - y) 23 88 L r x y M)
theorem f23_88 (S : pm_S) (d : Nat) (L : List Value) (st : List Value) (M : pm_M) : fr S (d + 1) (23, 88, L, st) M = match pm_ag 2 [] st with
  | some (a, r) => if r.length ≤ 4 ∧ (1 = 0 ∨ pm_obj M 0 (a.headD pm_U) = true) then (match fr S d (26, 0, a ++ [], []) M with
    | none => none
    | some (.inl v, M') => fr S (d + 1) (23, 91, L, v.toList ++ r) M'
    | some (.inr E, M') => some (.inr E, M')) else none
  | none => none := (fr_eq S (d + 1) (23, 88, L, st) M).trans (x_ocl _ _ 1 26 2 0 [] 23 91 L st M)
theorem f23_91 (S : pm_S) (d : Nat) (L : List Value) (x : Int32) (r : List Value) (M : pm_M) : fr S (d) (23, 91, L, .int x :: r) M = if ¬ x = 0 then fr S d (23, 96, L, r) M else fr S d (23, 94, L, r) M := (fr_eq S (d) (23, 91, L, .int x :: r) M).trans (x_oc1ne _ _ 23 94 96 L r x M)
theorem f23_94 (S : pm_S) (d : Nat) (L : List Value) (st : List Value) (M : pm_M) : fr S (d) (23, 94, L, st) M = fr S d (23, 95, L, .int (-1) :: st) M := (fr_eq S (d) (23, 94, L, st) M).trans (x_ocs _ _ (.int (-1)) 23 95 L st M)
theorem f23_95 (S : pm_S) (d : Nat) (L : List Value) (v : Value) (M : pm_M) : fr S (d) (23, 95, L, [v]) M = if pm_fit 0 v = true then some (.inl (some v), M) else none := (fr_eq S (d) (23, 95, L, [v]) M).trans (x_ort _ _ 0 v M)
theorem f23_96 (S : pm_S) (d : Nat) (L : List Value) (st : List Value) (M : pm_M) : fr S (d) (23, 96, L, st) M = if pm_ty (L.getD 0 pm_U) = 2 then fr S d (23, 97, L, L.getD 0 pm_U :: st) M else none := (fr_eq S (d) (23, 96, L, st) M).trans (x_old _ _ 2 0 23 97 L st M)
theorem f23_97 (S : pm_S) (d : Nat) (L : List Value) (st : List Value) (M : pm_M) : fr S (d) (23, 97, L, st) M = if pm_ty (L.getD 1 pm_U) = 0 then fr S d (23, 98, L, L.getD 1 pm_U :: st) M else none := (fr_eq S (d) (23, 97, L, st) M).trans (x_old _ _ 0 1 23 98 L st M)
theorem f23_98 (S : pm_S) (d : Nat) (L : List Value) (st : List Value) (M : pm_M) : fr S (d) (23, 98, L, st) M = fr S d (23, 100, L, .int 10 :: st) M := (fr_eq S (d) (23, 98, L, st) M).trans (x_ocs _ _ (.int 10) 23 100 L st M)
theorem f23_100 (S : pm_S) (d : Nat) (L : List Value) (x y : Int32) (r : List Value) (M : pm_M) : fr S (d) (23, 100, L, .int y :: .int x :: r) M = fr S d (23, 101, L, .int (x - y) :: r) M := (fr_eq S (d) (23, 100, L, .int y :: .int x :: r) M).trans (x_oii _ _ (fun x y => x - y) 23 101 L r x y M)
theorem f23_101 (S : pm_S) (d : Nat) (L : List Value) (st : List Value) (M : pm_M) : fr S (d) (23, 101, L, st) M = if pm_ty (L.getD 1 pm_U) = 0 then fr S d (23, 102, L, L.getD 1 pm_U :: st) M else none := (fr_eq S (d) (23, 101, L, st) M).trans (x_old _ _ 0 1 23 102 L st M)
theorem f23_102 (S : pm_S) (d : Nat) (L : List Value) (st : List Value) (M : pm_M) : fr S (d) (23, 102, L, st) M = fr S d (23, 104, L, .int 10 :: st) M := (fr_eq S (d) (23, 102, L, st) M).trans (x_ocs _ _ (.int 10) 23 104 L st M)
theorem f23_104 (S : pm_S) (d : Nat) (L : List Value) (x y : Int32) (r : List Value) (M : pm_M) : fr S (d) (23, 104, L, .int y :: .int x :: r) M = fr S d (23, 105, L, .int (x - y) :: r) M := (fr_eq S (d) (23, 104, L, .int y :: .int x :: r) M).trans (x_oii _ _ (fun x y => x - y) 23 105 L r x y M)
theorem f23_105 (S : pm_S) (d : Nat) (L : List Value) (st : List Value) (M : pm_M) : fr S (d + 1) (23, 105, L, st) M = match pm_ag 3 [] st with
  | some (a, r) => if r.length ≤ 4 ∧ (1 = 0 ∨ pm_obj M 0 (a.headD pm_U) = true) then (match fr S d (37, 0, a ++ [pm_U, pm_U, pm_U], []) M with
    | none => none
    | some (.inl v, M') => fr S (d + 1) (23, 108, L, v.toList ++ r) M'
    | some (.inr E, M') => some (.inr E, M')) else none
  | none => none := (fr_eq S (d + 1) (23, 105, L, st) M).trans (x_ocl _ _ 1 37 3 0 [pm_U, pm_U, pm_U] 23 108 L st M)
theorem f23_108 (S : pm_S) (d : Nat) (L : List Value) (v : Value) (M : pm_M) : fr S (d) (23, 108, L, [v]) M = if pm_fit 0 v = true then some (.inl (some v), M) else none := (fr_eq S (d) (23, 108, L, [v]) M).trans (x_ort _ _ 0 v M)
theorem f24_0 (S : pm_S) (d : Nat) (L : List Value) (st : List Value) (M : pm_M) : fr S (d) (24, 0, L, st) M = fr S d (24, 1, L, .int 1 :: st) M := (fr_eq S (d) (24, 0, L, st) M).trans (x_ocs _ _ (.int 1) 24 1 L st M)
theorem f24_1 (S : pm_S) (d : Nat) (L : List Value) (st : List Value) (M : pm_M) : fr S (d) (24, 1, L, st) M = if pm_ty (L.getD 1 pm_U) = 0 then fr S d (24, 2, L, L.getD 1 pm_U :: st) M else none := (fr_eq S (d) (24, 1, L, st) M).trans (x_old _ _ 0 1 24 2 L st M)
theorem f24_2 (S : pm_S) (d : Nat) (L : List Value) (st : List Value) (M : pm_M) : fr S (d) (24, 2, L, st) M = if pm_ty (L.getD 0 pm_U) = 0 then fr S d (24, 3, L, L.getD 0 pm_U :: st) M else none := (fr_eq S (d) (24, 2, L, st) M).trans (x_old _ _ 0 0 24 3 L st M)
theorem f24_3 (S : pm_S) (d : Nat) (L : List Value) (x y : Int32) (r : List Value) (M : pm_M) : fr S (d) (24, 3, L, .int y :: .int x :: r) M = if (Value.int y :: Value.int x :: r).length ≤ 8 then fr S d (24, 6, L, .int (if y < x then y else x) :: r) M else none := (fr_eq S (d) (24, 3, L, .int y :: .int x :: r) M).trans (x_omx _ _ (fun x y => if y < x then y else x) 24 6 L r x y M)
theorem f24_6 (S : pm_S) (d : Nat) (L : List Value) (x y : Int32) (r : List Value) (M : pm_M) : fr S (d) (24, 6, L, .int y :: .int x :: r) M = if (Value.int y :: Value.int x :: r).length ≤ 8 then fr S d (24, 9, L, .int (if x < y then y else x) :: r) M else none := (fr_eq S (d) (24, 6, L, .int y :: .int x :: r) M).trans (x_omx _ _ (fun x y => if x < y then y else x) 24 9 L r x y M)
theorem f24_9 (S : pm_S) (d : Nat) (L : List Value) (v : Value) (M : pm_M) : fr S (d) (24, 9, L, [v]) M = if pm_fit 0 v = true then some (.inl (some v), M) else none := (fr_eq S (d) (24, 9, L, [v]) M).trans (x_ort _ _ 0 v M)
theorem f25_0 (S : pm_S) (d : Nat) (L : List Value) (st : List Value) (M : pm_M) : fr S (d) (25, 0, L, st) M = if pm_ty (L.getD 0 pm_U) = 0 then fr S d (25, 1, L, L.getD 0 pm_U :: st) M else none := (fr_eq S (d) (25, 0, L, st) M).trans (x_old _ _ 0 0 25 1 L st M)
theorem f25_1 (S : pm_S) (d : Nat) (L : List Value) (st : List Value) (M : pm_M) : fr S (d) (25, 1, L, st) M = fr S d (25, 3, L, .int 20 :: st) M := (fr_eq S (d) (25, 1, L, st) M).trans (x_ocs _ _ (.int 20) 25 3 L st M)
theorem f25_3 (S : pm_S) (d : Nat) (L : List Value) (x y : Int32) (r : List Value) (M : pm_M) : fr S (d) (25, 3, L, .int y :: .int x :: r) M = if x = y then fr S d (25, 12, L, r) M else fr S d (25, 6, L, r) M := (fr_eq S (d) (25, 3, L, .int y :: .int x :: r) M).trans (x_oc2eq _ _ 25 6 12 L r x y M)
theorem f25_6 (S : pm_S) (d : Nat) (L : List Value) (st : List Value) (M : pm_M) : fr S (d) (25, 6, L, st) M = if pm_ty (L.getD 0 pm_U) = 0 then fr S d (25, 7, L, L.getD 0 pm_U :: st) M else none := (fr_eq S (d) (25, 6, L, st) M).trans (x_old _ _ 0 0 25 7 L st M)
theorem f25_7 (S : pm_S) (d : Nat) (L : List Value) (st : List Value) (M : pm_M) : fr S (d) (25, 7, L, st) M = fr S d (25, 9, L, .int 40 :: st) M := (fr_eq S (d) (25, 7, L, st) M).trans (x_ocs _ _ (.int 40) 25 9 L st M)
theorem f25_9 (S : pm_S) (d : Nat) (L : List Value) (x y : Int32) (r : List Value) (M : pm_M) : fr S (d) (25, 9, L, .int y :: .int x :: r) M = if ¬ x = y then fr S d (25, 47, L, r) M else fr S d (25, 12, L, r) M := (fr_eq S (d) (25, 9, L, .int y :: .int x :: r) M).trans (x_oc2ne _ _ 25 12 47 L r x y M)
theorem f25_12 (S : pm_S) (d : Nat) (L : List Value) (st : List Value) (M : pm_M) : fr S (d) (25, 12, L, st) M = if pm_ty (L.getD 1 pm_U) = 0 then fr S d (25, 13, L, L.getD 1 pm_U :: st) M else none := (fr_eq S (d) (25, 12, L, st) M).trans (x_old _ _ 0 1 25 13 L st M)
theorem f25_13 (S : pm_S) (d : Nat) (L : List Value) (st : List Value) (M : pm_M) : fr S (d) (25, 13, L, st) M = fr S d (25, 14, L, .int 1 :: st) M := (fr_eq S (d) (25, 13, L, st) M).trans (x_ocs _ _ (.int 1) 25 14 L st M)
theorem f25_14 (S : pm_S) (d : Nat) (L : List Value) (x y : Int32) (r : List Value) (M : pm_M) : fr S (d) (25, 14, L, .int y :: .int x :: r) M = if x < y then fr S d (25, 47, L, r) M else fr S d (25, 17, L, r) M := (fr_eq S (d) (25, 14, L, .int y :: .int x :: r) M).trans (x_oc2lt _ _ 25 17 47 L r x y M)
theorem f25_17 (S : pm_S) (d : Nat) (L : List Value) (st : List Value) (M : pm_M) : fr S (d) (25, 17, L, st) M = if pm_ty (L.getD 1 pm_U) = 0 then fr S d (25, 18, L, L.getD 1 pm_U :: st) M else none := (fr_eq S (d) (25, 17, L, st) M).trans (x_old _ _ 0 1 25 18 L st M)
theorem f25_18 (S : pm_S) (d : Nat) (L : List Value) (st : List Value) (M : pm_M) : fr S (d) (25, 18, L, st) M = fr S d (25, 20, L, .int 40 :: st) M := (fr_eq S (d) (25, 18, L, st) M).trans (x_ocs _ _ (.int 40) 25 20 L st M)
theorem f25_20 (S : pm_S) (d : Nat) (L : List Value) (x y : Int32) (r : List Value) (M : pm_M) : fr S (d) (25, 20, L, .int y :: .int x :: r) M = if y < x then fr S d (25, 47, L, r) M else fr S d (25, 23, L, r) M := (fr_eq S (d) (25, 20, L, .int y :: .int x :: r) M).trans (x_oc2gt _ _ 25 23 47 L r x y M)
theorem f25_23 (S : pm_S) (d : Nat) (L : List Value) (st : List Value) (M : pm_M) : fr S (d) (25, 23, L, st) M = if pm_ty (L.getD 2 pm_U) = 0 then fr S d (25, 24, L, L.getD 2 pm_U :: st) M else none := (fr_eq S (d) (25, 23, L, st) M).trans (x_old _ _ 0 2 25 24 L st M)
theorem f25_24 (S : pm_S) (d : Nat) (L : List Value) (st : List Value) (M : pm_M) : fr S (d) (25, 24, L, st) M = fr S d (25, 25, L, .int 1 :: st) M := (fr_eq S (d) (25, 24, L, st) M).trans (x_ocs _ _ (.int 1) 25 25 L st M)
theorem f25_25 (S : pm_S) (d : Nat) (L : List Value) (x y : Int32) (r : List Value) (M : pm_M) : fr S (d) (25, 25, L, .int y :: .int x :: r) M = if x < y then fr S d (25, 47, L, r) M else fr S d (25, 28, L, r) M := (fr_eq S (d) (25, 25, L, .int y :: .int x :: r) M).trans (x_oc2lt _ _ 25 28 47 L r x y M)
theorem f25_28 (S : pm_S) (d : Nat) (L : List Value) (st : List Value) (M : pm_M) : fr S (d) (25, 28, L, st) M = if pm_ty (L.getD 2 pm_U) = 0 then fr S d (25, 29, L, L.getD 2 pm_U :: st) M else none := (fr_eq S (d) (25, 28, L, st) M).trans (x_old _ _ 0 2 25 29 L st M)
theorem f25_29 (S : pm_S) (d : Nat) (L : List Value) (st : List Value) (M : pm_M) : fr S (d) (25, 29, L, st) M = fr S d (25, 31, L, .int 6 :: st) M := (fr_eq S (d) (25, 29, L, st) M).trans (x_ocs _ _ (.int 6) 25 31 L st M)
theorem f25_31 (S : pm_S) (d : Nat) (L : List Value) (x y : Int32) (r : List Value) (M : pm_M) : fr S (d) (25, 31, L, .int y :: .int x :: r) M = if y < x then fr S d (25, 47, L, r) M else fr S d (25, 34, L, r) M := (fr_eq S (d) (25, 31, L, .int y :: .int x :: r) M).trans (x_oc2gt _ _ 25 34 47 L r x y M)
theorem f25_34 (S : pm_S) (d : Nat) (L : List Value) (st : List Value) (M : pm_M) : fr S (d) (25, 34, L, st) M = if pm_ty (L.getD 3 pm_U) = 0 then fr S d (25, 35, L, L.getD 3 pm_U :: st) M else none := (fr_eq S (d) (25, 34, L, st) M).trans (x_old _ _ 0 3 25 35 L st M)
theorem f25_35 (S : pm_S) (d : Nat) (L : List Value) (x : Int32) (r : List Value) (M : pm_M) : fr S (d) (25, 35, L, .int x :: r) M = if x < 0 then fr S d (25, 47, L, r) M else fr S d (25, 38, L, r) M := (fr_eq S (d) (25, 35, L, .int x :: r) M).trans (x_oc1lt _ _ 25 38 47 L r x M)
theorem f25_38 (S : pm_S) (d : Nat) (L : List Value) (st : List Value) (M : pm_M) : fr S (d) (25, 38, L, st) M = if pm_ty (L.getD 3 pm_U) = 0 then fr S d (25, 39, L, L.getD 3 pm_U :: st) M else none := (fr_eq S (d) (25, 38, L, st) M).trans (x_old _ _ 0 3 25 39 L st M)
theorem f25_39 (S : pm_S) (d : Nat) (L : List Value) (st : List Value) (M : pm_M) : fr S (d) (25, 39, L, st) M = fr S d (25, 40, L, .int 2 :: st) M := (fr_eq S (d) (25, 39, L, st) M).trans (x_ocs _ _ (.int 2) 25 40 L st M)
theorem f25_40 (S : pm_S) (d : Nat) (L : List Value) (x y : Int32) (r : List Value) (M : pm_M) : fr S (d) (25, 40, L, .int y :: .int x :: r) M = if y < x then fr S d (25, 47, L, r) M else fr S d (25, 43, L, r) M := (fr_eq S (d) (25, 40, L, .int y :: .int x :: r) M).trans (x_oc2gt _ _ 25 43 47 L r x y M)
theorem f25_43 (S : pm_S) (d : Nat) (L : List Value) (st : List Value) (M : pm_M) : fr S (d) (25, 43, L, st) M = fr S d (25, 44, L, .int 1 :: st) M := (fr_eq S (d) (25, 43, L, st) M).trans (x_ocs _ _ (.int 1) 25 44 L st M)
theorem f25_44 (S : pm_S) (d : Nat) (L : List Value) (st : List Value) (M : pm_M) : fr S (d) (25, 44, L, st) M = fr S d (25, 48, L, st) M := (fr_eq S (d) (25, 44, L, st) M).trans (x_ogo _ _ 25 48 L st M)
theorem f25_47 (S : pm_S) (d : Nat) (L : List Value) (st : List Value) (M : pm_M) : fr S (d) (25, 47, L, st) M = fr S d (25, 48, L, .int 0 :: st) M := (fr_eq S (d) (25, 47, L, st) M).trans (x_ocs _ _ (.int 0) 25 48 L st M)
theorem f25_48 (S : pm_S) (d : Nat) (L : List Value) (v : Value) (M : pm_M) : fr S (d) (25, 48, L, [v]) M = if pm_fit 3 v = true then some (.inl (some v), M) else none := (fr_eq S (d) (25, 48, L, [v]) M).trans (x_ort _ _ 3 v M)
theorem f26_0 (S : pm_S) (d : Nat) (L : List Value) (st : List Value) (M : pm_M) : fr S (d) (26, 0, L, st) M = if pm_ty (L.getD 1 pm_U) = 0 then fr S d (26, 1, L, L.getD 1 pm_U :: st) M else none := (fr_eq S (d) (26, 0, L, st) M).trans (x_old _ _ 0 1 26 1 L st M)
theorem f26_1 (S : pm_S) (d : Nat) (L : List Value) (x : Int32) (r : List Value) (M : pm_M) : fr S (d) (26, 1, L, .int x :: r) M = if x < 0 then fr S d (26, 16, L, r) M else fr S d (26, 4, L, r) M := (fr_eq S (d) (26, 1, L, .int x :: r) M).trans (x_oc1lt _ _ 26 4 16 L r x M)
theorem f26_4 (S : pm_S) (d : Nat) (L : List Value) (st : List Value) (M : pm_M) : fr S (d) (26, 4, L, st) M = if pm_ty (L.getD 1 pm_U) = 0 then fr S d (26, 5, L, L.getD 1 pm_U :: st) M else none := (fr_eq S (d) (26, 4, L, st) M).trans (x_old _ _ 0 1 26 5 L st M)
theorem f26_5 (S : pm_S) (d : Nat) (L : List Value) (st : List Value) (M : pm_M) : fr S (d) (26, 5, L, st) M = if pm_ty (L.getD 0 pm_U) = 2 then fr S d (26, 6, L, L.getD 0 pm_U :: st) M else none := (fr_eq S (d) (26, 5, L, st) M).trans (x_old _ _ 2 0 26 6 L st M)
theorem f26_6 (S : pm_S) (d : Nat) (L : List Value) (q : Nat) (r : List Value) (M : pm_M) : fr S (d) (26, 6, L, .ref q :: r) M = match pm_get M q with
  | some (.inr (c, fs)) => if c = 0 ∧ 0 < fs.length then fr S d (26, 9, L, fs.getD 0 pm_U :: r) M else none
  | _ => none := (fr_eq S (d) (26, 6, L, .ref q :: r) M).trans (x_ogf _ _ 0 0 26 9 L r q M)
theorem f26_9 (S : pm_S) (d : Nat) (L : List Value) (x y : Int32) (r : List Value) (M : pm_M) : fr S (d) (26, 9, L, .int y :: .int x :: r) M = if y ≤ x then fr S d (26, 16, L, r) M else fr S d (26, 12, L, r) M := (fr_eq S (d) (26, 9, L, .int y :: .int x :: r) M).trans (x_oc2ge _ _ 26 12 16 L r x y M)
theorem f26_12 (S : pm_S) (d : Nat) (L : List Value) (st : List Value) (M : pm_M) : fr S (d) (26, 12, L, st) M = fr S d (26, 13, L, .int 1 :: st) M := (fr_eq S (d) (26, 12, L, st) M).trans (x_ocs _ _ (.int 1) 26 13 L st M)
theorem f26_13 (S : pm_S) (d : Nat) (L : List Value) (st : List Value) (M : pm_M) : fr S (d) (26, 13, L, st) M = fr S d (26, 17, L, st) M := (fr_eq S (d) (26, 13, L, st) M).trans (x_ogo _ _ 26 17 L st M)
theorem f26_16 (S : pm_S) (d : Nat) (L : List Value) (st : List Value) (M : pm_M) : fr S (d) (26, 16, L, st) M = fr S d (26, 17, L, .int 0 :: st) M := (fr_eq S (d) (26, 16, L, st) M).trans (x_ocs _ _ (.int 0) 26 17 L st M)
theorem f26_17 (S : pm_S) (d : Nat) (L : List Value) (v : Value) (M : pm_M) : fr S (d) (26, 17, L, [v]) M = if pm_fit 3 v = true then some (.inl (some v), M) else none := (fr_eq S (d) (26, 17, L, [v]) M).trans (x_ort _ _ 3 v M)
theorem f27_0 (S : pm_S) (d : Nat) (L : List Value) (st : List Value) (M : pm_M) : fr S (d) (27, 0, L, st) M = if pm_ty (L.getD 0 pm_U) = 2 then fr S d (27, 1, L, L.getD 0 pm_U :: st) M else none := (fr_eq S (d) (27, 0, L, st) M).trans (x_old _ _ 2 0 27 1 L st M)
theorem f27_1 (S : pm_S) (d : Nat) (L : List Value) (st : List Value) (M : pm_M) : fr S (d) (27, 1, L, st) M = if pm_ty (L.getD 1 pm_U) = 0 then fr S d (27, 2, L, L.getD 1 pm_U :: st) M else none := (fr_eq S (d) (27, 1, L, st) M).trans (x_old _ _ 0 1 27 2 L st M)
theorem f27_2 (S : pm_S) (d : Nat) (L : List Value) (st : List Value) (M : pm_M) : fr S (d) (27, 2, L, st) M = if pm_ty (L.getD 2 pm_U) = 0 then fr S d (27, 3, L, L.getD 2 pm_U :: st) M else none := (fr_eq S (d) (27, 2, L, st) M).trans (x_old _ _ 0 2 27 3 L st M)
theorem f27_3 (S : pm_S) (d : Nat) (L : List Value) (st : List Value) (M : pm_M) : fr S (d) (27, 3, L, st) M = if pm_ty (L.getD 3 pm_U) = 0 then fr S d (27, 4, L, L.getD 3 pm_U :: st) M else none := (fr_eq S (d) (27, 3, L, st) M).trans (x_old _ _ 0 3 27 4 L st M)
theorem f27_4 (S : pm_S) (d : Nat) (L : List Value) (st : List Value) (M : pm_M) : fr S (d + 1) (27, 4, L, st) M = match pm_ag 4 [] st with
  | some (a, r) => if r.length ≤ 4 ∧ (1 = 0 ∨ pm_obj M 0 (a.headD pm_U) = true) then (match fr S d (29, 0, a ++ [], []) M with
    | none => none
    | some (.inl v, M') => fr S (d + 1) (27, 7, L, v.toList ++ r) M'
    | some (.inr E, M') => some (.inr E, M')) else none
  | none => none := (fr_eq S (d + 1) (27, 4, L, st) M).trans (x_ocl _ _ 1 29 4 0 [] 27 7 L st M)
theorem f27_7 (S : pm_S) (d : Nat) (L : List Value) (st : List Value) (M : pm_M) : fr S (d) (27, 7, L, st) M = fr S d (27, 8, L, .int (-1) :: st) M := (fr_eq S (d) (27, 7, L, st) M).trans (x_ocs _ _ (.int (-1)) 27 8 L st M)
theorem f27_8 (S : pm_S) (d : Nat) (L : List Value) (x y : Int32) (r : List Value) (M : pm_M) : fr S (d) (27, 8, L, .int y :: .int x :: r) M = if x = y then fr S d (27, 15, L, r) M else fr S d (27, 11, L, r) M := (fr_eq S (d) (27, 8, L, .int y :: .int x :: r) M).trans (x_oc2eq _ _ 27 11 15 L r x y M)
theorem f27_11 (S : pm_S) (d : Nat) (L : List Value) (st : List Value) (M : pm_M) : fr S (d) (27, 11, L, st) M = fr S d (27, 12, L, .int 1 :: st) M := (fr_eq S (d) (27, 11, L, st) M).trans (x_ocs _ _ (.int 1) 27 12 L st M)
theorem f27_12 (S : pm_S) (d : Nat) (L : List Value) (st : List Value) (M : pm_M) : fr S (d) (27, 12, L, st) M = fr S d (27, 16, L, st) M := (fr_eq S (d) (27, 12, L, st) M).trans (x_ogo _ _ 27 16 L st M)
theorem f27_15 (S : pm_S) (d : Nat) (L : List Value) (st : List Value) (M : pm_M) : fr S (d) (27, 15, L, st) M = fr S d (27, 16, L, .int 0 :: st) M := (fr_eq S (d) (27, 15, L, st) M).trans (x_ocs _ _ (.int 0) 27 16 L st M)
theorem f27_16 (S : pm_S) (d : Nat) (L : List Value) (v : Value) (M : pm_M) : fr S (d) (27, 16, L, [v]) M = if pm_fit 3 v = true then some (.inl (some v), M) else none := (fr_eq S (d) (27, 16, L, [v]) M).trans (x_ort _ _ 3 v M)
theorem f28_0 (S : pm_S) (d : Nat) (L : List Value) (st : List Value) (M : pm_M) : fr S (d) (28, 0, L, st) M = if pm_ty (L.getD 1 pm_U) = 0 then fr S d (28, 1, L, L.getD 1 pm_U :: st) M else none := (fr_eq S (d) (28, 0, L, st) M).trans (x_old _ _ 0 1 28 1 L st M)
theorem f28_1 (S : pm_S) (d : Nat) (L : List Value) (st : List Value) (M : pm_M) : fr S (d) (28, 1, L, st) M = fr S d (28, 2, L, .int 2 :: st) M := (fr_eq S (d) (28, 1, L, st) M).trans (x_ocs _ _ (.int 2) 28 2 L st M)
theorem f28_2 (S : pm_S) (d : Nat) (L : List Value) (x y : Int32) (r : List Value) (M : pm_M) : fr S (d) (28, 2, L, .int y :: .int x :: r) M = if y = 0 then none else fr S d (28, 3, L, .int (x - x / y * y) :: r) M := (fr_eq S (d) (28, 2, L, .int y :: .int x :: r) M).trans (x_oir _ _ 28 3 L r x y M false)
theorem f28_3 (S : pm_S) (d : Nat) (L : List Value) (x : Int32) (r : List Value) (M : pm_M) : fr S (d) (28, 3, L, .int x :: r) M = if ¬ x = 0 then fr S d (28, 20, L, r) M else fr S d (28, 6, L, r) M := (fr_eq S (d) (28, 3, L, .int x :: r) M).trans (x_oc1ne _ _ 28 6 20 L r x M)
theorem f28_6 (S : pm_S) (d : Nat) (L : List Value) (st : List Value) (M : pm_M) : fr S (d) (28, 6, L, st) M = if pm_ty (L.getD 0 pm_U) = 2 then fr S d (28, 7, L, L.getD 0 pm_U :: st) M else none := (fr_eq S (d) (28, 6, L, st) M).trans (x_old _ _ 2 0 28 7 L st M)
theorem f28_7 (S : pm_S) (d : Nat) (L : List Value) (st : List Value) (M : pm_M) : fr S (d) (28, 7, L, st) M = if pm_ty (L.getD 1 pm_U) = 0 then fr S d (28, 8, L, L.getD 1 pm_U :: st) M else none := (fr_eq S (d) (28, 7, L, st) M).trans (x_old _ _ 0 1 28 8 L st M)
theorem f28_8 (S : pm_S) (d : Nat) (L : List Value) (st : List Value) (M : pm_M) : fr S (d) (28, 8, L, st) M = fr S d (28, 9, L, .int 1 :: st) M := (fr_eq S (d) (28, 8, L, st) M).trans (x_ocs _ _ (.int 1) 28 9 L st M)
theorem f28_9 (S : pm_S) (d : Nat) (L : List Value) (x y : Int32) (r : List Value) (M : pm_M) : fr S (d) (28, 9, L, .int y :: .int x :: r) M = fr S d (28, 10, L, .int (x + y) :: r) M := (fr_eq S (d) (28, 9, L, .int y :: .int x :: r) M).trans (x_oii _ _ (fun x y => x + y) 28 10 L r x y M)
theorem f28_10 (S : pm_S) (d : Nat) (L : List Value) (st : List Value) (M : pm_M) : fr S (d + 1) (28, 10, L, st) M = match pm_ag 2 [] st with
  | some (a, r) => if r.length ≤ 4 ∧ (1 = 0 ∨ pm_obj M 0 (a.headD pm_U) = true) then (match fr S d (26, 0, a ++ [], []) M with
    | none => none
    | some (.inl v, M') => fr S (d + 1) (28, 13, L, v.toList ++ r) M'
    | some (.inr E, M') => some (.inr E, M')) else none
  | none => none := (fr_eq S (d + 1) (28, 10, L, st) M).trans (x_ocl _ _ 1 26 2 0 [] 28 13 L st M)
theorem f28_13 (S : pm_S) (d : Nat) (L : List Value) (x : Int32) (r : List Value) (M : pm_M) : fr S (d) (28, 13, L, .int x :: r) M = if x = 0 then fr S d (28, 20, L, r) M else fr S d (28, 16, L, r) M := (fr_eq S (d) (28, 13, L, .int x :: r) M).trans (x_oc1eq _ _ 28 16 20 L r x M)
theorem f28_16 (S : pm_S) (d : Nat) (L : List Value) (st : List Value) (M : pm_M) : fr S (d) (28, 16, L, st) M = fr S d (28, 17, L, .int 1 :: st) M := (fr_eq S (d) (28, 16, L, st) M).trans (x_ocs _ _ (.int 1) 28 17 L st M)
theorem f28_17 (S : pm_S) (d : Nat) (L : List Value) (st : List Value) (M : pm_M) : fr S (d) (28, 17, L, st) M = fr S d (28, 21, L, st) M := (fr_eq S (d) (28, 17, L, st) M).trans (x_ogo _ _ 28 21 L st M)
theorem f28_20 (S : pm_S) (d : Nat) (L : List Value) (st : List Value) (M : pm_M) : fr S (d) (28, 20, L, st) M = fr S d (28, 21, L, .int 0 :: st) M := (fr_eq S (d) (28, 20, L, st) M).trans (x_ocs _ _ (.int 0) 28 21 L st M)
theorem f28_21 (S : pm_S) (d : Nat) (L : List Value) (v : Value) (M : pm_M) : fr S (d) (28, 21, L, [v]) M = if pm_fit 3 v = true then some (.inl (some v), M) else none := (fr_eq S (d) (28, 21, L, [v]) M).trans (x_ort _ _ 3 v M)
theorem f29_0 (S : pm_S) (d : Nat) (L : List Value) (st : List Value) (M : pm_M) : fr S (d) (29, 0, L, st) M = if pm_ty (L.getD 1 pm_U) = 0 then fr S d (29, 1, L, L.getD 1 pm_U :: st) M else none := (fr_eq S (d) (29, 0, L, st) M).trans (x_old _ _ 0 1 29 1 L st M)
theorem f29_1 (S : pm_S) (d : Nat) (L : List Value) (x : Int32) (r : List Value) (M : pm_M) : fr S (d) (29, 1, L, .int x :: r) M = if x < 0 then fr S d (29, 36, L, r) M else fr S d (29, 4, L, r) M := (fr_eq S (d) (29, 1, L, .int x :: r) M).trans (x_oc1lt _ _ 29 4 36 L r x M)
theorem f29_4 (S : pm_S) (d : Nat) (L : List Value) (st : List Value) (M : pm_M) : fr S (d) (29, 4, L, st) M = if pm_ty (L.getD 1 pm_U) = 0 then fr S d (29, 5, L, L.getD 1 pm_U :: st) M else none := (fr_eq S (d) (29, 4, L, st) M).trans (x_old _ _ 0 1 29 5 L st M)
theorem f29_5 (S : pm_S) (d : Nat) (L : List Value) (st : List Value) (M : pm_M) : fr S (d) (29, 5, L, st) M = if pm_ty (L.getD 0 pm_U) = 2 then fr S d (29, 6, L, L.getD 0 pm_U :: st) M else none := (fr_eq S (d) (29, 5, L, st) M).trans (x_old _ _ 2 0 29 6 L st M)
theorem f29_6 (S : pm_S) (d : Nat) (L : List Value) (q : Nat) (r : List Value) (M : pm_M) : fr S (d) (29, 6, L, .ref q :: r) M = match pm_get M q with
  | some (.inr (c, fs)) => if c = 0 ∧ 0 < fs.length then fr S d (29, 9, L, fs.getD 0 pm_U :: r) M else none
  | _ => none := (fr_eq S (d) (29, 6, L, .ref q :: r) M).trans (x_ogf _ _ 0 0 29 9 L r q M)
theorem f29_9 (S : pm_S) (d : Nat) (L : List Value) (x y : Int32) (r : List Value) (M : pm_M) : fr S (d) (29, 9, L, .int y :: .int x :: r) M = if y ≤ x then fr S d (29, 36, L, r) M else fr S d (29, 12, L, r) M := (fr_eq S (d) (29, 9, L, .int y :: .int x :: r) M).trans (x_oc2ge _ _ 29 12 36 L r x y M)
theorem f29_12 (S : pm_S) (d : Nat) (L : List Value) (st : List Value) (M : pm_M) : fr S (d) (29, 12, L, st) M = if pm_ty (L.getD 2 pm_U) = 0 then fr S d (29, 13, L, L.getD 2 pm_U :: st) M else none := (fr_eq S (d) (29, 12, L, st) M).trans (x_old _ _ 0 2 29 13 L st M)
theorem f29_13 (S : pm_S) (d : Nat) (L : List Value) (x : Int32) (r : List Value) (M : pm_M) : fr S (d) (29, 13, L, .int x :: r) M = if x < 0 then fr S d (29, 36, L, r) M else fr S d (29, 16, L, r) M := (fr_eq S (d) (29, 13, L, .int x :: r) M).trans (x_oc1lt _ _ 29 16 36 L r x M)
theorem f29_16 (S : pm_S) (d : Nat) (L : List Value) (st : List Value) (M : pm_M) : fr S (d) (29, 16, L, st) M = if pm_ty (L.getD 2 pm_U) = 0 then fr S d (29, 17, L, L.getD 2 pm_U :: st) M else none := (fr_eq S (d) (29, 16, L, st) M).trans (x_old _ _ 0 2 29 17 L st M)
theorem f29_17 (S : pm_S) (d : Nat) (L : List Value) (st : List Value) (M : pm_M) : fr S (d) (29, 17, L, st) M = if pm_ty (L.getD 0 pm_U) = 2 then fr S d (29, 18, L, L.getD 0 pm_U :: st) M else none := (fr_eq S (d) (29, 17, L, st) M).trans (x_old _ _ 2 0 29 18 L st M)
theorem f29_18 (S : pm_S) (d : Nat) (L : List Value) (q : Nat) (r : List Value) (M : pm_M) : fr S (d) (29, 18, L, .ref q :: r) M = match pm_get M q with
  | some (.inr (c, fs)) => if c = 0 ∧ 1 < fs.length then fr S d (29, 21, L, fs.getD 1 pm_U :: r) M else none
  | _ => none := (fr_eq S (d) (29, 18, L, .ref q :: r) M).trans (x_ogf _ _ 0 1 29 21 L r q M)
theorem f29_21 (S : pm_S) (d : Nat) (L : List Value) (x y : Int32) (r : List Value) (M : pm_M) : fr S (d) (29, 21, L, .int y :: .int x :: r) M = if y ≤ x then fr S d (29, 36, L, r) M else fr S d (29, 24, L, r) M := (fr_eq S (d) (29, 21, L, .int y :: .int x :: r) M).trans (x_oc2ge _ _ 29 24 36 L r x y M)
theorem f29_24 (S : pm_S) (d : Nat) (L : List Value) (st : List Value) (M : pm_M) : fr S (d) (29, 24, L, st) M = if pm_ty (L.getD 3 pm_U) = 0 then fr S d (29, 25, L, L.getD 3 pm_U :: st) M else none := (fr_eq S (d) (29, 24, L, st) M).trans (x_old _ _ 0 3 29 25 L st M)
theorem f29_25 (S : pm_S) (d : Nat) (L : List Value) (x : Int32) (r : List Value) (M : pm_M) : fr S (d) (29, 25, L, .int x :: r) M = if x < 0 then fr S d (29, 36, L, r) M else fr S d (29, 28, L, r) M := (fr_eq S (d) (29, 25, L, .int x :: r) M).trans (x_oc1lt _ _ 29 28 36 L r x M)
theorem f29_28 (S : pm_S) (d : Nat) (L : List Value) (st : List Value) (M : pm_M) : fr S (d) (29, 28, L, st) M = if pm_ty (L.getD 3 pm_U) = 0 then fr S d (29, 29, L, L.getD 3 pm_U :: st) M else none := (fr_eq S (d) (29, 28, L, st) M).trans (x_old _ _ 0 3 29 29 L st M)
theorem f29_29 (S : pm_S) (d : Nat) (L : List Value) (st : List Value) (M : pm_M) : fr S (d) (29, 29, L, st) M = if pm_ty (L.getD 0 pm_U) = 2 then fr S d (29, 30, L, L.getD 0 pm_U :: st) M else none := (fr_eq S (d) (29, 29, L, st) M).trans (x_old _ _ 2 0 29 30 L st M)
theorem f29_30 (S : pm_S) (d : Nat) (L : List Value) (q : Nat) (r : List Value) (M : pm_M) : fr S (d) (29, 30, L, .ref q :: r) M = match pm_get M q with
  | some (.inr (c, fs)) => if c = 0 ∧ 2 < fs.length then fr S d (29, 33, L, fs.getD 2 pm_U :: r) M else none
  | _ => none := (fr_eq S (d) (29, 30, L, .ref q :: r) M).trans (x_ogf _ _ 0 2 29 33 L r q M)
theorem f29_33 (S : pm_S) (d : Nat) (L : List Value) (x y : Int32) (r : List Value) (M : pm_M) : fr S (d) (29, 33, L, .int y :: .int x :: r) M = if x < y then fr S d (29, 38, L, r) M else fr S d (29, 36, L, r) M := (fr_eq S (d) (29, 33, L, .int y :: .int x :: r) M).trans (x_oc2lt _ _ 29 36 38 L r x y M)
