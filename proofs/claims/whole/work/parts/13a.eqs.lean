theorem f100_0 (S : pm_S) (d : Nat) (L : List Value) (st : List Value) (M : pm_M) : fr S (d) (100, 0, L, st) M = if pm_ty (L.getD 0 pm_U) = 2 then fr S d (100, 1, L, L.getD 0 pm_U :: st) M else none := (fr_eq S (d) (100, 0, L, st) M).trans (x_old _ _ 2 0 100 1 L st M)
theorem f100_1 (S : pm_S) (d : Nat) (L : List Value) (q : Nat) (r : List Value) (M : pm_M) : fr S (d) (100, 1, L, .ref q :: r) M = if r.length ≤ 4 then fr S d (100, 4, L, r) M else none := (fr_eq S (d) (100, 1, L, .ref q :: r) M).trans (x_ooi _ _ 100 4 L r q M)
theorem f100_4 (S : pm_S) (d : Nat) (L : List Value) (st : List Value) (M : pm_M) : fr S (d) (100, 4, L, st) M = if pm_ty (L.getD 0 pm_U) = 2 then fr S d (100, 5, L, L.getD 0 pm_U :: st) M else none := (fr_eq S (d) (100, 4, L, st) M).trans (x_old _ _ 2 0 100 5 L st M)
theorem f100_5 (S : pm_S) (d : Nat) (L : List Value) (st : List Value) (M : pm_M) : fr S (d) (100, 5, L, st) M = fr S d (100, 7, L, .int 40 :: st) M := (fr_eq S (d) (100, 5, L, st) M).trans (x_ocs _ _ (.int 40) 100 7 L st M)
theorem f100_7 (S : pm_S) (d : Nat) (L : List Value) (n : Int32) (r : List Value) (M : pm_M) : fr S (d) (100, 7, L, .int n :: r) M = if ¬ n < 0 ∧ n.toNatClampNeg ≤ 60000 then fr S d (100, 9, L, .ref (pm_at M true) :: r) (pm_new M true (.inl (0, (n.toNatClampNeg, pm_z 0))) n.toNatClampNeg) else none := (fr_eq S (d) (100, 7, L, .int n :: r) M).trans (x_ona _ _ 0 0 true 100 9 L r n M)
theorem f100_9 (S : pm_S) (d : Nat) (L : List Value) (v : Value) (q : Nat) (r : List Value) (M : pm_M) : fr S (d) (100, 9, L, v :: .ref q :: r) M = match pm_get M q with
  | some (.inr (c, fs)) => if c = 3 ∧ 5 < fs.length ∧ pm_fit 2 v = true then fr S d (100, 12, L, r) (pm_set M q (.inr (c, fs.set 5 v))) else none
  | _ => none := (fr_eq S (d) (100, 9, L, v :: .ref q :: r) M).trans (x_opf _ _ 3 5 2 100 12 L r q v M)
theorem f100_12 (S : pm_S) (d : Nat) (L : List Value) (st : List Value) (M : pm_M) : fr S (d) (100, 12, L, st) M = if pm_ty (L.getD 0 pm_U) = 2 then fr S d (100, 13, L, L.getD 0 pm_U :: st) M else none := (fr_eq S (d) (100, 12, L, st) M).trans (x_old _ _ 2 0 100 13 L st M)
theorem f100_13 (S : pm_S) (d : Nat) (L : List Value) (st : List Value) (M : pm_M) : fr S (d) (100, 13, L, st) M = fr S d (100, 15, L, .int 40 :: st) M := (fr_eq S (d) (100, 13, L, st) M).trans (x_ocs _ _ (.int 40) 100 15 L st M)
theorem f100_15 (S : pm_S) (d : Nat) (L : List Value) (n : Int32) (r : List Value) (M : pm_M) : fr S (d) (100, 15, L, .int n :: r) M = if ¬ n < 0 ∧ n.toNatClampNeg ≤ 60000 then fr S d (100, 17, L, .ref (pm_at M true) :: r) (pm_new M true (.inl (0, (n.toNatClampNeg, pm_z 0))) n.toNatClampNeg) else none := (fr_eq S (d) (100, 15, L, .int n :: r) M).trans (x_ona _ _ 0 0 true 100 17 L r n M)
theorem f100_17 (S : pm_S) (d : Nat) (L : List Value) (v : Value) (q : Nat) (r : List Value) (M : pm_M) : fr S (d) (100, 17, L, v :: .ref q :: r) M = match pm_get M q with
  | some (.inr (c, fs)) => if c = 3 ∧ 6 < fs.length ∧ pm_fit 2 v = true then fr S d (100, 20, L, r) (pm_set M q (.inr (c, fs.set 6 v))) else none
  | _ => none := (fr_eq S (d) (100, 17, L, v :: .ref q :: r) M).trans (x_opf _ _ 3 6 2 100 20 L r q v M)
theorem f100_20 (S : pm_S) (d : Nat) (L : List Value) (st : List Value) (M : pm_M) : fr S (d) (100, 20, L, st) M = if pm_ty (L.getD 0 pm_U) = 2 then fr S d (100, 21, L, L.getD 0 pm_U :: st) M else none := (fr_eq S (d) (100, 20, L, st) M).trans (x_old _ _ 2 0 100 21 L st M)
theorem f100_21 (S : pm_S) (d : Nat) (L : List Value) (st : List Value) (M : pm_M) : fr S (d) (100, 21, L, st) M = fr S d (100, 23, L, .int 40 :: st) M := (fr_eq S (d) (100, 21, L, st) M).trans (x_ocs _ _ (.int 40) 100 23 L st M)
theorem f100_23 (S : pm_S) (d : Nat) (L : List Value) (n : Int32) (r : List Value) (M : pm_M) : fr S (d) (100, 23, L, .int n :: r) M = if ¬ n < 0 ∧ n.toNatClampNeg ≤ 60000 then fr S d (100, 25, L, .ref (pm_at M true) :: r) (pm_new M true (.inl (0, (n.toNatClampNeg, pm_z 0))) n.toNatClampNeg) else none := (fr_eq S (d) (100, 23, L, .int n :: r) M).trans (x_ona _ _ 0 0 true 100 25 L r n M)
theorem f100_25 (S : pm_S) (d : Nat) (L : List Value) (v : Value) (q : Nat) (r : List Value) (M : pm_M) : fr S (d) (100, 25, L, v :: .ref q :: r) M = match pm_get M q with
  | some (.inr (c, fs)) => if c = 3 ∧ 7 < fs.length ∧ pm_fit 2 v = true then fr S d (100, 28, L, r) (pm_set M q (.inr (c, fs.set 7 v))) else none
  | _ => none := (fr_eq S (d) (100, 25, L, v :: .ref q :: r) M).trans (x_opf _ _ 3 7 2 100 28 L r q v M)
theorem f100_28 (S : pm_S) (d : Nat) (L : List Value) (st : List Value) (M : pm_M) : fr S (d) (100, 28, L, st) M = if pm_ty (L.getD 0 pm_U) = 2 then fr S d (100, 29, L, L.getD 0 pm_U :: st) M else none := (fr_eq S (d) (100, 28, L, st) M).trans (x_old _ _ 2 0 100 29 L st M)
theorem f100_29 (S : pm_S) (d : Nat) (L : List Value) (st : List Value) (M : pm_M) : fr S (d) (100, 29, L, st) M = fr S d (100, 31, L, .int 40 :: st) M := (fr_eq S (d) (100, 29, L, st) M).trans (x_ocs _ _ (.int 40) 100 31 L st M)
theorem f100_31 (S : pm_S) (d : Nat) (L : List Value) (n : Int32) (r : List Value) (M : pm_M) : fr S (d) (100, 31, L, .int n :: r) M = if ¬ n < 0 ∧ n.toNatClampNeg ≤ 60000 then fr S d (100, 33, L, .ref (pm_at M true) :: r) (pm_new M true (.inl (0, (n.toNatClampNeg, pm_z 0))) n.toNatClampNeg) else none := (fr_eq S (d) (100, 31, L, .int n :: r) M).trans (x_ona _ _ 0 0 true 100 33 L r n M)
theorem f100_33 (S : pm_S) (d : Nat) (L : List Value) (v : Value) (q : Nat) (r : List Value) (M : pm_M) : fr S (d) (100, 33, L, v :: .ref q :: r) M = match pm_get M q with
  | some (.inr (c, fs)) => if c = 3 ∧ 8 < fs.length ∧ pm_fit 2 v = true then fr S d (100, 36, L, r) (pm_set M q (.inr (c, fs.set 8 v))) else none
  | _ => none := (fr_eq S (d) (100, 33, L, v :: .ref q :: r) M).trans (x_opf _ _ 3 8 2 100 36 L r q v M)
theorem f100_36 (S : pm_S) (d : Nat) (L : List Value) (st : List Value) (M : pm_M) : fr S (d) (100, 36, L, st) M = if pm_ty (L.getD 0 pm_U) = 2 then fr S d (100, 37, L, L.getD 0 pm_U :: st) M else none := (fr_eq S (d) (100, 36, L, st) M).trans (x_old _ _ 2 0 100 37 L st M)
theorem f100_37 (S : pm_S) (d : Nat) (L : List Value) (st : List Value) (M : pm_M) : fr S (d) (100, 37, L, st) M = fr S d (100, 39, L, .int 40 :: st) M := (fr_eq S (d) (100, 37, L, st) M).trans (x_ocs _ _ (.int 40) 100 39 L st M)
theorem f100_39 (S : pm_S) (d : Nat) (L : List Value) (n : Int32) (r : List Value) (M : pm_M) : fr S (d) (100, 39, L, .int n :: r) M = if ¬ n < 0 ∧ n.toNatClampNeg ≤ 60000 then fr S d (100, 41, L, .ref (pm_at M true) :: r) (pm_new M true (.inl (0, (n.toNatClampNeg, pm_z 0))) n.toNatClampNeg) else none := (fr_eq S (d) (100, 39, L, .int n :: r) M).trans (x_ona _ _ 0 0 true 100 41 L r n M)
theorem f100_41 (S : pm_S) (d : Nat) (L : List Value) (v : Value) (q : Nat) (r : List Value) (M : pm_M) : fr S (d) (100, 41, L, v :: .ref q :: r) M = match pm_get M q with
  | some (.inr (c, fs)) => if c = 3 ∧ 9 < fs.length ∧ pm_fit 2 v = true then fr S d (100, 44, L, r) (pm_set M q (.inr (c, fs.set 9 v))) else none
  | _ => none := (fr_eq S (d) (100, 41, L, v :: .ref q :: r) M).trans (x_opf _ _ 3 9 2 100 44 L r q v M)
theorem f100_44 (S : pm_S) (d : Nat) (L : List Value) (st : List Value) (M : pm_M) : fr S (d) (100, 44, L, st) M = if pm_ty (L.getD 0 pm_U) = 2 then fr S d (100, 45, L, L.getD 0 pm_U :: st) M else none := (fr_eq S (d) (100, 44, L, st) M).trans (x_old _ _ 2 0 100 45 L st M)
theorem f100_45 (S : pm_S) (d : Nat) (L : List Value) (st : List Value) (M : pm_M) : fr S (d) (100, 45, L, st) M = fr S d (100, 47, L, .int 80 :: st) M := (fr_eq S (d) (100, 45, L, st) M).trans (x_ocs _ _ (.int 80) 100 47 L st M)
theorem f100_47 (S : pm_S) (d : Nat) (L : List Value) (n : Int32) (r : List Value) (M : pm_M) : fr S (d) (100, 47, L, .int n :: r) M = if ¬ n < 0 ∧ n.toNatClampNeg ≤ 60000 then fr S d (100, 49, L, .ref (pm_at M true) :: r) (pm_new M true (.inl (0, (n.toNatClampNeg, pm_z 0))) n.toNatClampNeg) else none := (fr_eq S (d) (100, 47, L, .int n :: r) M).trans (x_ona _ _ 0 0 true 100 49 L r n M)
theorem f100_49 (S : pm_S) (d : Nat) (L : List Value) (v : Value) (q : Nat) (r : List Value) (M : pm_M) : fr S (d) (100, 49, L, v :: .ref q :: r) M = match pm_get M q with
  | some (.inr (c, fs)) => if c = 3 ∧ 10 < fs.length ∧ pm_fit 2 v = true then fr S d (100, 52, L, r) (pm_set M q (.inr (c, fs.set 10 v))) else none
  | _ => none := (fr_eq S (d) (100, 49, L, v :: .ref q :: r) M).trans (x_opf _ _ 3 10 2 100 52 L r q v M)
theorem f100_52 (S : pm_S) (d : Nat) (L : List Value) (st : List Value) (M : pm_M) : fr S (d) (100, 52, L, st) M = if pm_ty (L.getD 0 pm_U) = 2 then fr S d (100, 53, L, L.getD 0 pm_U :: st) M else none := (fr_eq S (d) (100, 52, L, st) M).trans (x_old _ _ 2 0 100 53 L st M)
theorem f100_53 (S : pm_S) (d : Nat) (L : List Value) (st : List Value) (M : pm_M) : fr S (d) (100, 53, L, st) M = fr S d (100, 55, L, .int 80 :: st) M := (fr_eq S (d) (100, 53, L, st) M).trans (x_ocs _ _ (.int 80) 100 55 L st M)
theorem f100_55 (S : pm_S) (d : Nat) (L : List Value) (n : Int32) (r : List Value) (M : pm_M) : fr S (d) (100, 55, L, .int n :: r) M = if ¬ n < 0 ∧ n.toNatClampNeg ≤ 60000 then fr S d (100, 57, L, .ref (pm_at M true) :: r) (pm_new M true (.inl (1, (n.toNatClampNeg, pm_z 0))) n.toNatClampNeg) else none := (fr_eq S (d) (100, 55, L, .int n :: r) M).trans (x_ona _ _ 0 1 true 100 57 L r n M)
theorem f100_57 (S : pm_S) (d : Nat) (L : List Value) (v : Value) (q : Nat) (r : List Value) (M : pm_M) : fr S (d) (100, 57, L, v :: .ref q :: r) M = match pm_get M q with
  | some (.inr (c, fs)) => if c = 3 ∧ 11 < fs.length ∧ pm_fit 2 v = true then fr S d (100, 60, L, r) (pm_set M q (.inr (c, fs.set 11 v))) else none
  | _ => none := (fr_eq S (d) (100, 57, L, v :: .ref q :: r) M).trans (x_opf _ _ 3 11 2 100 60 L r q v M)
theorem f100_60 (S : pm_S) (d : Nat) (L : List Value) (st : List Value) (M : pm_M) : fr S (d) (100, 60, L, st) M = if pm_ty (L.getD 0 pm_U) = 2 then fr S d (100, 61, L, L.getD 0 pm_U :: st) M else none := (fr_eq S (d) (100, 60, L, st) M).trans (x_old _ _ 2 0 100 61 L st M)
theorem f100_61 (S : pm_S) (d : Nat) (L : List Value) (st : List Value) (M : pm_M) : fr S (d) (100, 61, L, st) M = fr S d (100, 62, L, .int 4 :: st) M := (fr_eq S (d) (100, 61, L, st) M).trans (x_ocs _ _ (.int 4) 100 62 L st M)
theorem f100_62 (S : pm_S) (d : Nat) (L : List Value) (n : Int32) (r : List Value) (M : pm_M) : fr S (d) (100, 62, L, .int n :: r) M = if ¬ n < 0 ∧ n.toNatClampNeg ≤ 60000 then fr S d (100, 64, L, .ref (pm_at M true) :: r) (pm_new M true (.inl (0, (n.toNatClampNeg, pm_z 0))) n.toNatClampNeg) else none := (fr_eq S (d) (100, 62, L, .int n :: r) M).trans (x_ona _ _ 0 0 true 100 64 L r n M)
theorem f100_64 (S : pm_S) (d : Nat) (L : List Value) (v : Value) (r : List Value) (M : pm_M) : fr S (d) (100, 64, L, v :: r) M = if ¬ pm_ty v = 1 ∧ ¬ pm_ty v = 9 then fr S d (100, 65, L, v :: v :: r) M else none := (fr_eq S (d) (100, 64, L, v :: r) M).trans (x_odup _ _ 100 65 L r v M)
theorem f100_65 (S : pm_S) (d : Nat) (L : List Value) (st : List Value) (M : pm_M) : fr S (d) (100, 65, L, st) M = fr S d (100, 66, L, .int 0 :: st) M := (fr_eq S (d) (100, 65, L, st) M).trans (x_ocs _ _ (.int 0) 100 66 L st M)
theorem f100_66 (S : pm_S) (d : Nat) (L : List Value) (st : List Value) (M : pm_M) : fr S (d) (100, 66, L, st) M = fr S d (100, 68, L, .int 100 :: st) M := (fr_eq S (d) (100, 66, L, st) M).trans (x_ocs _ _ (.int 100) 100 68 L st M)
theorem f100_68 (S : pm_S) (d : Nat) (L : List Value) (v : Value) (i : Int32) (q : Nat) (r : List Value) (M : pm_M) : fr S (d) (100, 68, L, v :: .int i :: .ref q :: r) M = if pm_sq M 9 v = true then (match (pm_get M q).bind (fun c => pm_ev 0 0 c i v) with
  | some c => fr S d (100, 69, L, r) (pm_set M q c)
  | none => none) else none := (fr_eq S (d) (100, 68, L, v :: .int i :: .ref q :: r) M).trans (x_oas _ _ 0 0 9 100 69 L r v i q M)
theorem f100_69 (S : pm_S) (d : Nat) (L : List Value) (v : Value) (r : List Value) (M : pm_M) : fr S (d) (100, 69, L, v :: r) M = if ¬ pm_ty v = 1 ∧ ¬ pm_ty v = 9 then fr S d (100, 70, L, v :: v :: r) M else none := (fr_eq S (d) (100, 69, L, v :: r) M).trans (x_odup _ _ 100 70 L r v M)
theorem f100_70 (S : pm_S) (d : Nat) (L : List Value) (st : List Value) (M : pm_M) : fr S (d) (100, 70, L, st) M = fr S d (100, 71, L, .int 1 :: st) M := (fr_eq S (d) (100, 70, L, st) M).trans (x_ocs _ _ (.int 1) 100 71 L st M)
theorem f100_71 (S : pm_S) (d : Nat) (L : List Value) (st : List Value) (M : pm_M) : fr S (d) (100, 71, L, st) M = fr S d (100, 73, L, .int 100 :: st) M := (fr_eq S (d) (100, 71, L, st) M).trans (x_ocs _ _ (.int 100) 100 73 L st M)
theorem f100_73 (S : pm_S) (d : Nat) (L : List Value) (v : Value) (i : Int32) (q : Nat) (r : List Value) (M : pm_M) : fr S (d) (100, 73, L, v :: .int i :: .ref q :: r) M = if pm_sq M 9 v = true then (match (pm_get M q).bind (fun c => pm_ev 0 0 c i v) with
  | some c => fr S d (100, 74, L, r) (pm_set M q c)
  | none => none) else none := (fr_eq S (d) (100, 73, L, v :: .int i :: .ref q :: r) M).trans (x_oas _ _ 0 0 9 100 74 L r v i q M)
theorem f100_74 (S : pm_S) (d : Nat) (L : List Value) (v : Value) (r : List Value) (M : pm_M) : fr S (d) (100, 74, L, v :: r) M = if ¬ pm_ty v = 1 ∧ ¬ pm_ty v = 9 then fr S d (100, 75, L, v :: v :: r) M else none := (fr_eq S (d) (100, 74, L, v :: r) M).trans (x_odup _ _ 100 75 L r v M)
theorem f100_75 (S : pm_S) (d : Nat) (L : List Value) (st : List Value) (M : pm_M) : fr S (d) (100, 75, L, st) M = fr S d (100, 76, L, .int 2 :: st) M := (fr_eq S (d) (100, 75, L, st) M).trans (x_ocs _ _ (.int 2) 100 76 L st M)
theorem f100_76 (S : pm_S) (d : Nat) (L : List Value) (st : List Value) (M : pm_M) : fr S (d) (100, 76, L, st) M = fr S d (100, 78, L, .int 100 :: st) M := (fr_eq S (d) (100, 76, L, st) M).trans (x_ocs _ _ (.int 100) 100 78 L st M)
theorem f100_78 (S : pm_S) (d : Nat) (L : List Value) (v : Value) (i : Int32) (q : Nat) (r : List Value) (M : pm_M) : fr S (d) (100, 78, L, v :: .int i :: .ref q :: r) M = if pm_sq M 9 v = true then (match (pm_get M q).bind (fun c => pm_ev 0 0 c i v) with
  | some c => fr S d (100, 79, L, r) (pm_set M q c)
  | none => none) else none := (fr_eq S (d) (100, 78, L, v :: .int i :: .ref q :: r) M).trans (x_oas _ _ 0 0 9 100 79 L r v i q M)
theorem f100_79 (S : pm_S) (d : Nat) (L : List Value) (v : Value) (r : List Value) (M : pm_M) : fr S (d) (100, 79, L, v :: r) M = if ¬ pm_ty v = 1 ∧ ¬ pm_ty v = 9 then fr S d (100, 80, L, v :: v :: r) M else none := (fr_eq S (d) (100, 79, L, v :: r) M).trans (x_odup _ _ 100 80 L r v M)
theorem f100_80 (S : pm_S) (d : Nat) (L : List Value) (st : List Value) (M : pm_M) : fr S (d) (100, 80, L, st) M = fr S d (100, 81, L, .int 3 :: st) M := (fr_eq S (d) (100, 80, L, st) M).trans (x_ocs _ _ (.int 3) 100 81 L st M)
theorem f100_81 (S : pm_S) (d : Nat) (L : List Value) (st : List Value) (M : pm_M) : fr S (d) (100, 81, L, st) M = fr S d (100, 83, L, .int 100 :: st) M := (fr_eq S (d) (100, 81, L, st) M).trans (x_ocs _ _ (.int 100) 100 83 L st M)
theorem f100_83 (S : pm_S) (d : Nat) (L : List Value) (v : Value) (i : Int32) (q : Nat) (r : List Value) (M : pm_M) : fr S (d) (100, 83, L, v :: .int i :: .ref q :: r) M = if pm_sq M 9 v = true then (match (pm_get M q).bind (fun c => pm_ev 0 0 c i v) with
  | some c => fr S d (100, 84, L, r) (pm_set M q c)
  | none => none) else none := (fr_eq S (d) (100, 83, L, v :: .int i :: .ref q :: r) M).trans (x_oas _ _ 0 0 9 100 84 L r v i q M)
theorem f100_84 (S : pm_S) (d : Nat) (L : List Value) (v : Value) (q : Nat) (r : List Value) (M : pm_M) : fr S (d) (100, 84, L, v :: .ref q :: r) M = match pm_get M q with
  | some (.inr (c, fs)) => if c = 3 ∧ 12 < fs.length ∧ pm_fit 2 v = true then fr S d (100, 87, L, r) (pm_set M q (.inr (c, fs.set 12 v))) else none
  | _ => none := (fr_eq S (d) (100, 84, L, v :: .ref q :: r) M).trans (x_opf _ _ 3 12 2 100 87 L r q v M)
theorem f100_87 (S : pm_S) (d : Nat) (L : List Value) (st : List Value) (M : pm_M) : fr S (d) (100, 87, L, st) M = if pm_ty (L.getD 0 pm_U) = 2 then fr S d (100, 88, L, L.getD 0 pm_U :: st) M else none := (fr_eq S (d) (100, 87, L, st) M).trans (x_old _ _ 2 0 100 88 L st M)
theorem f100_88 (S : pm_S) (d : Nat) (L : List Value) (st : List Value) (M : pm_M) : fr S (d) (100, 88, L, st) M = fr S d (100, 91, L, .int 1600 :: st) M := (fr_eq S (d) (100, 88, L, st) M).trans (x_ocs _ _ (.int 1600) 100 91 L st M)
theorem f100_91 (S : pm_S) (d : Nat) (L : List Value) (n : Int32) (r : List Value) (M : pm_M) : fr S (d) (100, 91, L, .int n :: r) M = if ¬ n < 0 ∧ n.toNatClampNeg ≤ 60000 then fr S d (100, 93, L, .ref (pm_at M true) :: r) (pm_new M true (.inl (1, (n.toNatClampNeg, pm_z 0))) n.toNatClampNeg) else none := (fr_eq S (d) (100, 91, L, .int n :: r) M).trans (x_ona _ _ 0 1 true 100 93 L r n M)
theorem f100_93 (S : pm_S) (d : Nat) (L : List Value) (v : Value) (q : Nat) (r : List Value) (M : pm_M) : fr S (d) (100, 93, L, v :: .ref q :: r) M = match pm_get M q with
  | some (.inr (c, fs)) => if c = 3 ∧ 13 < fs.length ∧ pm_fit 2 v = true then fr S d (100, 96, L, r) (pm_set M q (.inr (c, fs.set 13 v))) else none
  | _ => none := (fr_eq S (d) (100, 93, L, v :: .ref q :: r) M).trans (x_opf _ _ 3 13 2 100 96 L r q v M)
theorem f100_96 (S : pm_S) (d : Nat) (L : List Value) (st : List Value) (M : pm_M) : fr S (d) (100, 96, L, st) M = if pm_ty (L.getD 0 pm_U) = 2 then fr S d (100, 97, L, L.getD 0 pm_U :: st) M else none := (fr_eq S (d) (100, 96, L, st) M).trans (x_old _ _ 2 0 100 97 L st M)
theorem f100_97 (S : pm_S) (d : Nat) (L : List Value) (st : List Value) (M : pm_M) : fr S (d) (100, 97, L, st) M = fr S d (100, 98, L, .int 4 :: st) M := (fr_eq S (d) (100, 97, L, st) M).trans (x_ocs _ _ (.int 4) 100 98 L st M)
theorem f100_98 (S : pm_S) (d : Nat) (L : List Value) (n : Int32) (r : List Value) (M : pm_M) : fr S (d) (100, 98, L, .int n :: r) M = if ¬ n < 0 ∧ n.toNatClampNeg ≤ 60000 then fr S d (100, 100, L, .ref (pm_at M true) :: r) (pm_new M true (.inl (0, (n.toNatClampNeg, pm_z 0))) n.toNatClampNeg) else none := (fr_eq S (d) (100, 98, L, .int n :: r) M).trans (x_ona _ _ 0 0 true 100 100 L r n M)
theorem f100_100 (S : pm_S) (d : Nat) (L : List Value) (v : Value) (q : Nat) (r : List Value) (M : pm_M) : fr S (d) (100, 100, L, v :: .ref q :: r) M = match pm_get M q with
  | some (.inr (c, fs)) => if c = 3 ∧ 14 < fs.length ∧ pm_fit 2 v = true then fr S d (100, 103, L, r) (pm_set M q (.inr (c, fs.set 14 v))) else none
  | _ => none := (fr_eq S (d) (100, 100, L, v :: .ref q :: r) M).trans (x_opf _ _ 3 14 2 100 103 L r q v M)
theorem f100_103 (S : pm_S) (d : Nat) (L : List Value) (st : List Value) (M : pm_M) : fr S (d) (100, 103, L, st) M = if pm_ty (L.getD 0 pm_U) = 2 then fr S d (100, 104, L, L.getD 0 pm_U :: st) M else none := (fr_eq S (d) (100, 103, L, st) M).trans (x_old _ _ 2 0 100 104 L st M)
theorem f100_104 (S : pm_S) (d : Nat) (L : List Value) (st : List Value) (M : pm_M) : fr S (d) (100, 104, L, st) M = fr S d (100, 105, L, .int 4 :: st) M := (fr_eq S (d) (100, 104, L, st) M).trans (x_ocs _ _ (.int 4) 100 105 L st M)
theorem f100_105 (S : pm_S) (d : Nat) (L : List Value) (n : Int32) (r : List Value) (M : pm_M) : fr S (d) (100, 105, L, .int n :: r) M = if ¬ n < 0 ∧ n.toNatClampNeg ≤ 60000 then fr S d (100, 107, L, .ref (pm_at M true) :: r) (pm_new M true (.inl (0, (n.toNatClampNeg, pm_z 0))) n.toNatClampNeg) else none := (fr_eq S (d) (100, 105, L, .int n :: r) M).trans (x_ona _ _ 0 0 true 100 107 L r n M)
theorem f100_107 (S : pm_S) (d : Nat) (L : List Value) (v : Value) (q : Nat) (r : List Value) (M : pm_M) : fr S (d) (100, 107, L, v :: .ref q :: r) M = match pm_get M q with
  | some (.inr (c, fs)) => if c = 3 ∧ 16 < fs.length ∧ pm_fit 2 v = true then fr S d (100, 110, L, r) (pm_set M q (.inr (c, fs.set 16 v))) else none
  | _ => none := (fr_eq S (d) (100, 107, L, v :: .ref q :: r) M).trans (x_opf _ _ 3 16 2 100 110 L r q v M)
theorem f100_110 (S : pm_S) (d : Nat) (L : List Value) (st : List Value) (M : pm_M) : fr S (d) (100, 110, L, st) M = if pm_ty (L.getD 0 pm_U) = 2 then fr S d (100, 111, L, L.getD 0 pm_U :: st) M else none := (fr_eq S (d) (100, 110, L, st) M).trans (x_old _ _ 2 0 100 111 L st M)
theorem f100_111 (S : pm_S) (d : Nat) (L : List Value) (st : List Value) (M : pm_M) : fr S (d) (100, 111, L, st) M = if pm_ty (L.getD 1 pm_U) = 0 then fr S d (100, 112, L, L.getD 1 pm_U :: st) M else none := (fr_eq S (d) (100, 111, L, st) M).trans (x_old _ _ 0 1 100 112 L st M)
theorem f100_112 (S : pm_S) (d : Nat) (L : List Value) (st : List Value) (M : pm_M) : fr S (d) (100, 112, L, st) M = fr S d (100, 113, L, .int 4 :: st) M := (fr_eq S (d) (100, 112, L, st) M).trans (x_ocs _ _ (.int 4) 100 113 L st M)
theorem f100_113 (S : pm_S) (d : Nat) (L : List Value) (st : List Value) (M : pm_M) : fr S (d + 1) (100, 113, L, st) M = match pm_ag 2 [] st with
  | some (a, r) => if r.length ≤ 4 ∧ (0 = 0 ∨ pm_obj M 3 (a.headD pm_U) = true) then (match fr S d (101, 0, a ++ [], []) M with
    | none => none
    | some (.inl v, M') => fr S (d + 1) (100, 116, L, v.toList ++ r) M'
    | some (.inr E, M') => some (.inr E, M')) else none
  | none => none := (fr_eq S (d + 1) (100, 113, L, st) M).trans (x_ocl _ _ 0 101 2 3 [] 100 116 L st M)
theorem f100_116 (S : pm_S) (d : Nat) (L : List Value) (v : Value) (q : Nat) (r : List Value) (M : pm_M) : fr S (d) (100, 116, L, v :: .ref q :: r) M = match pm_get M q with
  | some (.inr (c, fs)) => if c = 3 ∧ 1 < fs.length ∧ pm_fit 0 v = true then fr S d (100, 119, L, r) (pm_set M q (.inr (c, fs.set 1 v))) else none
  | _ => none := (fr_eq S (d) (100, 116, L, v :: .ref q :: r) M).trans (x_opf _ _ 3 1 0 100 119 L r q v M)
theorem f100_119 (S : pm_S) (d : Nat) (L : List Value) (st : List Value) (M : pm_M) : fr S (d) (100, 119, L, st) M = if pm_ty (L.getD 0 pm_U) = 2 then fr S d (100, 120, L, L.getD 0 pm_U :: st) M else none := (fr_eq S (d) (100, 119, L, st) M).trans (x_old _ _ 2 0 100 120 L st M)
theorem f100_120 (S : pm_S) (d : Nat) (L : List Value) (st : List Value) (M : pm_M) : fr S (d) (100, 120, L, st) M = if pm_ty (L.getD 2 pm_U) = 0 then fr S d (100, 121, L, L.getD 2 pm_U :: st) M else none := (fr_eq S (d) (100, 120, L, st) M).trans (x_old _ _ 0 2 100 121 L st M)
theorem f100_121 (S : pm_S) (d : Nat) (L : List Value) (st : List Value) (M : pm_M) : fr S (d) (100, 121, L, st) M = fr S d (100, 122, L, .int 4 :: st) M := (fr_eq S (d) (100, 121, L, st) M).trans (x_ocs _ _ (.int 4) 100 122 L st M)
theorem f100_122 (S : pm_S) (d : Nat) (L : List Value) (st : List Value) (M : pm_M) : fr S (d + 1) (100, 122, L, st) M = match pm_ag 2 [] st with
  | some (a, r) => if r.length ≤ 4 ∧ (0 = 0 ∨ pm_obj M 3 (a.headD pm_U) = true) then (match fr S d (101, 0, a ++ [], []) M with
    | none => none
    | some (.inl v, M') => fr S (d + 1) (100, 125, L, v.toList ++ r) M'
    | some (.inr E, M') => some (.inr E, M')) else none
  | none => none := (fr_eq S (d + 1) (100, 122, L, st) M).trans (x_ocl _ _ 0 101 2 3 [] 100 125 L st M)
theorem f100_125 (S : pm_S) (d : Nat) (L : List Value) (v : Value) (q : Nat) (r : List Value) (M : pm_M) : fr S (d) (100, 125, L, v :: .ref q :: r) M = match pm_get M q with
  | some (.inr (c, fs)) => if c = 3 ∧ 2 < fs.length ∧ pm_fit 0 v = true then fr S d (100, 128, L, r) (pm_set M q (.inr (c, fs.set 2 v))) else none
  | _ => none := (fr_eq S (d) (100, 125, L, v :: .ref q :: r) M).trans (x_opf _ _ 3 2 0 100 128 L r q v M)
theorem f100_128 (S : pm_S) (d : Nat) (L : List Value) (st : List Value) (M : pm_M) : fr S (d) (100, 128, L, st) M = if pm_ty (L.getD 0 pm_U) = 2 then fr S d (100, 129, L, L.getD 0 pm_U :: st) M else none := (fr_eq S (d) (100, 128, L, st) M).trans (x_old _ _ 2 0 100 129 L st M)
theorem f100_129 (S : pm_S) (d : Nat) (L : List Value) (st : List Value) (M : pm_M) : fr S (d) (100, 129, L, st) M = if pm_ty (L.getD 3 pm_U) = 0 then fr S d (100, 130, L, L.getD 3 pm_U :: st) M else none := (fr_eq S (d) (100, 129, L, st) M).trans (x_old _ _ 0 3 100 130 L st M)
theorem f100_130 (S : pm_S) (d : Nat) (L : List Value) (st : List Value) (M : pm_M) : fr S (d) (100, 130, L, st) M = fr S d (100, 131, L, .int 5 :: st) M := (fr_eq S (d) (100, 130, L, st) M).trans (x_ocs _ _ (.int 5) 100 131 L st M)
theorem f100_131 (S : pm_S) (d : Nat) (L : List Value) (st : List Value) (M : pm_M) : fr S (d + 1) (100, 131, L, st) M = match pm_ag 2 [] st with
  | some (a, r) => if r.length ≤ 4 ∧ (0 = 0 ∨ pm_obj M 3 (a.headD pm_U) = true) then (match fr S d (101, 0, a ++ [], []) M with
    | none => none
    | some (.inl v, M') => fr S (d + 1) (100, 134, L, v.toList ++ r) M'
    | some (.inr E, M') => some (.inr E, M')) else none
  | none => none := (fr_eq S (d + 1) (100, 131, L, st) M).trans (x_ocl _ _ 0 101 2 3 [] 100 134 L st M)
theorem f100_134 (S : pm_S) (d : Nat) (L : List Value) (v : Value) (q : Nat) (r : List Value) (M : pm_M) : fr S (d) (100, 134, L, v :: .ref q :: r) M = match pm_get M q with
  | some (.inr (c, fs)) => if c = 3 ∧ 3 < fs.length ∧ pm_fit 0 v = true then fr S d (100, 137, L, r) (pm_set M q (.inr (c, fs.set 3 v))) else none
  | _ => none := (fr_eq S (d) (100, 134, L, v :: .ref q :: r) M).trans (x_opf _ _ 3 3 0 100 137 L r q v M)
theorem f100_137 (S : pm_S) (d : Nat) (L : List Value) (st : List Value) (M : pm_M) : fr S (d) (100, 137, L, st) M = fr S d (100, 138, L, .int 0 :: st) M := (fr_eq S (d) (100, 137, L, st) M).trans (x_ocs _ _ (.int 0) 100 138 L st M)
theorem f100_138 (S : pm_S) (d : Nat) (L : List Value) (v : Value) (r : List Value) (M : pm_M) : fr S (d) (100, 138, L, v :: r) M = if pm_ty v = 0 ∧ 4 < L.length ∧ ¬ pm_ty (L.getD (4 - 1) pm_U) = 1 then fr S d (100, 140, L.set 4 v, r) M else none := (fr_eq S (d) (100, 138, L, v :: r) M).trans (x_ost _ _ 0 4 100 140 L r v M)
theorem f100_140 (S : pm_S) (d : Nat) (L : List Value) (st : List Value) (M : pm_M) : fr S (d) (100, 140, L, st) M = if pm_ty (L.getD 4 pm_U) = 0 then fr S d (100, 142, L, L.getD 4 pm_U :: st) M else none := (fr_eq S (d) (100, 140, L, st) M).trans (x_old _ _ 0 4 100 142 L st M)
theorem f100_142 (S : pm_S) (d : Nat) (L : List Value) (st : List Value) (M : pm_M) : fr S (d) (100, 142, L, st) M = fr S d (100, 144, L, .int 40 :: st) M := (fr_eq S (d) (100, 142, L, st) M).trans (x_ocs _ _ (.int 40) 100 144 L st M)
theorem f100_144 (S : pm_S) (d : Nat) (L : List Value) (x y : Int32) (r : List Value) (M : pm_M) : fr S (d) (100, 144, L, .int y :: .int x :: r) M = if y ≤ x then fr S d (100, 161, L, r) M else fr S d (100, 147, L, r) M := (fr_eq S (d) (100, 144, L, .int y :: .int x :: r) M).trans (x_oc2ge _ _ 100 147 161 L r x y M)
theorem f100_147 (S : pm_S) (d : Nat) (L : List Value) (st : List Value) (M : pm_M) : fr S (d) (100, 147, L, st) M = if pm_ty (L.getD 0 pm_U) = 2 then fr S d (100, 148, L, L.getD 0 pm_U :: st) M else none := (fr_eq S (d) (100, 147, L, st) M).trans (x_old _ _ 2 0 100 148 L st M)
theorem f100_148 (S : pm_S) (d : Nat) (L : List Value) (q : Nat) (r : List Value) (M : pm_M) : fr S (d) (100, 148, L, .ref q :: r) M = match pm_get M q with
  | some (.inr (c, fs)) => if c = 3 ∧ 9 < fs.length then fr S d (100, 151, L, fs.getD 9 pm_U :: r) M else none
  | _ => none := (fr_eq S (d) (100, 148, L, .ref q :: r) M).trans (x_ogf _ _ 3 9 100 151 L r q M)
theorem f100_151 (S : pm_S) (d : Nat) (L : List Value) (st : List Value) (M : pm_M) : fr S (d) (100, 151, L, st) M = if pm_ty (L.getD 4 pm_U) = 0 then fr S d (100, 153, L, L.getD 4 pm_U :: st) M else none := (fr_eq S (d) (100, 151, L, st) M).trans (x_old _ _ 0 4 100 153 L st M)
theorem f100_153 (S : pm_S) (d : Nat) (L : List Value) (st : List Value) (M : pm_M) : fr S (d) (100, 153, L, st) M = fr S d (100, 154, L, .int (-1) :: st) M := (fr_eq S (d) (100, 153, L, st) M).trans (x_ocs _ _ (.int (-1)) 100 154 L st M)
theorem f100_154 (S : pm_S) (d : Nat) (L : List Value) (v : Value) (i : Int32) (q : Nat) (r : List Value) (M : pm_M) : fr S (d) (100, 154, L, v :: .int i :: .ref q :: r) M = if pm_sq M 9 v = true then (match (pm_get M q).bind (fun c => pm_ev 0 0 c i v) with
  | some c => fr S d (100, 155, L, r) (pm_set M q c)
  | none => none) else none := (fr_eq S (d) (100, 154, L, v :: .int i :: .ref q :: r) M).trans (x_oas _ _ 0 0 9 100 155 L r v i q M)
theorem f100_155 (S : pm_S) (d : Nat) (L : List Value) (st : List Value) (M : pm_M) : fr S (d) (100, 155, L, st) M = match L.getD 4 pm_U with
  | .int x => if 4 < L.length ∧ ¬ pm_ty (L.getD (4 - 1) pm_U) = 1 then fr S d (100, 158, L.set 4 (.int (x + 1)), st) M else none
  | _ => none := (fr_eq S (d) (100, 155, L, st) M).trans (x_oinc _ _ 4 1 100 158 L st M)
theorem f100_158 (S : pm_S) (d : Nat) (L : List Value) (st : List Value) (M : pm_M) : fr S (d) (100, 158, L, st) M = fr S d (100, 140, L, st) M := (fr_eq S (d) (100, 158, L, st) M).trans (x_ogo _ _ 100 140 L st M)
theorem f100_161 (S : pm_S) (d : Nat) (L : List Value)  (M : pm_M) : fr S (d) (100, 161, L, []) M = some (.inl none, M) := (fr_eq S (d) (100, 161, L, []) M).trans (x_orv _ _ M)
theorem f101_0 (S : pm_S) (d : Nat) (L : List Value) (st : List Value) (M : pm_M) : fr S (d) (101, 0, L, st) M = if pm_ty (L.getD 0 pm_U) = 0 then fr S d (101, 1, L, L.getD 0 pm_U :: st) M else none := (fr_eq S (d) (101, 0, L, st) M).trans (x_old _ _ 0 0 101 1 L st M)
theorem f101_1 (S : pm_S) (d : Nat) (L : List Value) (st : List Value) (M : pm_M) : fr S (d) (101, 1, L, st) M = fr S d (101, 2, L, .int 1 :: st) M := (fr_eq S (d) (101, 1, L, st) M).trans (x_ocs _ _ (.int 1) 101 2 L st M)
theorem f101_2 (S : pm_S) (d : Nat) (L : List Value) (x y : Int32) (r : List Value) (M : pm_M) : fr S (d) (101, 2, L, .int y :: .int x :: r) M = if y ≤ x then fr S d (101, 9, L, r) M else fr S d (101, 5, L, r) M := (fr_eq S (d) (101, 2, L, .int y :: .int x :: r) M).trans (x_oc2ge _ _ 101 5 9 L r x y M)
theorem f101_5 (S : pm_S) (d : Nat) (L : List Value) (st : List Value) (M : pm_M) : fr S (d) (101, 5, L, st) M = fr S d (101, 6, L, .int 1 :: st) M := (fr_eq S (d) (101, 5, L, st) M).trans (x_ocs _ _ (.int 1) 101 6 L st M)
theorem f101_6 (S : pm_S) (d : Nat) (L : List Value) (st : List Value) (M : pm_M) : fr S (d) (101, 6, L, st) M = fr S d (101, 19, L, st) M := (fr_eq S (d) (101, 6, L, st) M).trans (x_ogo _ _ 101 19 L st M)
theorem f101_9 (S : pm_S) (d : Nat) (L : List Value) (st : List Value) (M : pm_M) : fr S (d) (101, 9, L, st) M = if pm_ty (L.getD 0 pm_U) = 0 then fr S d (101, 10, L, L.getD 0 pm_U :: st) M else none := (fr_eq S (d) (101, 9, L, st) M).trans (x_old _ _ 0 0 101 10 L st M)
theorem f101_10 (S : pm_S) (d : Nat) (L : List Value) (st : List Value) (M : pm_M) : fr S (d) (101, 10, L, st) M = if pm_ty (L.getD 1 pm_U) = 0 then fr S d (101, 11, L, L.getD 1 pm_U :: st) M else none := (fr_eq S (d) (101, 10, L, st) M).trans (x_old _ _ 0 1 101 11 L st M)
theorem f101_11 (S : pm_S) (d : Nat) (L : List Value) (x y : Int32) (r : List Value) (M : pm_M) : fr S (d) (101, 11, L, .int y :: .int x :: r) M = if x ≤ y then fr S d (101, 18, L, r) M else fr S d (101, 14, L, r) M := (fr_eq S (d) (101, 11, L, .int y :: .int x :: r) M).trans (x_oc2le _ _ 101 14 18 L r x y M)
theorem f101_14 (S : pm_S) (d : Nat) (L : List Value) (st : List Value) (M : pm_M) : fr S (d) (101, 14, L, st) M = if pm_ty (L.getD 1 pm_U) = 0 then fr S d (101, 15, L, L.getD 1 pm_U :: st) M else none := (fr_eq S (d) (101, 14, L, st) M).trans (x_old _ _ 0 1 101 15 L st M)
theorem f101_15 (S : pm_S) (d : Nat) (L : List Value) (st : List Value) (M : pm_M) : fr S (d) (101, 15, L, st) M = fr S d (101, 19, L, st) M := (fr_eq S (d) (101, 15, L, st) M).trans (x_ogo _ _ 101 19 L st M)
theorem f101_18 (S : pm_S) (d : Nat) (L : List Value) (st : List Value) (M : pm_M) : fr S (d) (101, 18, L, st) M = if pm_ty (L.getD 0 pm_U) = 0 then fr S d (101, 19, L, L.getD 0 pm_U :: st) M else none := (fr_eq S (d) (101, 18, L, st) M).trans (x_old _ _ 0 0 101 19 L st M)
theorem f101_19 (S : pm_S) (d : Nat) (L : List Value) (v : Value) (M : pm_M) : fr S (d) (101, 19, L, [v]) M = if pm_fit 0 v = true then some (.inl (some v), M) else none := (fr_eq S (d) (101, 19, L, [v]) M).trans (x_ort _ _ 0 v M)
theorem f102_0 (S : pm_S) (d : Nat) (L : List Value) (st : List Value) (M : pm_M) : fr S (d) (102, 0, L, st) M = if pm_ty (L.getD 0 pm_U) = 2 then fr S d (102, 1, L, L.getD 0 pm_U :: st) M else none := (fr_eq S (d) (102, 0, L, st) M).trans (x_old _ _ 2 0 102 1 L st M)
theorem f102_1 (S : pm_S) (d : Nat) (L : List Value) (q : Nat) (r : List Value) (M : pm_M) : fr S (d) (102, 1, L, .ref q :: r) M = match pm_get M q with
  | some (.inr (c, fs)) => if c = 3 ∧ 0 < fs.length then fr S d (102, 4, L, fs.getD 0 pm_U :: r) M else none
  | _ => none := (fr_eq S (d) (102, 1, L, .ref q :: r) M).trans (x_ogf _ _ 3 0 102 4 L r q M)
theorem f102_4 (S : pm_S) (d : Nat) (L : List Value) (v : Value) (M : pm_M) : fr S (d) (102, 4, L, [v]) M = if pm_fit 0 v = true then some (.inl (some v), M) else none := (fr_eq S (d) (102, 4, L, [v]) M).trans (x_ort _ _ 0 v M)
theorem f103_0 (S : pm_S) (d : Nat) (L : List Value) (st : List Value) (M : pm_M) : fr S (d) (103, 0, L, st) M = if pm_ty (L.getD 0 pm_U) = 2 then fr S d (103, 1, L, L.getD 0 pm_U :: st) M else none := (fr_eq S (d) (103, 0, L, st) M).trans (x_old _ _ 2 0 103 1 L st M)
theorem f103_1 (S : pm_S) (d : Nat) (L : List Value) (st : List Value) (M : pm_M) : fr S (d) (103, 1, L, st) M = if pm_ty (L.getD 1 pm_U) = 0 then fr S d (103, 2, L, L.getD 1 pm_U :: st) M else none := (fr_eq S (d) (103, 1, L, st) M).trans (x_old _ _ 0 1 103 2 L st M)
theorem f103_2 (S : pm_S) (d : Nat) (L : List Value) (v : Value) (q : Nat) (r : List Value) (M : pm_M) : fr S (d) (103, 2, L, v :: .ref q :: r) M = match pm_get M q with
  | some (.inr (c, fs)) => if c = 3 ∧ 0 < fs.length ∧ pm_fit 0 v = true then fr S d (103, 5, L, r) (pm_set M q (.inr (c, fs.set 0 v))) else none
  | _ => none := (fr_eq S (d) (103, 2, L, v :: .ref q :: r) M).trans (x_opf _ _ 3 0 0 103 5 L r q v M)
theorem f103_5 (S : pm_S) (d : Nat) (L : List Value) (st : List Value) (M : pm_M) : fr S (d) (103, 5, L, st) M = fr S d (103, 6, L, .int 0 :: st) M := (fr_eq S (d) (103, 5, L, st) M).trans (x_ocs _ _ (.int 0) 103 6 L st M)
theorem f103_6 (S : pm_S) (d : Nat) (L : List Value) (v : Value) (M : pm_M) : fr S (d) (103, 6, L, [v]) M = if pm_fit 0 v = true then some (.inl (some v), M) else none := (fr_eq S (d) (103, 6, L, [v]) M).trans (x_ort _ _ 0 v M)
theorem f104_0 (S : pm_S) (d : Nat) (L : List Value) (st : List Value) (M : pm_M) : fr S (d) (104, 0, L, st) M = if pm_ty (L.getD 0 pm_U) = 0 then fr S d (104, 1, L, L.getD 0 pm_U :: st) M else none := (fr_eq S (d) (104, 0, L, st) M).trans (x_old _ _ 0 0 104 1 L st M)
theorem f104_1 (S : pm_S) (d : Nat) (L : List Value) (st : List Value) (M : pm_M) : fr S (d) (104, 1, L, st) M = if pm_ty (L.getD 1 pm_U) = 0 then fr S d (104, 2, L, L.getD 1 pm_U :: st) M else none := (fr_eq S (d) (104, 1, L, st) M).trans (x_old _ _ 0 1 104 2 L st M)
theorem f104_2 (S : pm_S) (d : Nat) (L : List Value) (x y : Int32) (r : List Value) (M : pm_M) : fr S (d) (104, 2, L, .int y :: .int x :: r) M = if x < y then fr S d (104, 14, L, r) M else fr S d (104, 5, L, r) M := (fr_eq S (d) (104, 2, L, .int y :: .int x :: r) M).trans (x_oc2lt _ _ 104 5 14 L r x y M)
theorem f104_5 (S : pm_S) (d : Nat) (L : List Value) (st : List Value) (M : pm_M) : fr S (d) (104, 5, L, st) M = if pm_ty (L.getD 0 pm_U) = 0 then fr S d (104, 6, L, L.getD 0 pm_U :: st) M else none := (fr_eq S (d) (104, 5, L, st) M).trans (x_old _ _ 0 0 104 6 L st M)
theorem f104_6 (S : pm_S) (d : Nat) (L : List Value) (st : List Value) (M : pm_M) : fr S (d) (104, 6, L, st) M = if pm_ty (L.getD 2 pm_U) = 0 then fr S d (104, 7, L, L.getD 2 pm_U :: st) M else none := (fr_eq S (d) (104, 6, L, st) M).trans (x_old _ _ 0 2 104 7 L st M)
theorem f104_7 (S : pm_S) (d : Nat) (L : List Value) (x y : Int32) (r : List Value) (M : pm_M) : fr S (d) (104, 7, L, .int y :: .int x :: r) M = if y < x then fr S d (104, 14, L, r) M else fr S d (104, 10, L, r) M := (fr_eq S (d) (104, 7, L, .int y :: .int x :: r) M).trans (x_oc2gt _ _ 104 10 14 L r x y M)
theorem f104_10 (S : pm_S) (d : Nat) (L : List Value) (st : List Value) (M : pm_M) : fr S (d) (104, 10, L, st) M = fr S d (104, 11, L, .int 1 :: st) M := (fr_eq S (d) (104, 10, L, st) M).trans (x_ocs _ _ (.int 1) 104 11 L st M)
theorem f104_11 (S : pm_S) (d : Nat) (L : List Value) (st : List Value) (M : pm_M) : fr S (d) (104, 11, L, st) M = fr S d (104, 15, L, st) M := (fr_eq S (d) (104, 11, L, st) M).trans (x_ogo _ _ 104 15 L st M)
theorem f104_14 (S : pm_S) (d : Nat) (L : List Value) (st : List Value) (M : pm_M) : fr S (d) (104, 14, L, st) M = fr S d (104, 15, L, .int 0 :: st) M := (fr_eq S (d) (104, 14, L, st) M).trans (x_ocs _ _ (.int 0) 104 15 L st M)
theorem f104_15 (S : pm_S) (d : Nat) (L : List Value) (v : Value) (M : pm_M) : fr S (d) (104, 15, L, [v]) M = if pm_fit 3 v = true then some (.inl (some v), M) else none := (fr_eq S (d) (104, 15, L, [v]) M).trans (x_ort _ _ 3 v M)
theorem f105_0 (S : pm_S) (d : Nat) (L : List Value) (st : List Value) (M : pm_M) : fr S (d) (105, 0, L, st) M = if pm_ty (L.getD 1 pm_U) = 0 then fr S d (105, 1, L, L.getD 1 pm_U :: st) M else none := (fr_eq S (d) (105, 0, L, st) M).trans (x_old _ _ 0 1 105 1 L st M)
theorem f105_1 (S : pm_S) (d : Nat) (L : List Value) (x : Int32) (r : List Value) (M : pm_M) : fr S (d) (105, 1, L, .int x :: r) M = if x < 0 then fr S d (105, 16, L, r) M else fr S d (105, 4, L, r) M := (fr_eq S (d) (105, 1, L, .int x :: r) M).trans (x_oc1lt _ _ 105 4 16 L r x M)
theorem f105_4 (S : pm_S) (d : Nat) (L : List Value) (st : List Value) (M : pm_M) : fr S (d) (105, 4, L, st) M = if pm_ty (L.getD 1 pm_U) = 0 then fr S d (105, 5, L, L.getD 1 pm_U :: st) M else none := (fr_eq S (d) (105, 4, L, st) M).trans (x_old _ _ 0 1 105 5 L st M)
theorem f105_5 (S : pm_S) (d : Nat) (L : List Value) (st : List Value) (M : pm_M) : fr S (d) (105, 5, L, st) M = if pm_ty (L.getD 0 pm_U) = 2 then fr S d (105, 6, L, L.getD 0 pm_U :: st) M else none := (fr_eq S (d) (105, 5, L, st) M).trans (x_old _ _ 2 0 105 6 L st M)
theorem f105_6 (S : pm_S) (d : Nat) (L : List Value) (q : Nat) (r : List Value) (M : pm_M) : fr S (d) (105, 6, L, .ref q :: r) M = match pm_get M q with
  | some (.inr (c, fs)) => if c = 3 ∧ 4 < fs.length then fr S d (105, 9, L, fs.getD 4 pm_U :: r) M else none
  | _ => none := (fr_eq S (d) (105, 6, L, .ref q :: r) M).trans (x_ogf _ _ 3 4 105 9 L r q M)
theorem f105_9 (S : pm_S) (d : Nat) (L : List Value) (x y : Int32) (r : List Value) (M : pm_M) : fr S (d) (105, 9, L, .int y :: .int x :: r) M = if y ≤ x then fr S d (105, 16, L, r) M else fr S d (105, 12, L, r) M := (fr_eq S (d) (105, 9, L, .int y :: .int x :: r) M).trans (x_oc2ge _ _ 105 12 16 L r x y M)
theorem f105_12 (S : pm_S) (d : Nat) (L : List Value) (st : List Value) (M : pm_M) : fr S (d) (105, 12, L, st) M = fr S d (105, 13, L, .int 1 :: st) M := (fr_eq S (d) (105, 12, L, st) M).trans (x_ocs _ _ (.int 1) 105 13 L st M)
theorem f105_13 (S : pm_S) (d : Nat) (L : List Value) (st : List Value) (M : pm_M) : fr S (d) (105, 13, L, st) M = fr S d (105, 17, L, st) M := (fr_eq S (d) (105, 13, L, st) M).trans (x_ogo _ _ 105 17 L st M)
theorem f105_16 (S : pm_S) (d : Nat) (L : List Value) (st : List Value) (M : pm_M) : fr S (d) (105, 16, L, st) M = fr S d (105, 17, L, .int 0 :: st) M := (fr_eq S (d) (105, 16, L, st) M).trans (x_ocs _ _ (.int 0) 105 17 L st M)
theorem f105_17 (S : pm_S) (d : Nat) (L : List Value) (v : Value) (M : pm_M) : fr S (d) (105, 17, L, [v]) M = if pm_fit 3 v = true then some (.inl (some v), M) else none := (fr_eq S (d) (105, 17, L, [v]) M).trans (x_ort _ _ 3 v M)
theorem f106_0 (S : pm_S) (d : Nat) (L : List Value) (st : List Value) (M : pm_M) : fr S (d) (106, 0, L, st) M = if pm_ty (L.getD 1 pm_U) = 0 then fr S d (106, 1, L, L.getD 1 pm_U :: st) M else none := (fr_eq S (d) (106, 0, L, st) M).trans (x_old _ _ 0 1 106 1 L st M)
theorem f106_1 (S : pm_S) (d : Nat) (L : List Value) (x : Int32) (r : List Value) (M : pm_M) : fr S (d) (106, 1, L, .int x :: r) M = if x < 0 then fr S d (106, 16, L, r) M else fr S d (106, 4, L, r) M := (fr_eq S (d) (106, 1, L, .int x :: r) M).trans (x_oc1lt _ _ 106 4 16 L r x M)
theorem f106_4 (S : pm_S) (d : Nat) (L : List Value) (st : List Value) (M : pm_M) : fr S (d) (106, 4, L, st) M = if pm_ty (L.getD 1 pm_U) = 0 then fr S d (106, 5, L, L.getD 1 pm_U :: st) M else none := (fr_eq S (d) (106, 4, L, st) M).trans (x_old _ _ 0 1 106 5 L st M)
theorem f106_5 (S : pm_S) (d : Nat) (L : List Value) (st : List Value) (M : pm_M) : fr S (d) (106, 5, L, st) M = if pm_ty (L.getD 0 pm_U) = 2 then fr S d (106, 6, L, L.getD 0 pm_U :: st) M else none := (fr_eq S (d) (106, 5, L, st) M).trans (x_old _ _ 2 0 106 6 L st M)
theorem f106_6 (S : pm_S) (d : Nat) (L : List Value) (q : Nat) (r : List Value) (M : pm_M) : fr S (d) (106, 6, L, .ref q :: r) M = match pm_get M q with
  | some (.inr (c, fs)) => if c = 3 ∧ 1 < fs.length then fr S d (106, 9, L, fs.getD 1 pm_U :: r) M else none
  | _ => none := (fr_eq S (d) (106, 6, L, .ref q :: r) M).trans (x_ogf _ _ 3 1 106 9 L r q M)
theorem f106_9 (S : pm_S) (d : Nat) (L : List Value) (x y : Int32) (r : List Value) (M : pm_M) : fr S (d) (106, 9, L, .int y :: .int x :: r) M = if y ≤ x then fr S d (106, 16, L, r) M else fr S d (106, 12, L, r) M := (fr_eq S (d) (106, 9, L, .int y :: .int x :: r) M).trans (x_oc2ge _ _ 106 12 16 L r x y M)
theorem f106_12 (S : pm_S) (d : Nat) (L : List Value) (st : List Value) (M : pm_M) : fr S (d) (106, 12, L, st) M = fr S d (106, 13, L, .int 1 :: st) M := (fr_eq S (d) (106, 12, L, st) M).trans (x_ocs _ _ (.int 1) 106 13 L st M)
theorem f106_13 (S : pm_S) (d : Nat) (L : List Value) (st : List Value) (M : pm_M) : fr S (d) (106, 13, L, st) M = fr S d (106, 17, L, st) M := (fr_eq S (d) (106, 13, L, st) M).trans (x_ogo _ _ 106 17 L st M)
theorem f106_16 (S : pm_S) (d : Nat) (L : List Value) (st : List Value) (M : pm_M) : fr S (d) (106, 16, L, st) M = fr S d (106, 17, L, .int 0 :: st) M := (fr_eq S (d) (106, 16, L, st) M).trans (x_ocs _ _ (.int 0) 106 17 L st M)
theorem f106_17 (S : pm_S) (d : Nat) (L : List Value) (v : Value) (M : pm_M) : fr S (d) (106, 17, L, [v]) M = if pm_fit 3 v = true then some (.inl (some v), M) else none := (fr_eq S (d) (106, 17, L, [v]) M).trans (x_ort _ _ 3 v M)
theorem f107_0 (S : pm_S) (d : Nat) (L : List Value) (st : List Value) (M : pm_M) : fr S (d) (107, 0, L, st) M = if pm_ty (L.getD 0 pm_U) = 2 then fr S d (107, 1, L, L.getD 0 pm_U :: st) M else none := (fr_eq S (d) (107, 0, L, st) M).trans (x_old _ _ 2 0 107 1 L st M)
theorem f107_1 (S : pm_S) (d : Nat) (L : List Value) (st : List Value) (M : pm_M) : fr S (d) (107, 1, L, st) M = if pm_ty (L.getD 1 pm_U) = 0 then fr S d (107, 2, L, L.getD 1 pm_U :: st) M else none := (fr_eq S (d) (107, 1, L, st) M).trans (x_old _ _ 0 1 107 2 L st M)
theorem f107_2 (S : pm_S) (d : Nat) (L : List Value) (st : List Value) (M : pm_M) : fr S (d + 1) (107, 2, L, st) M = match pm_ag 2 [] st with
  | some (a, r) => if r.length ≤ 4 ∧ (1 = 0 ∨ pm_obj M 3 (a.headD pm_U) = true) then (match fr S d (106, 0, a ++ [], []) M with
    | none => none
    | some (.inl v, M') => fr S (d + 1) (107, 5, L, v.toList ++ r) M'
    | some (.inr E, M') => some (.inr E, M')) else none
  | none => none := (fr_eq S (d + 1) (107, 2, L, st) M).trans (x_ocl _ _ 1 106 2 3 [] 107 5 L st M)
theorem f107_5 (S : pm_S) (d : Nat) (L : List Value) (x : Int32) (r : List Value) (M : pm_M) : fr S (d) (107, 5, L, .int x :: r) M = if x = 0 then fr S d (107, 40, L, r) M else fr S d (107, 8, L, r) M := (fr_eq S (d) (107, 5, L, .int x :: r) M).trans (x_oc1eq _ _ 107 8 40 L r x M)
theorem f107_8 (S : pm_S) (d : Nat) (L : List Value) (st : List Value) (M : pm_M) : fr S (d) (107, 8, L, st) M = if pm_ty (L.getD 2 pm_U) = 0 then fr S d (107, 9, L, L.getD 2 pm_U :: st) M else none := (fr_eq S (d) (107, 8, L, st) M).trans (x_old _ _ 0 2 107 9 L st M)
theorem f107_9 (S : pm_S) (d : Nat) (L : List Value) (st : List Value) (M : pm_M) : fr S (d) (107, 9, L, st) M = fr S d (107, 10, L, .int 0 :: st) M := (fr_eq S (d) (107, 9, L, st) M).trans (x_ocs _ _ (.int 0) 107 10 L st M)
theorem f107_10 (S : pm_S) (d : Nat) (L : List Value) (st : List Value) (M : pm_M) : fr S (d) (107, 10, L, st) M = if pm_ty (L.getD 0 pm_U) = 2 then fr S d (107, 11, L, L.getD 0 pm_U :: st) M else none := (fr_eq S (d) (107, 10, L, st) M).trans (x_old _ _ 2 0 107 11 L st M)
theorem f107_11 (S : pm_S) (d : Nat) (L : List Value) (q : Nat) (r : List Value) (M : pm_M) : fr S (d) (107, 11, L, .ref q :: r) M = match pm_get M q with
  | some (.inr (c, fs)) => if c = 3 ∧ 2 < fs.length then fr S d (107, 14, L, fs.getD 2 pm_U :: r) M else none
  | _ => none := (fr_eq S (d) (107, 11, L, .ref q :: r) M).trans (x_ogf _ _ 3 2 107 14 L r q M)
theorem f107_14 (S : pm_S) (d : Nat) (L : List Value) (st : List Value) (M : pm_M) : fr S (d) (107, 14, L, st) M = fr S d (107, 15, L, .int 1 :: st) M := (fr_eq S (d) (107, 14, L, st) M).trans (x_ocs _ _ (.int 1) 107 15 L st M)
theorem f107_15 (S : pm_S) (d : Nat) (L : List Value) (x y : Int32) (r : List Value) (M : pm_M) : fr S (d) (107, 15, L, .int y :: .int x :: r) M = fr S d (107, 16, L, .int (x - y) :: r) M := (fr_eq S (d) (107, 15, L, .int y :: .int x :: r) M).trans (x_oii _ _ (fun x y => x - y) 107 16 L r x y M)
theorem f107_16 (S : pm_S) (d : Nat) (L : List Value) (st : List Value) (M : pm_M) : fr S (d + 1) (107, 16, L, st) M = match pm_ag 3 [] st with
  | some (a, r) => if r.length ≤ 4 ∧ (0 = 0 ∨ pm_obj M 3 (a.headD pm_U) = true) then (match fr S d (104, 0, a ++ [], []) M with
    | none => none
    | some (.inl v, M') => fr S (d + 1) (107, 19, L, v.toList ++ r) M'
    | some (.inr E, M') => some (.inr E, M')) else none
  | none => none := (fr_eq S (d + 1) (107, 16, L, st) M).trans (x_ocl _ _ 0 104 3 3 [] 107 19 L st M)
theorem f107_19 (S : pm_S) (d : Nat) (L : List Value) (x : Int32) (r : List Value) (M : pm_M) : fr S (d) (107, 19, L, .int x :: r) M = if x = 0 then fr S d (107, 40, L, r) M else fr S d (107, 22, L, r) M := (fr_eq S (d) (107, 19, L, .int x :: r) M).trans (x_oc1eq _ _ 107 22 40 L r x M)
theorem f107_22 (S : pm_S) (d : Nat) (L : List Value) (st : List Value) (M : pm_M) : fr S (d) (107, 22, L, st) M = if pm_ty (L.getD 3 pm_U) = 0 then fr S d (107, 23, L, L.getD 3 pm_U :: st) M else none := (fr_eq S (d) (107, 22, L, st) M).trans (x_old _ _ 0 3 107 23 L st M)
theorem f107_23 (S : pm_S) (d : Nat) (L : List Value) (st : List Value) (M : pm_M) : fr S (d) (107, 23, L, st) M = fr S d (107, 24, L, .int 0 :: st) M := (fr_eq S (d) (107, 23, L, st) M).trans (x_ocs _ _ (.int 0) 107 24 L st M)
theorem f107_24 (S : pm_S) (d : Nat) (L : List Value) (st : List Value) (M : pm_M) : fr S (d) (107, 24, L, st) M = if pm_ty (L.getD 0 pm_U) = 2 then fr S d (107, 25, L, L.getD 0 pm_U :: st) M else none := (fr_eq S (d) (107, 24, L, st) M).trans (x_old _ _ 2 0 107 25 L st M)
theorem f107_25 (S : pm_S) (d : Nat) (L : List Value) (q : Nat) (r : List Value) (M : pm_M) : fr S (d) (107, 25, L, .ref q :: r) M = match pm_get M q with
  | some (.inr (c, fs)) => if c = 3 ∧ 3 < fs.length then fr S d (107, 28, L, fs.getD 3 pm_U :: r) M else none
  | _ => none := (fr_eq S (d) (107, 25, L, .ref q :: r) M).trans (x_ogf _ _ 3 3 107 28 L r q M)
theorem f107_28 (S : pm_S) (d : Nat) (L : List Value) (st : List Value) (M : pm_M) : fr S (d) (107, 28, L, st) M = fr S d (107, 29, L, .int 1 :: st) M := (fr_eq S (d) (107, 28, L, st) M).trans (x_ocs _ _ (.int 1) 107 29 L st M)
theorem f107_29 (S : pm_S) (d : Nat) (L : List Value) (x y : Int32) (r : List Value) (M : pm_M) : fr S (d) (107, 29, L, .int y :: .int x :: r) M = fr S d (107, 30, L, .int (x - y) :: r) M := (fr_eq S (d) (107, 29, L, .int y :: .int x :: r) M).trans (x_oii _ _ (fun x y => x - y) 107 30 L r x y M)
theorem f107_30 (S : pm_S) (d : Nat) (L : List Value) (st : List Value) (M : pm_M) : fr S (d + 1) (107, 30, L, st) M = match pm_ag 3 [] st with
  | some (a, r) => if r.length ≤ 4 ∧ (0 = 0 ∨ pm_obj M 3 (a.headD pm_U) = true) then (match fr S d (104, 0, a ++ [], []) M with
    | none => none
    | some (.inl v, M') => fr S (d + 1) (107, 33, L, v.toList ++ r) M'
    | some (.inr E, M') => some (.inr E, M')) else none
  | none => none := (fr_eq S (d + 1) (107, 30, L, st) M).trans (x_ocl _ _ 0 104 3 3 [] 107 33 L st M)
theorem f107_33 (S : pm_S) (d : Nat) (L : List Value) (x : Int32) (r : List Value) (M : pm_M) : fr S (d) (107, 33, L, .int x :: r) M = if x = 0 then fr S d (107, 40, L, r) M else fr S d (107, 36, L, r) M := (fr_eq S (d) (107, 33, L, .int x :: r) M).trans (x_oc1eq _ _ 107 36 40 L r x M)
theorem f107_36 (S : pm_S) (d : Nat) (L : List Value) (st : List Value) (M : pm_M) : fr S (d) (107, 36, L, st) M = fr S d (107, 37, L, .int 1 :: st) M := (fr_eq S (d) (107, 36, L, st) M).trans (x_ocs _ _ (.int 1) 107 37 L st M)
theorem f107_37 (S : pm_S) (d : Nat) (L : List Value) (st : List Value) (M : pm_M) : fr S (d) (107, 37, L, st) M = fr S d (107, 41, L, st) M := (fr_eq S (d) (107, 37, L, st) M).trans (x_ogo _ _ 107 41 L st M)
theorem f107_40 (S : pm_S) (d : Nat) (L : List Value) (st : List Value) (M : pm_M) : fr S (d) (107, 40, L, st) M = fr S d (107, 41, L, .int 0 :: st) M := (fr_eq S (d) (107, 40, L, st) M).trans (x_ocs _ _ (.int 0) 107 41 L st M)
theorem f107_41 (S : pm_S) (d : Nat) (L : List Value) (v : Value) (M : pm_M) : fr S (d) (107, 41, L, [v]) M = if pm_fit 3 v = true then some (.inl (some v), M) else none := (fr_eq S (d) (107, 41, L, [v]) M).trans (x_ort _ _ 3 v M)
theorem f108_0 (S : pm_S) (d : Nat) (L : List Value) (st : List Value) (M : pm_M) : fr S (d) (108, 0, L, st) M = fr S d (108, 2, L, .int 20 :: st) M := (fr_eq S (d) (108, 0, L, st) M).trans (x_ocs _ _ (.int 20) 108 2 L st M)
theorem f108_2 (S : pm_S) (d : Nat) (L : List Value) (st : List Value) (M : pm_M) : fr S (d) (108, 2, L, st) M = if pm_ty (L.getD 0 pm_U) = 0 then fr S d (108, 3, L, L.getD 0 pm_U :: st) M else none := (fr_eq S (d) (108, 2, L, st) M).trans (x_old _ _ 0 0 108 3 L st M)
theorem f108_3 (S : pm_S) (d : Nat) (L : List Value) (x y : Int32) (r : List Value) (M : pm_M) : fr S (d) (108, 3, L, .int y :: .int x :: r) M = fr S d (108, 4, L, .int (x * y) :: r) M := (fr_eq S (d) (108, 3, L, .int y :: .int x :: r) M).trans (x_oii _ _ (fun x y => x * y) 108 4 L r x y M)
theorem f108_4 (S : pm_S) (d : Nat) (L : List Value) (st : List Value) (M : pm_M) : fr S (d) (108, 4, L, st) M = fr S d (108, 5, L, .int 5 :: st) M := (fr_eq S (d) (108, 4, L, st) M).trans (x_ocs _ _ (.int 5) 108 5 L st M)
theorem f108_5 (S : pm_S) (d : Nat) (L : List Value) (st : List Value) (M : pm_M) : fr S (d) (108, 5, L, st) M = if pm_ty (L.getD 1 pm_U) = 0 then fr S d (108, 6, L, L.getD 1 pm_U :: st) M else none := (fr_eq S (d) (108, 5, L, st) M).trans (x_old _ _ 0 1 108 6 L st M)
theorem f108_6 (S : pm_S) (d : Nat) (L : List Value) (x y : Int32) (r : List Value) (M : pm_M) : fr S (d) (108, 6, L, .int y :: .int x :: r) M = fr S d (108, 7, L, .int (x * y) :: r) M := (fr_eq S (d) (108, 6, L, .int y :: .int x :: r) M).trans (x_oii _ _ (fun x y => x * y) 108 7 L r x y M)
theorem f108_7 (S : pm_S) (d : Nat) (L : List Value) (x y : Int32) (r : List Value) (M : pm_M) : fr S (d) (108, 7, L, .int y :: .int x :: r) M = fr S d (108, 8, L, .int (x + y) :: r) M := (fr_eq S (d) (108, 7, L, .int y :: .int x :: r) M).trans (x_oii _ _ (fun x y => x + y) 108 8 L r x y M)
theorem f108_8 (S : pm_S) (d : Nat) (L : List Value) (st : List Value) (M : pm_M) : fr S (d) (108, 8, L, st) M = if pm_ty (L.getD 2 pm_U) = 0 then fr S d (108, 9, L, L.getD 2 pm_U :: st) M else none := (fr_eq S (d) (108, 8, L, st) M).trans (x_old _ _ 0 2 108 9 L st M)
theorem f108_9 (S : pm_S) (d : Nat) (L : List Value) (x y : Int32) (r : List Value) (M : pm_M) : fr S (d) (108, 9, L, .int y :: .int x :: r) M = fr S d (108, 10, L, .int (x + y) :: r) M := (fr_eq S (d) (108, 9, L, .int y :: .int x :: r) M).trans (x_oii _ _ (fun x y => x + y) 108 10 L r x y M)
theorem f108_10 (S : pm_S) (d : Nat) (L : List Value) (v : Value) (M : pm_M) : fr S (d) (108, 10, L, [v]) M = if pm_fit 0 v = true then some (.inl (some v), M) else none := (fr_eq S (d) (108, 10, L, [v]) M).trans (x_ort _ _ 0 v M)
theorem f109_0 (S : pm_S) (d : Nat) (L : List Value) (st : List Value) (M : pm_M) : fr S (d) (109, 0, L, st) M = if pm_ty (L.getD 1 pm_U) = 0 then fr S d (109, 1, L, L.getD 1 pm_U :: st) M else none := (fr_eq S (d) (109, 0, L, st) M).trans (x_old _ _ 0 1 109 1 L st M)
theorem f109_1 (S : pm_S) (d : Nat) (L : List Value) (st : List Value) (M : pm_M) : fr S (d) (109, 1, L, st) M = fr S d (109, 3, L, .int 20 :: st) M := (fr_eq S (d) (109, 1, L, st) M).trans (x_ocs _ _ (.int 20) 109 3 L st M)
theorem f109_3 (S : pm_S) (d : Nat) (L : List Value) (x y : Int32) (r : List Value) (M : pm_M) : fr S (d) (109, 3, L, .int y :: .int x :: r) M = if x = y then fr S d (109, 12, L, r) M else fr S d (109, 6, L, r) M := (fr_eq S (d) (109, 3, L, .int y :: .int x :: r) M).trans (x_oc2eq _ _ 109 6 12 L r x y M)
theorem f109_6 (S : pm_S) (d : Nat) (L : List Value) (st : List Value) (M : pm_M) : fr S (d) (109, 6, L, st) M = if pm_ty (L.getD 1 pm_U) = 0 then fr S d (109, 7, L, L.getD 1 pm_U :: st) M else none := (fr_eq S (d) (109, 6, L, st) M).trans (x_old _ _ 0 1 109 7 L st M)
theorem f109_7 (S : pm_S) (d : Nat) (L : List Value) (st : List Value) (M : pm_M) : fr S (d) (109, 7, L, st) M = fr S d (109, 9, L, .int 40 :: st) M := (fr_eq S (d) (109, 7, L, st) M).trans (x_ocs _ _ (.int 40) 109 9 L st M)
theorem f109_9 (S : pm_S) (d : Nat) (L : List Value) (x y : Int32) (r : List Value) (M : pm_M) : fr S (d) (109, 9, L, .int y :: .int x :: r) M = if ¬ x = y then fr S d (109, 42, L, r) M else fr S d (109, 12, L, r) M := (fr_eq S (d) (109, 9, L, .int y :: .int x :: r) M).trans (x_oc2ne _ _ 109 12 42 L r x y M)
theorem f109_12 (S : pm_S) (d : Nat) (L : List Value) (st : List Value) (M : pm_M) : fr S (d) (109, 12, L, st) M = if pm_ty (L.getD 2 pm_U) = 0 then fr S d (109, 13, L, L.getD 2 pm_U :: st) M else none := (fr_eq S (d) (109, 12, L, st) M).trans (x_old _ _ 0 2 109 13 L st M)
theorem f109_13 (S : pm_S) (d : Nat) (L : List Value) (st : List Value) (M : pm_M) : fr S (d) (109, 13, L, st) M = fr S d (109, 14, L, .int 1 :: st) M := (fr_eq S (d) (109, 13, L, st) M).trans (x_ocs _ _ (.int 1) 109 14 L st M)
theorem f109_14 (S : pm_S) (d : Nat) (L : List Value) (st : List Value) (M : pm_M) : fr S (d) (109, 14, L, st) M = fr S d (109, 16, L, .int 40 :: st) M := (fr_eq S (d) (109, 14, L, st) M).trans (x_ocs _ _ (.int 40) 109 16 L st M)
theorem f109_16 (S : pm_S) (d : Nat) (L : List Value) (st : List Value) (M : pm_M) : fr S (d + 1) (109, 16, L, st) M = match pm_ag 3 [] st with
  | some (a, r) => if r.length ≤ 4 ∧ (0 = 0 ∨ pm_obj M 3 (a.headD pm_U) = true) then (match fr S d (104, 0, a ++ [], []) M with
    | none => none
    | some (.inl v, M') => fr S (d + 1) (109, 19, L, v.toList ++ r) M'
    | some (.inr E, M') => some (.inr E, M')) else none
  | none => none := (fr_eq S (d + 1) (109, 16, L, st) M).trans (x_ocl _ _ 0 104 3 3 [] 109 19 L st M)
theorem f109_19 (S : pm_S) (d : Nat) (L : List Value) (x : Int32) (r : List Value) (M : pm_M) : fr S (d) (109, 19, L, .int x :: r) M = if x = 0 then fr S d (109, 42, L, r) M else fr S d (109, 22, L, r) M := (fr_eq S (d) (109, 19, L, .int x :: r) M).trans (x_oc1eq _ _ 109 22 42 L r x M)
theorem f109_22 (S : pm_S) (d : Nat) (L : List Value) (st : List Value) (M : pm_M) : fr S (d) (109, 22, L, st) M = if pm_ty (L.getD 3 pm_U) = 0 then fr S d (109, 23, L, L.getD 3 pm_U :: st) M else none := (fr_eq S (d) (109, 22, L, st) M).trans (x_old _ _ 0 3 109 23 L st M)
theorem f109_23 (S : pm_S) (d : Nat) (L : List Value) (st : List Value) (M : pm_M) : fr S (d) (109, 23, L, st) M = fr S d (109, 24, L, .int 1 :: st) M := (fr_eq S (d) (109, 23, L, st) M).trans (x_ocs _ _ (.int 1) 109 24 L st M)
theorem f109_24 (S : pm_S) (d : Nat) (L : List Value) (st : List Value) (M : pm_M) : fr S (d) (109, 24, L, st) M = fr S d (109, 26, L, .int 6 :: st) M := (fr_eq S (d) (109, 24, L, st) M).trans (x_ocs _ _ (.int 6) 109 26 L st M)
theorem f109_26 (S : pm_S) (d : Nat) (L : List Value) (st : List Value) (M : pm_M) : fr S (d + 1) (109, 26, L, st) M = match pm_ag 3 [] st with
  | some (a, r) => if r.length ≤ 4 ∧ (0 = 0 ∨ pm_obj M 3 (a.headD pm_U) = true) then (match fr S d (104, 0, a ++ [], []) M with
    | none => none
    | some (.inl v, M') => fr S (d + 1) (109, 29, L, v.toList ++ r) M'
    | some (.inr E, M') => some (.inr E, M')) else none
  | none => none := (fr_eq S (d + 1) (109, 26, L, st) M).trans (x_ocl _ _ 0 104 3 3 [] 109 29 L st M)
theorem f109_29 (S : pm_S) (d : Nat) (L : List Value) (x : Int32) (r : List Value) (M : pm_M) : fr S (d) (109, 29, L, .int x :: r) M = if x = 0 then fr S d (109, 42, L, r) M else fr S d (109, 32, L, r) M := (fr_eq S (d) (109, 29, L, .int x :: r) M).trans (x_oc1eq _ _ 109 32 42 L r x M)
theorem f109_32 (S : pm_S) (d : Nat) (L : List Value) (st : List Value) (M : pm_M) : fr S (d) (109, 32, L, st) M = if pm_ty (L.getD 4 pm_U) = 0 then fr S d (109, 34, L, L.getD 4 pm_U :: st) M else none := (fr_eq S (d) (109, 32, L, st) M).trans (x_old _ _ 0 4 109 34 L st M)
theorem f109_34 (S : pm_S) (d : Nat) (L : List Value) (st : List Value) (M : pm_M) : fr S (d) (109, 34, L, st) M = fr S d (109, 35, L, .int 0 :: st) M := (fr_eq S (d) (109, 34, L, st) M).trans (x_ocs _ _ (.int 0) 109 35 L st M)
theorem f109_35 (S : pm_S) (d : Nat) (L : List Value) (st : List Value) (M : pm_M) : fr S (d) (109, 35, L, st) M = fr S d (109, 36, L, .int 2 :: st) M := (fr_eq S (d) (109, 35, L, st) M).trans (x_ocs _ _ (.int 2) 109 36 L st M)
theorem f109_36 (S : pm_S) (d : Nat) (L : List Value) (st : List Value) (M : pm_M) : fr S (d + 1) (109, 36, L, st) M = match pm_ag 3 [] st with
  | some (a, r) => if r.length ≤ 4 ∧ (0 = 0 ∨ pm_obj M 3 (a.headD pm_U) = true) then (match fr S d (104, 0, a ++ [], []) M with
    | none => none
    | some (.inl v, M') => fr S (d + 1) (109, 39, L, v.toList ++ r) M'
    | some (.inr E, M') => some (.inr E, M')) else none
  | none => none := (fr_eq S (d + 1) (109, 36, L, st) M).trans (x_ocl _ _ 0 104 3 3 [] 109 39 L st M)
theorem f109_39 (S : pm_S) (d : Nat) (L : List Value) (x : Int32) (r : List Value) (M : pm_M) : fr S (d) (109, 39, L, .int x :: r) M = if ¬ x = 0 then fr S d (109, 48, L, r) M else fr S d (109, 42, L, r) M := (fr_eq S (d) (109, 39, L, .int x :: r) M).trans (x_oc1ne _ _ 109 42 48 L r x M)
theorem f109_42 (S : pm_S) (d : Nat) (L : List Value) (st : List Value) (M : pm_M) : fr S (d) (109, 42, L, st) M = if pm_ty (L.getD 0 pm_U) = 2 then fr S d (109, 43, L, L.getD 0 pm_U :: st) M else none := (fr_eq S (d) (109, 42, L, st) M).trans (x_old _ _ 2 0 109 43 L st M)
theorem f109_43 (S : pm_S) (d : Nat) (L : List Value) (st : List Value) (M : pm_M) : fr S (d) (109, 43, L, st) M = fr S d (109, 44, L, .int 1 :: st) M := (fr_eq S (d) (109, 43, L, st) M).trans (x_ocs _ _ (.int 1) 109 44 L st M)
theorem f109_44 (S : pm_S) (d : Nat) (L : List Value) (st : List Value) (M : pm_M) : fr S (d + 1) (109, 44, L, st) M = match pm_ag 2 [] st with
  | some (a, r) => if r.length ≤ 4 ∧ (1 = 0 ∨ pm_obj M 3 (a.headD pm_U) = true) then (match fr S d (103, 0, a ++ [], []) M with
    | none => none
    | some (.inl v, M') => fr S (d + 1) (109, 47, L, v.toList ++ r) M'
    | some (.inr E, M') => some (.inr E, M')) else none
  | none => none := (fr_eq S (d + 1) (109, 44, L, st) M).trans (x_ocl _ _ 1 103 2 3 [] 109 47 L st M)
theorem f109_47 (S : pm_S) (d : Nat) (L : List Value) (v : Value) (M : pm_M) : fr S (d) (109, 47, L, [v]) M = if pm_fit 0 v = true then some (.inl (some v), M) else none := (fr_eq S (d) (109, 47, L, [v]) M).trans (x_ort _ _ 0 v M)
theorem f109_48 (S : pm_S) (d : Nat) (L : List Value) (st : List Value) (M : pm_M) : fr S (d) (109, 48, L, st) M = if pm_ty (L.getD 0 pm_U) = 2 then fr S d (109, 49, L, L.getD 0 pm_U :: st) M else none := (fr_eq S (d) (109, 48, L, st) M).trans (x_old _ _ 2 0 109 49 L st M)
theorem f109_49 (S : pm_S) (d : Nat) (L : List Value) (q : Nat) (r : List Value) (M : pm_M) : fr S (d) (109, 49, L, .ref q :: r) M = match pm_get M q with
  | some (.inr (c, fs)) => if c = 3 ∧ 4 < fs.length then fr S d (109, 52, L, fs.getD 4 pm_U :: r) M else none
  | _ => none := (fr_eq S (d) (109, 49, L, .ref q :: r) M).trans (x_ogf _ _ 3 4 109 52 L r q M)
theorem f109_52 (S : pm_S) (d : Nat) (L : List Value) (st : List Value) (M : pm_M) : fr S (d) (109, 52, L, st) M = fr S d (109, 54, L, .int 40 :: st) M := (fr_eq S (d) (109, 52, L, st) M).trans (x_ocs _ _ (.int 40) 109 54 L st M)
theorem f109_54 (S : pm_S) (d : Nat) (L : List Value) (x y : Int32) (r : List Value) (M : pm_M) : fr S (d) (109, 54, L, .int y :: .int x :: r) M = if ¬ x = y then fr S d (109, 63, L, r) M else fr S d (109, 57, L, r) M := (fr_eq S (d) (109, 54, L, .int y :: .int x :: r) M).trans (x_oc2ne _ _ 109 57 63 L r x y M)
theorem f109_57 (S : pm_S) (d : Nat) (L : List Value) (st : List Value) (M : pm_M) : fr S (d) (109, 57, L, st) M = if pm_ty (L.getD 0 pm_U) = 2 then fr S d (109, 58, L, L.getD 0 pm_U :: st) M else none := (fr_eq S (d) (109, 57, L, st) M).trans (x_old _ _ 2 0 109 58 L st M)
theorem f109_58 (S : pm_S) (d : Nat) (L : List Value) (st : List Value) (M : pm_M) : fr S (d) (109, 58, L, st) M = fr S d (109, 59, L, .int 2 :: st) M := (fr_eq S (d) (109, 58, L, st) M).trans (x_ocs _ _ (.int 2) 109 59 L st M)
theorem f109_59 (S : pm_S) (d : Nat) (L : List Value) (st : List Value) (M : pm_M) : fr S (d + 1) (109, 59, L, st) M = match pm_ag 2 [] st with
  | some (a, r) => if r.length ≤ 4 ∧ (1 = 0 ∨ pm_obj M 3 (a.headD pm_U) = true) then (match fr S d (103, 0, a ++ [], []) M with
    | none => none
    | some (.inl v, M') => fr S (d + 1) (109, 62, L, v.toList ++ r) M'
    | some (.inr E, M') => some (.inr E, M')) else none
  | none => none := (fr_eq S (d + 1) (109, 59, L, st) M).trans (x_ocl _ _ 1 103 2 3 [] 109 62 L st M)
theorem f109_62 (S : pm_S) (d : Nat) (L : List Value) (v : Value) (M : pm_M) : fr S (d) (109, 62, L, [v]) M = if pm_fit 0 v = true then some (.inl (some v), M) else none := (fr_eq S (d) (109, 62, L, [v]) M).trans (x_ort _ _ 0 v M)
theorem f109_63 (S : pm_S) (d : Nat) (L : List Value) (st : List Value) (M : pm_M) : fr S (d) (109, 63, L, st) M = if pm_ty (L.getD 0 pm_U) = 2 then fr S d (109, 64, L, L.getD 0 pm_U :: st) M else none := (fr_eq S (d) (109, 63, L, st) M).trans (x_old _ _ 2 0 109 64 L st M)
theorem f109_64 (S : pm_S) (d : Nat) (L : List Value) (st : List Value) (M : pm_M) : fr S (d) (109, 64, L, st) M = fr S d (109, 65, L, .int 0 :: st) M := (fr_eq S (d) (109, 64, L, st) M).trans (x_ocs _ _ (.int 0) 109 65 L st M)
theorem f109_65 (S : pm_S) (d : Nat) (L : List Value) (v : Value) (q : Nat) (r : List Value) (M : pm_M) : fr S (d) (109, 65, L, v :: .ref q :: r) M = match pm_get M q with
  | some (.inr (c, fs)) => if c = 3 ∧ 0 < fs.length ∧ pm_fit 0 v = true then fr S d (109, 68, L, r) (pm_set M q (.inr (c, fs.set 0 v))) else none
  | _ => none := (fr_eq S (d) (109, 65, L, v :: .ref q :: r) M).trans (x_opf _ _ 3 0 0 109 68 L r q v M)
theorem f109_68 (S : pm_S) (d : Nat) (L : List Value) (st : List Value) (M : pm_M) : fr S (d) (109, 68, L, st) M = if pm_ty (L.getD 0 pm_U) = 2 then fr S d (109, 69, L, L.getD 0 pm_U :: st) M else none := (fr_eq S (d) (109, 68, L, st) M).trans (x_old _ _ 2 0 109 69 L st M)
theorem f109_69 (S : pm_S) (d : Nat) (L : List Value) (q : Nat) (r : List Value) (M : pm_M) : fr S (d) (109, 69, L, .ref q :: r) M = match pm_get M q with
  | some (.inr (c, fs)) => if c = 3 ∧ 5 < fs.length then fr S d (109, 72, L, fs.getD 5 pm_U :: r) M else none
  | _ => none := (fr_eq S (d) (109, 69, L, .ref q :: r) M).trans (x_ogf _ _ 3 5 109 72 L r q M)
theorem f109_72 (S : pm_S) (d : Nat) (L : List Value) (st : List Value) (M : pm_M) : fr S (d) (109, 72, L, st) M = if pm_ty (L.getD 0 pm_U) = 2 then fr S d (109, 73, L, L.getD 0 pm_U :: st) M else none := (fr_eq S (d) (109, 72, L, st) M).trans (x_old _ _ 2 0 109 73 L st M)
theorem f109_73 (S : pm_S) (d : Nat) (L : List Value) (q : Nat) (r : List Value) (M : pm_M) : fr S (d) (109, 73, L, .ref q :: r) M = match pm_get M q with
  | some (.inr (c, fs)) => if c = 3 ∧ 4 < fs.length then fr S d (109, 76, L, fs.getD 4 pm_U :: r) M else none
  | _ => none := (fr_eq S (d) (109, 73, L, .ref q :: r) M).trans (x_ogf _ _ 3 4 109 76 L r q M)
theorem f109_76 (S : pm_S) (d : Nat) (L : List Value) (st : List Value) (M : pm_M) : fr S (d) (109, 76, L, st) M = if pm_ty (L.getD 1 pm_U) = 0 then fr S d (109, 77, L, L.getD 1 pm_U :: st) M else none := (fr_eq S (d) (109, 76, L, st) M).trans (x_old _ _ 0 1 109 77 L st M)
theorem f109_77 (S : pm_S) (d : Nat) (L : List Value) (v : Value) (i : Int32) (q : Nat) (r : List Value) (M : pm_M) : fr S (d) (109, 77, L, v :: .int i :: .ref q :: r) M = if pm_sq M 9 v = true then (match (pm_get M q).bind (fun c => pm_ev 0 0 c i v) with
  | some c => fr S d (109, 78, L, r) (pm_set M q c)
  | none => none) else none := (fr_eq S (d) (109, 77, L, v :: .int i :: .ref q :: r) M).trans (x_oas _ _ 0 0 9 109 78 L r v i q M)
theorem f109_78 (S : pm_S) (d : Nat) (L : List Value) (st : List Value) (M : pm_M) : fr S (d) (109, 78, L, st) M = if pm_ty (L.getD 0 pm_U) = 2 then fr S d (109, 79, L, L.getD 0 pm_U :: st) M else none := (fr_eq S (d) (109, 78, L, st) M).trans (x_old _ _ 2 0 109 79 L st M)
theorem f109_79 (S : pm_S) (d : Nat) (L : List Value) (q : Nat) (r : List Value) (M : pm_M) : fr S (d) (109, 79, L, .ref q :: r) M = match pm_get M q with
  | some (.inr (c, fs)) => if c = 3 ∧ 6 < fs.length then fr S d (109, 82, L, fs.getD 6 pm_U :: r) M else none
  | _ => none := (fr_eq S (d) (109, 79, L, .ref q :: r) M).trans (x_ogf _ _ 3 6 109 82 L r q M)
theorem f109_82 (S : pm_S) (d : Nat) (L : List Value) (st : List Value) (M : pm_M) : fr S (d) (109, 82, L, st) M = if pm_ty (L.getD 0 pm_U) = 2 then fr S d (109, 83, L, L.getD 0 pm_U :: st) M else none := (fr_eq S (d) (109, 82, L, st) M).trans (x_old _ _ 2 0 109 83 L st M)
theorem f109_83 (S : pm_S) (d : Nat) (L : List Value) (q : Nat) (r : List Value) (M : pm_M) : fr S (d) (109, 83, L, .ref q :: r) M = match pm_get M q with
  | some (.inr (c, fs)) => if c = 3 ∧ 4 < fs.length then fr S d (109, 86, L, fs.getD 4 pm_U :: r) M else none
  | _ => none := (fr_eq S (d) (109, 83, L, .ref q :: r) M).trans (x_ogf _ _ 3 4 109 86 L r q M)
theorem f109_86 (S : pm_S) (d : Nat) (L : List Value) (st : List Value) (M : pm_M) : fr S (d) (109, 86, L, st) M = if pm_ty (L.getD 2 pm_U) = 0 then fr S d (109, 87, L, L.getD 2 pm_U :: st) M else none := (fr_eq S (d) (109, 86, L, st) M).trans (x_old _ _ 0 2 109 87 L st M)
theorem f109_87 (S : pm_S) (d : Nat) (L : List Value) (v : Value) (i : Int32) (q : Nat) (r : List Value) (M : pm_M) : fr S (d) (109, 87, L, v :: .int i :: .ref q :: r) M = if pm_sq M 9 v = true then (match (pm_get M q).bind (fun c => pm_ev 0 0 c i v) with
  | some c => fr S d (109, 88, L, r) (pm_set M q c)
  | none => none) else none := (fr_eq S (d) (109, 87, L, v :: .int i :: .ref q :: r) M).trans (x_oas _ _ 0 0 9 109 88 L r v i q M)
theorem f109_88 (S : pm_S) (d : Nat) (L : List Value) (st : List Value) (M : pm_M) : fr S (d) (109, 88, L, st) M = if pm_ty (L.getD 0 pm_U) = 2 then fr S d (109, 89, L, L.getD 0 pm_U :: st) M else none := (fr_eq S (d) (109, 88, L, st) M).trans (x_old _ _ 2 0 109 89 L st M)
theorem f109_89 (S : pm_S) (d : Nat) (L : List Value) (q : Nat) (r : List Value) (M : pm_M) : fr S (d) (109, 89, L, .ref q :: r) M = match pm_get M q with
  | some (.inr (c, fs)) => if c = 3 ∧ 7 < fs.length then fr S d (109, 92, L, fs.getD 7 pm_U :: r) M else none
  | _ => none := (fr_eq S (d) (109, 89, L, .ref q :: r) M).trans (x_ogf _ _ 3 7 109 92 L r q M)
theorem f109_92 (S : pm_S) (d : Nat) (L : List Value) (st : List Value) (M : pm_M) : fr S (d) (109, 92, L, st) M = if pm_ty (L.getD 0 pm_U) = 2 then fr S d (109, 93, L, L.getD 0 pm_U :: st) M else none := (fr_eq S (d) (109, 92, L, st) M).trans (x_old _ _ 2 0 109 93 L st M)
theorem f109_93 (S : pm_S) (d : Nat) (L : List Value) (q : Nat) (r : List Value) (M : pm_M) : fr S (d) (109, 93, L, .ref q :: r) M = match pm_get M q with
  | some (.inr (c, fs)) => if c = 3 ∧ 4 < fs.length then fr S d (109, 96, L, fs.getD 4 pm_U :: r) M else none
  | _ => none := (fr_eq S (d) (109, 93, L, .ref q :: r) M).trans (x_ogf _ _ 3 4 109 96 L r q M)
theorem f109_96 (S : pm_S) (d : Nat) (L : List Value) (st : List Value) (M : pm_M) : fr S (d) (109, 96, L, st) M = if pm_ty (L.getD 3 pm_U) = 0 then fr S d (109, 97, L, L.getD 3 pm_U :: st) M else none := (fr_eq S (d) (109, 96, L, st) M).trans (x_old _ _ 0 3 109 97 L st M)
theorem f109_97 (S : pm_S) (d : Nat) (L : List Value) (v : Value) (i : Int32) (q : Nat) (r : List Value) (M : pm_M) : fr S (d) (109, 97, L, v :: .int i :: .ref q :: r) M = if pm_sq M 9 v = true then (match (pm_get M q).bind (fun c => pm_ev 0 0 c i v) with
  | some c => fr S d (109, 98, L, r) (pm_set M q c)
  | none => none) else none := (fr_eq S (d) (109, 97, L, v :: .int i :: .ref q :: r) M).trans (x_oas _ _ 0 0 9 109 98 L r v i q M)
theorem f109_98 (S : pm_S) (d : Nat) (L : List Value) (st : List Value) (M : pm_M) : fr S (d) (109, 98, L, st) M = if pm_ty (L.getD 0 pm_U) = 2 then fr S d (109, 99, L, L.getD 0 pm_U :: st) M else none := (fr_eq S (d) (109, 98, L, st) M).trans (x_old _ _ 2 0 109 99 L st M)
theorem f109_99 (S : pm_S) (d : Nat) (L : List Value) (q : Nat) (r : List Value) (M : pm_M) : fr S (d) (109, 99, L, .ref q :: r) M = match pm_get M q with
  | some (.inr (c, fs)) => if c = 3 ∧ 8 < fs.length then fr S d (109, 102, L, fs.getD 8 pm_U :: r) M else none
  | _ => none := (fr_eq S (d) (109, 99, L, .ref q :: r) M).trans (x_ogf _ _ 3 8 109 102 L r q M)
theorem f109_102 (S : pm_S) (d : Nat) (L : List Value) (st : List Value) (M : pm_M) : fr S (d) (109, 102, L, st) M = if pm_ty (L.getD 0 pm_U) = 2 then fr S d (109, 103, L, L.getD 0 pm_U :: st) M else none := (fr_eq S (d) (109, 102, L, st) M).trans (x_old _ _ 2 0 109 103 L st M)
theorem f109_103 (S : pm_S) (d : Nat) (L : List Value) (q : Nat) (r : List Value) (M : pm_M) : fr S (d) (109, 103, L, .ref q :: r) M = match pm_get M q with
  | some (.inr (c, fs)) => if c = 3 ∧ 4 < fs.length then fr S d (109, 106, L, fs.getD 4 pm_U :: r) M else none
  | _ => none := (fr_eq S (d) (109, 103, L, .ref q :: r) M).trans (x_ogf _ _ 3 4 109 106 L r q M)
theorem f109_106 (S : pm_S) (d : Nat) (L : List Value) (st : List Value) (M : pm_M) : fr S (d) (109, 106, L, st) M = if pm_ty (L.getD 4 pm_U) = 0 then fr S d (109, 108, L, L.getD 4 pm_U :: st) M else none := (fr_eq S (d) (109, 106, L, st) M).trans (x_old _ _ 0 4 109 108 L st M)
theorem f109_108 (S : pm_S) (d : Nat) (L : List Value) (v : Value) (i : Int32) (q : Nat) (r : List Value) (M : pm_M) : fr S (d) (109, 108, L, v :: .int i :: .ref q :: r) M = if pm_sq M 9 v = true then (match (pm_get M q).bind (fun c => pm_ev 0 0 c i v) with
  | some c => fr S d (109, 109, L, r) (pm_set M q c)
  | none => none) else none := (fr_eq S (d) (109, 108, L, v :: .int i :: .ref q :: r) M).trans (x_oas _ _ 0 0 9 109 109 L r v i q M)
theorem f109_109 (S : pm_S) (d : Nat) (L : List Value) (st : List Value) (M : pm_M) : fr S (d) (109, 109, L, st) M = if pm_ty (L.getD 0 pm_U) = 2 then fr S d (109, 110, L, L.getD 0 pm_U :: st) M else none := (fr_eq S (d) (109, 109, L, st) M).trans (x_old _ _ 2 0 109 110 L st M)
theorem f109_110 (S : pm_S) (d : Nat) (L : List Value) (v : Value) (r : List Value) (M : pm_M) : fr S (d) (109, 110, L, v :: r) M = if ¬ pm_ty v = 1 ∧ ¬ pm_ty v = 9 then fr S d (109, 111, L, v :: v :: r) M else none := (fr_eq S (d) (109, 110, L, v :: r) M).trans (x_odup _ _ 109 111 L r v M)
theorem f109_111 (S : pm_S) (d : Nat) (L : List Value) (q : Nat) (r : List Value) (M : pm_M) : fr S (d) (109, 111, L, .ref q :: r) M = match pm_get M q with
  | some (.inr (c, fs)) => if c = 3 ∧ 4 < fs.length then fr S d (109, 114, L, fs.getD 4 pm_U :: r) M else none
  | _ => none := (fr_eq S (d) (109, 111, L, .ref q :: r) M).trans (x_ogf _ _ 3 4 109 114 L r q M)
theorem f109_114 (S : pm_S) (d : Nat) (L : List Value) (st : List Value) (M : pm_M) : fr S (d) (109, 114, L, st) M = fr S d (109, 115, L, .int 1 :: st) M := (fr_eq S (d) (109, 114, L, st) M).trans (x_ocs _ _ (.int 1) 109 115 L st M)
theorem f109_115 (S : pm_S) (d : Nat) (L : List Value) (x y : Int32) (r : List Value) (M : pm_M) : fr S (d) (109, 115, L, .int y :: .int x :: r) M = fr S d (109, 116, L, .int (x + y) :: r) M := (fr_eq S (d) (109, 115, L, .int y :: .int x :: r) M).trans (x_oii _ _ (fun x y => x + y) 109 116 L r x y M)
theorem f109_116 (S : pm_S) (d : Nat) (L : List Value) (v : Value) (q : Nat) (r : List Value) (M : pm_M) : fr S (d) (109, 116, L, v :: .ref q :: r) M = match pm_get M q with
  | some (.inr (c, fs)) => if c = 3 ∧ 4 < fs.length ∧ pm_fit 0 v = true then fr S d (109, 119, L, r) (pm_set M q (.inr (c, fs.set 4 v))) else none
  | _ => none := (fr_eq S (d) (109, 116, L, v :: .ref q :: r) M).trans (x_opf _ _ 3 4 0 109 119 L r q v M)
theorem f109_119 (S : pm_S) (d : Nat) (L : List Value) (st : List Value) (M : pm_M) : fr S (d) (109, 119, L, st) M = if pm_ty (L.getD 0 pm_U) = 2 then fr S d (109, 120, L, L.getD 0 pm_U :: st) M else none := (fr_eq S (d) (109, 119, L, st) M).trans (x_old _ _ 2 0 109 120 L st M)
theorem f109_120 (S : pm_S) (d : Nat) (L : List Value) (q : Nat) (r : List Value) (M : pm_M) : fr S (d) (109, 120, L, .ref q :: r) M = match pm_get M q with
  | some (.inr (c, fs)) => if c = 3 ∧ 4 < fs.length then fr S d (109, 123, L, fs.getD 4 pm_U :: r) M else none
  | _ => none := (fr_eq S (d) (109, 120, L, .ref q :: r) M).trans (x_ogf _ _ 3 4 109 123 L r q M)
theorem f109_123 (S : pm_S) (d : Nat) (L : List Value) (st : List Value) (M : pm_M) : fr S (d) (109, 123, L, st) M = fr S d (109, 124, L, .int 1 :: st) M := (fr_eq S (d) (109, 123, L, st) M).trans (x_ocs _ _ (.int 1) 109 124 L st M)
theorem f109_124 (S : pm_S) (d : Nat) (L : List Value) (x y : Int32) (r : List Value) (M : pm_M) : fr S (d) (109, 124, L, .int y :: .int x :: r) M = fr S d (109, 125, L, .int (x - y) :: r) M := (fr_eq S (d) (109, 124, L, .int y :: .int x :: r) M).trans (x_oii _ _ (fun x y => x - y) 109 125 L r x y M)
theorem f109_125 (S : pm_S) (d : Nat) (L : List Value) (v : Value) (M : pm_M) : fr S (d) (109, 125, L, [v]) M = if pm_fit 0 v = true then some (.inl (some v), M) else none := (fr_eq S (d) (109, 125, L, [v]) M).trans (x_ort _ _ 0 v M)
theorem f110_0 (S : pm_S) (d : Nat) (L : List Value) (st : List Value) (M : pm_M) : fr S (d) (110, 0, L, st) M = if pm_ty (L.getD 0 pm_U) = 2 then fr S d (110, 1, L, L.getD 0 pm_U :: st) M else none := (fr_eq S (d) (110, 0, L, st) M).trans (x_old _ _ 2 0 110 1 L st M)
theorem f110_1 (S : pm_S) (d : Nat) (L : List Value) (q : Nat) (r : List Value) (M : pm_M) : fr S (d) (110, 1, L, .ref q :: r) M = match pm_get M q with
  | some (.inr (c, fs)) => if c = 3 ∧ 10 < fs.length then fr S d (110, 4, L, fs.getD 10 pm_U :: r) M else none
  | _ => none := (fr_eq S (d) (110, 1, L, .ref q :: r) M).trans (x_ogf _ _ 3 10 110 4 L r q M)
theorem f110_4 (S : pm_S) (d : Nat) (L : List Value) (st : List Value) (M : pm_M) : fr S (d) (110, 4, L, st) M = if pm_ty (L.getD 2 pm_U) = 0 then fr S d (110, 5, L, L.getD 2 pm_U :: st) M else none := (fr_eq S (d) (110, 4, L, st) M).trans (x_old _ _ 0 2 110 5 L st M)
theorem f110_5 (S : pm_S) (d : Nat) (L : List Value) (st : List Value) (M : pm_M) : fr S (d) (110, 5, L, st) M = if pm_ty (L.getD 3 pm_U) = 0 then fr S d (110, 6, L, L.getD 3 pm_U :: st) M else none := (fr_eq S (d) (110, 5, L, st) M).trans (x_old _ _ 0 3 110 6 L st M)
theorem f110_6 (S : pm_S) (d : Nat) (L : List Value) (st : List Value) (M : pm_M) : fr S (d) (110, 6, L, st) M = fr S d (110, 7, L, .int 1 :: st) M := (fr_eq S (d) (110, 6, L, st) M).trans (x_ocs _ _ (.int 1) 110 7 L st M)
theorem f110_7 (S : pm_S) (d : Nat) (L : List Value) (x y : Int32) (r : List Value) (M : pm_M) : fr S (d) (110, 7, L, .int y :: .int x :: r) M = fr S d (110, 8, L, .int (x + y) :: r) M := (fr_eq S (d) (110, 7, L, .int y :: .int x :: r) M).trans (x_oii _ _ (fun x y => x + y) 110 8 L r x y M)
theorem f110_8 (S : pm_S) (d : Nat) (L : List Value) (v : Value) (i : Int32) (q : Nat) (r : List Value) (M : pm_M) : fr S (d) (110, 8, L, v :: .int i :: .ref q :: r) M = if pm_sq M 9 v = true then (match (pm_get M q).bind (fun c => pm_ev 0 0 c i v) with
  | some c => fr S d (110, 9, L, r) (pm_set M q c)
  | none => none) else none := (fr_eq S (d) (110, 8, L, v :: .int i :: .ref q :: r) M).trans (x_oas _ _ 0 0 9 110 9 L r v i q M)
theorem f110_9 (S : pm_S) (d : Nat) (L : List Value) (st : List Value) (M : pm_M) : fr S (d) (110, 9, L, st) M = if pm_ty (L.getD 0 pm_U) = 2 then fr S d (110, 10, L, L.getD 0 pm_U :: st) M else none := (fr_eq S (d) (110, 9, L, st) M).trans (x_old _ _ 2 0 110 10 L st M)
theorem f110_10 (S : pm_S) (d : Nat) (L : List Value) (q : Nat) (r : List Value) (M : pm_M) : fr S (d) (110, 10, L, .ref q :: r) M = match pm_get M q with
  | some (.inr (c, fs)) => if c = 3 ∧ 5 < fs.length then fr S d (110, 13, L, fs.getD 5 pm_U :: r) M else none
  | _ => none := (fr_eq S (d) (110, 10, L, .ref q :: r) M).trans (x_ogf _ _ 3 5 110 13 L r q M)
theorem f110_13 (S : pm_S) (d : Nat) (L : List Value) (st : List Value) (M : pm_M) : fr S (d) (110, 13, L, st) M = if pm_ty (L.getD 1 pm_U) = 0 then fr S d (110, 14, L, L.getD 1 pm_U :: st) M else none := (fr_eq S (d) (110, 13, L, st) M).trans (x_old _ _ 0 1 110 14 L st M)
theorem f110_14 (S : pm_S) (d : Nat) (L : List Value) (i : Int32) (q : Nat) (hq : ¬ q = 1) (r : List Value) (M : pm_M) : fr S (d) (110, 14, L, .int i :: .ref q :: r) M = match (pm_get M q).bind (fun c => pm_el 0 c i) with
  | some v => fr S d (110, 15, L, v :: r) M
  | none => none := (fr_eq S (d) (110, 14, L, .int i :: .ref q :: r) M).trans (x_oal _ _ S 0 110 15 L r i q hq M)
theorem f110_15 (S : pm_S) (d : Nat) (L : List Value) (st : List Value) (M : pm_M) : fr S (d) (110, 15, L, st) M = fr S d (110, 17, L, .int 40 :: st) M := (fr_eq S (d) (110, 15, L, st) M).trans (x_ocs _ _ (.int 40) 110 17 L st M)
theorem f110_17 (S : pm_S) (d : Nat) (L : List Value) (x y : Int32) (r : List Value) (M : pm_M) : fr S (d) (110, 17, L, .int y :: .int x :: r) M = if ¬ x = y then fr S d (110, 32, L, r) M else fr S d (110, 20, L, r) M := (fr_eq S (d) (110, 17, L, .int y :: .int x :: r) M).trans (x_oc2ne _ _ 110 20 32 L r x y M)
theorem f110_20 (S : pm_S) (d : Nat) (L : List Value) (st : List Value) (M : pm_M) : fr S (d) (110, 20, L, st) M = if pm_ty (L.getD 0 pm_U) = 2 then fr S d (110, 21, L, L.getD 0 pm_U :: st) M else none := (fr_eq S (d) (110, 20, L, st) M).trans (x_old _ _ 2 0 110 21 L st M)
theorem f110_21 (S : pm_S) (d : Nat) (L : List Value) (q : Nat) (r : List Value) (M : pm_M) : fr S (d) (110, 21, L, .ref q :: r) M = match pm_get M q with
  | some (.inr (c, fs)) => if c = 3 ∧ 10 < fs.length then fr S d (110, 24, L, fs.getD 10 pm_U :: r) M else none
  | _ => none := (fr_eq S (d) (110, 21, L, .ref q :: r) M).trans (x_ogf _ _ 3 10 110 24 L r q M)
theorem f110_24 (S : pm_S) (d : Nat) (L : List Value) (st : List Value) (M : pm_M) : fr S (d) (110, 24, L, st) M = if pm_ty (L.getD 2 pm_U) = 0 then fr S d (110, 25, L, L.getD 2 pm_U :: st) M else none := (fr_eq S (d) (110, 24, L, st) M).trans (x_old _ _ 0 2 110 25 L st M)
theorem f110_25 (S : pm_S) (d : Nat) (L : List Value) (st : List Value) (M : pm_M) : fr S (d) (110, 25, L, st) M = fr S d (110, 27, L, .int 20 :: st) M := (fr_eq S (d) (110, 25, L, st) M).trans (x_ocs _ _ (.int 20) 110 27 L st M)
theorem f110_27 (S : pm_S) (d : Nat) (L : List Value) (x y : Int32) (r : List Value) (M : pm_M) : fr S (d) (110, 27, L, .int y :: .int x :: r) M = fr S d (110, 28, L, .int (x + y) :: r) M := (fr_eq S (d) (110, 27, L, .int y :: .int x :: r) M).trans (x_oii _ _ (fun x y => x + y) 110 28 L r x y M)
theorem f110_28 (S : pm_S) (d : Nat) (L : List Value) (st : List Value) (M : pm_M) : fr S (d) (110, 28, L, st) M = if pm_ty (L.getD 3 pm_U) = 0 then fr S d (110, 29, L, L.getD 3 pm_U :: st) M else none := (fr_eq S (d) (110, 28, L, st) M).trans (x_old _ _ 0 3 110 29 L st M)
theorem f110_29 (S : pm_S) (d : Nat) (L : List Value) (st : List Value) (M : pm_M) : fr S (d) (110, 29, L, st) M = fr S d (110, 30, L, .int 1 :: st) M := (fr_eq S (d) (110, 29, L, st) M).trans (x_ocs _ _ (.int 1) 110 30 L st M)
theorem f110_30 (S : pm_S) (d : Nat) (L : List Value) (x y : Int32) (r : List Value) (M : pm_M) : fr S (d) (110, 30, L, .int y :: .int x :: r) M = fr S d (110, 31, L, .int (x + y) :: r) M := (fr_eq S (d) (110, 30, L, .int y :: .int x :: r) M).trans (x_oii _ _ (fun x y => x + y) 110 31 L r x y M)
theorem f110_31 (S : pm_S) (d : Nat) (L : List Value) (v : Value) (i : Int32) (q : Nat) (r : List Value) (M : pm_M) : fr S (d) (110, 31, L, v :: .int i :: .ref q :: r) M = if pm_sq M 9 v = true then (match (pm_get M q).bind (fun c => pm_ev 0 0 c i v) with
  | some c => fr S d (110, 32, L, r) (pm_set M q c)
  | none => none) else none := (fr_eq S (d) (110, 31, L, v :: .int i :: .ref q :: r) M).trans (x_oas _ _ 0 0 9 110 32 L r v i q M)
theorem f110_32 (S : pm_S) (d : Nat) (L : List Value)  (M : pm_M) : fr S (d) (110, 32, L, []) M = some (.inl none, M) := (fr_eq S (d) (110, 32, L, []) M).trans (x_orv _ _ M)
theorem f111_0 (S : pm_S) (d : Nat) (L : List Value) (st : List Value) (M : pm_M) : fr S (d) (111, 0, L, st) M = if pm_ty (L.getD 0 pm_U) = 2 then fr S d (111, 1, L, L.getD 0 pm_U :: st) M else none := (fr_eq S (d) (111, 0, L, st) M).trans (x_old _ _ 2 0 111 1 L st M)
theorem f111_1 (S : pm_S) (d : Nat) (L : List Value) (st : List Value) (M : pm_M) : fr S (d) (111, 1, L, st) M = if pm_ty (L.getD 1 pm_U) = 0 then fr S d (111, 2, L, L.getD 1 pm_U :: st) M else none := (fr_eq S (d) (111, 1, L, st) M).trans (x_old _ _ 0 1 111 2 L st M)
theorem f111_2 (S : pm_S) (d : Nat) (L : List Value) (st : List Value) (M : pm_M) : fr S (d + 1) (111, 2, L, st) M = match pm_ag 2 [] st with
  | some (a, r) => if r.length ≤ 4 ∧ (1 = 0 ∨ pm_obj M 3 (a.headD pm_U) = true) then (match fr S d (105, 0, a ++ [], []) M with
    | none => none
    | some (.inl v, M') => fr S (d + 1) (111, 5, L, v.toList ++ r) M'
    | some (.inr E, M') => some (.inr E, M')) else none
  | none => none := (fr_eq S (d + 1) (111, 2, L, st) M).trans (x_ocl _ _ 1 105 2 3 [] 111 5 L st M)
theorem f111_5 (S : pm_S) (d : Nat) (L : List Value) (x : Int32) (r : List Value) (M : pm_M) : fr S (d) (111, 5, L, .int x :: r) M = if x = 0 then fr S d (111, 35, L, r) M else fr S d (111, 8, L, r) M := (fr_eq S (d) (111, 5, L, .int x :: r) M).trans (x_oc1eq _ _ 111 8 35 L r x M)
theorem f111_8 (S : pm_S) (d : Nat) (L : List Value) (st : List Value) (M : pm_M) : fr S (d) (111, 8, L, st) M = if pm_ty (L.getD 0 pm_U) = 2 then fr S d (111, 9, L, L.getD 0 pm_U :: st) M else none := (fr_eq S (d) (111, 8, L, st) M).trans (x_old _ _ 2 0 111 9 L st M)
theorem f111_9 (S : pm_S) (d : Nat) (L : List Value) (q : Nat) (r : List Value) (M : pm_M) : fr S (d) (111, 9, L, .ref q :: r) M = match pm_get M q with
  | some (.inr (c, fs)) => if c = 3 ∧ 5 < fs.length then fr S d (111, 12, L, fs.getD 5 pm_U :: r) M else none
  | _ => none := (fr_eq S (d) (111, 9, L, .ref q :: r) M).trans (x_ogf _ _ 3 5 111 12 L r q M)
theorem f111_12 (S : pm_S) (d : Nat) (L : List Value) (st : List Value) (M : pm_M) : fr S (d) (111, 12, L, st) M = if pm_ty (L.getD 0 pm_U) = 2 then fr S d (111, 13, L, L.getD 0 pm_U :: st) M else none := (fr_eq S (d) (111, 12, L, st) M).trans (x_old _ _ 2 0 111 13 L st M)
theorem f111_13 (S : pm_S) (d : Nat) (L : List Value) (st : List Value) (M : pm_M) : fr S (d) (111, 13, L, st) M = if pm_ty (L.getD 1 pm_U) = 0 then fr S d (111, 14, L, L.getD 1 pm_U :: st) M else none := (fr_eq S (d) (111, 13, L, st) M).trans (x_old _ _ 0 1 111 14 L st M)
theorem f111_14 (S : pm_S) (d : Nat) (L : List Value) (st : List Value) (M : pm_M) : fr S (d + 1) (111, 14, L, st) M = match pm_ag 2 [] st with
  | some (a, r) => if r.length ≤ 4 ∧ (1 = 0 ∨ pm_obj M 3 (a.headD pm_U) = true) then (match fr S d (105, 0, a ++ [], []) M with
    | none => none
    | some (.inl v, M') => fr S (d + 1) (111, 17, L, v.toList ++ r) M'
    | some (.inr E, M') => some (.inr E, M')) else none
  | none => none := (fr_eq S (d + 1) (111, 14, L, st) M).trans (x_ocl _ _ 1 105 2 3 [] 111 17 L st M)
theorem f111_17 (S : pm_S) (d : Nat) (L : List Value) (x : Int32) (r : List Value) (M : pm_M) : fr S (d) (111, 17, L, .int x :: r) M = if x = 0 then fr S d (111, 24, L, r) M else fr S d (111, 20, L, r) M := (fr_eq S (d) (111, 17, L, .int x :: r) M).trans (x_oc1eq _ _ 111 20 24 L r x M)
theorem f111_20 (S : pm_S) (d : Nat) (L : List Value) (st : List Value) (M : pm_M) : fr S (d) (111, 20, L, st) M = if pm_ty (L.getD 1 pm_U) = 0 then fr S d (111, 21, L, L.getD 1 pm_U :: st) M else none := (fr_eq S (d) (111, 20, L, st) M).trans (x_old _ _ 0 1 111 21 L st M)
theorem f111_21 (S : pm_S) (d : Nat) (L : List Value) (st : List Value) (M : pm_M) : fr S (d) (111, 21, L, st) M = fr S d (111, 25, L, st) M := (fr_eq S (d) (111, 21, L, st) M).trans (x_ogo _ _ 111 25 L st M)
theorem f111_24 (S : pm_S) (d : Nat) (L : List Value) (st : List Value) (M : pm_M) : fr S (d) (111, 24, L, st) M = fr S d (111, 25, L, .int 0 :: st) M := (fr_eq S (d) (111, 24, L, st) M).trans (x_ocs _ _ (.int 0) 111 25 L st M)
theorem f111_25 (S : pm_S) (d : Nat) (L : List Value) (i : Int32) (q : Nat) (hq : ¬ q = 1) (r : List Value) (M : pm_M) : fr S (d) (111, 25, L, .int i :: .ref q :: r) M = match (pm_get M q).bind (fun c => pm_el 0 c i) with
  | some v => fr S d (111, 26, L, v :: r) M
  | none => none := (fr_eq S (d) (111, 25, L, .int i :: .ref q :: r) M).trans (x_oal _ _ S 0 111 26 L r i q hq M)
theorem f111_26 (S : pm_S) (d : Nat) (L : List Value) (st : List Value) (M : pm_M) : fr S (d) (111, 26, L, st) M = fr S d (111, 28, L, .int 40 :: st) M := (fr_eq S (d) (111, 26, L, st) M).trans (x_ocs _ _ (.int 40) 111 28 L st M)
theorem f111_28 (S : pm_S) (d : Nat) (L : List Value) (x y : Int32) (r : List Value) (M : pm_M) : fr S (d) (111, 28, L, .int y :: .int x :: r) M = if ¬ x = y then fr S d (111, 35, L, r) M else fr S d (111, 31, L, r) M := (fr_eq S (d) (111, 28, L, .int y :: .int x :: r) M).trans (x_oc2ne _ _ 111 31 35 L r x y M)
theorem f111_31 (S : pm_S) (d : Nat) (L : List Value) (st : List Value) (M : pm_M) : fr S (d) (111, 31, L, st) M = fr S d (111, 32, L, .int 1 :: st) M := (fr_eq S (d) (111, 31, L, st) M).trans (x_ocs _ _ (.int 1) 111 32 L st M)
theorem f111_32 (S : pm_S) (d : Nat) (L : List Value) (st : List Value) (M : pm_M) : fr S (d) (111, 32, L, st) M = fr S d (111, 36, L, st) M := (fr_eq S (d) (111, 32, L, st) M).trans (x_ogo _ _ 111 36 L st M)
theorem f111_35 (S : pm_S) (d : Nat) (L : List Value) (st : List Value) (M : pm_M) : fr S (d) (111, 35, L, st) M = fr S d (111, 36, L, .int 0 :: st) M := (fr_eq S (d) (111, 35, L, st) M).trans (x_ocs _ _ (.int 0) 111 36 L st M)
theorem f111_36 (S : pm_S) (d : Nat) (L : List Value) (v : Value) (r : List Value) (M : pm_M) : fr S (d) (111, 36, L, v :: r) M = if pm_ty v = 0 ∧ 5 < L.length ∧ ¬ pm_ty (L.getD (5 - 1) pm_U) = 1 then fr S d (111, 38, L.set 5 v, r) M else none := (fr_eq S (d) (111, 36, L, v :: r) M).trans (x_ost _ _ 0 5 111 38 L r v M)
theorem f111_38 (S : pm_S) (d : Nat) (L : List Value) (st : List Value) (M : pm_M) : fr S (d) (111, 38, L, st) M = if pm_ty (L.getD 0 pm_U) = 2 then fr S d (111, 39, L, L.getD 0 pm_U :: st) M else none := (fr_eq S (d) (111, 38, L, st) M).trans (x_old _ _ 2 0 111 39 L st M)
theorem f111_39 (S : pm_S) (d : Nat) (L : List Value) (st : List Value) (M : pm_M) : fr S (d) (111, 39, L, st) M = if pm_ty (L.getD 2 pm_U) = 0 then fr S d (111, 40, L, L.getD 2 pm_U :: st) M else none := (fr_eq S (d) (111, 39, L, st) M).trans (x_old _ _ 0 2 111 40 L st M)
theorem f111_40 (S : pm_S) (d : Nat) (L : List Value) (st : List Value) (M : pm_M) : fr S (d) (111, 40, L, st) M = if pm_ty (L.getD 3 pm_U) = 0 then fr S d (111, 41, L, L.getD 3 pm_U :: st) M else none := (fr_eq S (d) (111, 40, L, st) M).trans (x_old _ _ 0 3 111 41 L st M)
theorem f111_41 (S : pm_S) (d : Nat) (L : List Value) (st : List Value) (M : pm_M) : fr S (d) (111, 41, L, st) M = if pm_ty (L.getD 4 pm_U) = 0 then fr S d (111, 43, L, L.getD 4 pm_U :: st) M else none := (fr_eq S (d) (111, 41, L, st) M).trans (x_old _ _ 0 4 111 43 L st M)
theorem f111_43 (S : pm_S) (d : Nat) (L : List Value) (st : List Value) (M : pm_M) : fr S (d + 1) (111, 43, L, st) M = match pm_ag 4 [] st with
  | some (a, r) => if r.length ≤ 4 ∧ (1 = 0 ∨ pm_obj M 3 (a.headD pm_U) = true) then (match fr S d (107, 0, a ++ [], []) M with
    | none => none
    | some (.inl v, M') => fr S (d + 1) (111, 46, L, v.toList ++ r) M'
    | some (.inr E, M') => some (.inr E, M')) else none
  | none => none := (fr_eq S (d + 1) (111, 43, L, st) M).trans (x_ocl _ _ 1 107 4 3 [] 111 46 L st M)
theorem f111_46 (S : pm_S) (d : Nat) (L : List Value) (x : Int32) (r : List Value) (M : pm_M) : fr S (d) (111, 46, L, .int x :: r) M = if x = 0 then fr S d (111, 71, L, r) M else fr S d (111, 49, L, r) M := (fr_eq S (d) (111, 46, L, .int x :: r) M).trans (x_oc1eq _ _ 111 49 71 L r x M)
theorem f111_49 (S : pm_S) (d : Nat) (L : List Value) (st : List Value) (M : pm_M) : fr S (d) (111, 49, L, st) M = if pm_ty (L.getD 5 pm_U) = 0 then fr S d (111, 51, L, L.getD 5 pm_U :: st) M else none := (fr_eq S (d) (111, 49, L, st) M).trans (x_old _ _ 0 5 111 51 L st M)
theorem f111_51 (S : pm_S) (d : Nat) (L : List Value) (x : Int32) (r : List Value) (M : pm_M) : fr S (d) (111, 51, L, .int x :: r) M = if x = 0 then fr S d (111, 78, L, r) M else fr S d (111, 54, L, r) M := (fr_eq S (d) (111, 51, L, .int x :: r) M).trans (x_oc1eq _ _ 111 54 78 L r x M)
theorem f111_54 (S : pm_S) (d : Nat) (L : List Value) (st : List Value) (M : pm_M) : fr S (d) (111, 54, L, st) M = if pm_ty (L.getD 2 pm_U) = 0 then fr S d (111, 55, L, L.getD 2 pm_U :: st) M else none := (fr_eq S (d) (111, 54, L, st) M).trans (x_old _ _ 0 2 111 55 L st M)
theorem f111_55 (S : pm_S) (d : Nat) (L : List Value) (st : List Value) (M : pm_M) : fr S (d) (111, 55, L, st) M = fr S d (111, 56, L, .int 2 :: st) M := (fr_eq S (d) (111, 55, L, st) M).trans (x_ocs _ _ (.int 2) 111 56 L st M)
theorem f111_56 (S : pm_S) (d : Nat) (L : List Value) (x y : Int32) (r : List Value) (M : pm_M) : fr S (d) (111, 56, L, .int y :: .int x :: r) M = if y = 0 then none else fr S d (111, 57, L, .int (x - x / y * y) :: r) M := (fr_eq S (d) (111, 56, L, .int y :: .int x :: r) M).trans (x_oir _ _ 111 57 L r x y M false)
theorem f111_57 (S : pm_S) (d : Nat) (L : List Value) (st : List Value) (M : pm_M) : fr S (d) (111, 57, L, st) M = fr S d (111, 58, L, .int 1 :: st) M := (fr_eq S (d) (111, 57, L, st) M).trans (x_ocs _ _ (.int 1) 111 58 L st M)
theorem f111_58 (S : pm_S) (d : Nat) (L : List Value) (x y : Int32) (r : List Value) (M : pm_M) : fr S (d) (111, 58, L, .int y :: .int x :: r) M = if x = y then fr S d (111, 71, L, r) M else fr S d (111, 61, L, r) M := (fr_eq S (d) (111, 58, L, .int y :: .int x :: r) M).trans (x_oc2eq _ _ 111 61 71 L r x y M)
theorem f111_61 (S : pm_S) (d : Nat) (L : List Value) (st : List Value) (M : pm_M) : fr S (d) (111, 61, L, st) M = if pm_ty (L.getD 0 pm_U) = 2 then fr S d (111, 62, L, L.getD 0 pm_U :: st) M else none := (fr_eq S (d) (111, 61, L, st) M).trans (x_old _ _ 2 0 111 62 L st M)
theorem f111_62 (S : pm_S) (d : Nat) (L : List Value) (st : List Value) (M : pm_M) : fr S (d) (111, 62, L, st) M = if pm_ty (L.getD 2 pm_U) = 0 then fr S d (111, 63, L, L.getD 2 pm_U :: st) M else none := (fr_eq S (d) (111, 62, L, st) M).trans (x_old _ _ 0 2 111 63 L st M)
theorem f111_63 (S : pm_S) (d : Nat) (L : List Value) (st : List Value) (M : pm_M) : fr S (d) (111, 63, L, st) M = fr S d (111, 64, L, .int 1 :: st) M := (fr_eq S (d) (111, 63, L, st) M).trans (x_ocs _ _ (.int 1) 111 64 L st M)
theorem f111_64 (S : pm_S) (d : Nat) (L : List Value) (x y : Int32) (r : List Value) (M : pm_M) : fr S (d) (111, 64, L, .int y :: .int x :: r) M = fr S d (111, 65, L, .int (x + y) :: r) M := (fr_eq S (d) (111, 64, L, .int y :: .int x :: r) M).trans (x_oii _ _ (fun x y => x + y) 111 65 L r x y M)
theorem f111_65 (S : pm_S) (d : Nat) (L : List Value) (st : List Value) (M : pm_M) : fr S (d + 1) (111, 65, L, st) M = match pm_ag 2 [] st with
  | some (a, r) => if r.length ≤ 4 ∧ (1 = 0 ∨ pm_obj M 3 (a.headD pm_U) = true) then (match fr S d (106, 0, a ++ [], []) M with
    | none => none
    | some (.inl v, M') => fr S (d + 1) (111, 68, L, v.toList ++ r) M'
    | some (.inr E, M') => some (.inr E, M')) else none
  | none => none := (fr_eq S (d + 1) (111, 65, L, st) M).trans (x_ocl _ _ 1 106 2 3 [] 111 68 L st M)
theorem f111_68 (S : pm_S) (d : Nat) (L : List Value) (x : Int32) (r : List Value) (M : pm_M) : fr S (d) (111, 68, L, .int x :: r) M = if ¬ x = 0 then fr S d (111, 78, L, r) M else fr S d (111, 71, L, r) M := (fr_eq S (d) (111, 68, L, .int x :: r) M).trans (x_oc1ne _ _ 111 71 78 L r x M)
theorem f111_71 (S : pm_S) (d : Nat) (L : List Value) (st : List Value) (M : pm_M) : fr S (d) (111, 71, L, st) M = if pm_ty (L.getD 0 pm_U) = 2 then fr S d (111, 72, L, L.getD 0 pm_U :: st) M else none := (fr_eq S (d) (111, 71, L, st) M).trans (x_old _ _ 2 0 111 72 L st M)
theorem f111_72 (S : pm_S) (d : Nat) (L : List Value) (st : List Value) (M : pm_M) : fr S (d) (111, 72, L, st) M = fr S d (111, 73, L, .int 1 :: st) M := (fr_eq S (d) (111, 72, L, st) M).trans (x_ocs _ _ (.int 1) 111 73 L st M)
theorem f111_73 (S : pm_S) (d : Nat) (L : List Value) (v : Value) (q : Nat) (r : List Value) (M : pm_M) : fr S (d) (111, 73, L, v :: .ref q :: r) M = match pm_get M q with
  | some (.inr (c, fs)) => if c = 3 ∧ 0 < fs.length ∧ pm_fit 0 v = true then fr S d (111, 76, L, r) (pm_set M q (.inr (c, fs.set 0 v))) else none
  | _ => none := (fr_eq S (d) (111, 73, L, v :: .ref q :: r) M).trans (x_opf _ _ 3 0 0 111 76 L r q v M)
theorem f111_76 (S : pm_S) (d : Nat) (L : List Value) (st : List Value) (M : pm_M) : fr S (d) (111, 76, L, st) M = fr S d (111, 77, L, .int 0 :: st) M := (fr_eq S (d) (111, 76, L, st) M).trans (x_ocs _ _ (.int 0) 111 77 L st M)
theorem f111_77 (S : pm_S) (d : Nat) (L : List Value) (v : Value) (M : pm_M) : fr S (d) (111, 77, L, [v]) M = if pm_fit 3 v = true then some (.inl (some v), M) else none := (fr_eq S (d) (111, 77, L, [v]) M).trans (x_ort _ _ 3 v M)
theorem f111_78 (S : pm_S) (d : Nat) (L : List Value) (st : List Value) (M : pm_M) : fr S (d) (111, 78, L, st) M = if pm_ty (L.getD 0 pm_U) = 2 then fr S d (111, 79, L, L.getD 0 pm_U :: st) M else none := (fr_eq S (d) (111, 78, L, st) M).trans (x_old _ _ 2 0 111 79 L st M)
theorem f111_79 (S : pm_S) (d : Nat) (L : List Value) (st : List Value) (M : pm_M) : fr S (d) (111, 79, L, st) M = fr S d (111, 80, L, .int 0 :: st) M := (fr_eq S (d) (111, 79, L, st) M).trans (x_ocs _ _ (.int 0) 111 80 L st M)
theorem f111_80 (S : pm_S) (d : Nat) (L : List Value) (v : Value) (q : Nat) (r : List Value) (M : pm_M) : fr S (d) (111, 80, L, v :: .ref q :: r) M = match pm_get M q with
  | some (.inr (c, fs)) => if c = 3 ∧ 0 < fs.length ∧ pm_fit 0 v = true then fr S d (111, 83, L, r) (pm_set M q (.inr (c, fs.set 0 v))) else none
  | _ => none := (fr_eq S (d) (111, 80, L, v :: .ref q :: r) M).trans (x_opf _ _ 3 0 0 111 83 L r q v M)
theorem f111_83 (S : pm_S) (d : Nat) (L : List Value) (st : List Value) (M : pm_M) : fr S (d) (111, 83, L, st) M = if pm_ty (L.getD 2 pm_U) = 0 then fr S d (111, 84, L, L.getD 2 pm_U :: st) M else none := (fr_eq S (d) (111, 83, L, st) M).trans (x_old _ _ 0 2 111 84 L st M)
theorem f111_84 (S : pm_S) (d : Nat) (L : List Value) (st : List Value) (M : pm_M) : fr S (d) (111, 84, L, st) M = if pm_ty (L.getD 3 pm_U) = 0 then fr S d (111, 85, L, L.getD 3 pm_U :: st) M else none := (fr_eq S (d) (111, 84, L, st) M).trans (x_old _ _ 0 3 111 85 L st M)
theorem f111_85 (S : pm_S) (d : Nat) (L : List Value) (st : List Value) (M : pm_M) : fr S (d) (111, 85, L, st) M = if pm_ty (L.getD 4 pm_U) = 0 then fr S d (111, 87, L, L.getD 4 pm_U :: st) M else none := (fr_eq S (d) (111, 85, L, st) M).trans (x_old _ _ 0 4 111 87 L st M)
theorem f111_87 (S : pm_S) (d : Nat) (L : List Value) (st : List Value) (M : pm_M) : fr S (d + 1) (111, 87, L, st) M = match pm_ag 3 [] st with
  | some (a, r) => if r.length ≤ 4 ∧ (0 = 0 ∨ pm_obj M 3 (a.headD pm_U) = true) then (match fr S d (108, 0, a ++ [], []) M with
    | none => none
    | some (.inl v, M') => fr S (d + 1) (111, 90, L, v.toList ++ r) M'
    | some (.inr E, M') => some (.inr E, M')) else none
  | none => none := (fr_eq S (d + 1) (111, 87, L, st) M).trans (x_ocl _ _ 0 108 3 3 [] 111 90 L st M)
theorem f111_90 (S : pm_S) (d : Nat) (L : List Value) (v : Value) (r : List Value) (M : pm_M) : fr S (d) (111, 90, L, v :: r) M = if pm_ty v = 0 ∧ 6 < L.length ∧ ¬ pm_ty (L.getD (6 - 1) pm_U) = 1 then fr S d (111, 92, L.set 6 v, r) M else none := (fr_eq S (d) (111, 90, L, v :: r) M).trans (x_ost _ _ 0 6 111 92 L r v M)
theorem f111_92 (S : pm_S) (d : Nat) (L : List Value) (st : List Value) (M : pm_M) : fr S (d) (111, 92, L, st) M = if pm_ty (L.getD 0 pm_U) = 2 then fr S d (111, 93, L, L.getD 0 pm_U :: st) M else none := (fr_eq S (d) (111, 92, L, st) M).trans (x_old _ _ 2 0 111 93 L st M)
theorem f111_93 (S : pm_S) (d : Nat) (L : List Value) (st : List Value) (M : pm_M) : fr S (d) (111, 93, L, st) M = if pm_ty (L.getD 1 pm_U) = 0 then fr S d (111, 94, L, L.getD 1 pm_U :: st) M else none := (fr_eq S (d) (111, 93, L, st) M).trans (x_old _ _ 0 1 111 94 L st M)
theorem f111_94 (S : pm_S) (d : Nat) (L : List Value) (st : List Value) (M : pm_M) : fr S (d + 1) (111, 94, L, st) M = match pm_ag 2 [] st with
  | some (a, r) => if r.length ≤ 4 ∧ (1 = 0 ∨ pm_obj M 3 (a.headD pm_U) = true) then (match fr S d (105, 0, a ++ [], []) M with
    | none => none
    | some (.inl v, M') => fr S (d + 1) (111, 97, L, v.toList ++ r) M'
    | some (.inr E, M') => some (.inr E, M')) else none
  | none => none := (fr_eq S (d + 1) (111, 94, L, st) M).trans (x_ocl _ _ 1 105 2 3 [] 111 97 L st M)
theorem f111_97 (S : pm_S) (d : Nat) (L : List Value) (x : Int32) (r : List Value) (M : pm_M) : fr S (d) (111, 97, L, .int x :: r) M = if x = 0 then fr S d (111, 148, L, r) M else fr S d (111, 100, L, r) M := (fr_eq S (d) (111, 97, L, .int x :: r) M).trans (x_oc1eq _ _ 111 100 148 L r x M)
theorem f111_100 (S : pm_S) (d : Nat) (L : List Value) (st : List Value) (M : pm_M) : fr S (d) (111, 100, L, st) M = if pm_ty (L.getD 0 pm_U) = 2 then fr S d (111, 101, L, L.getD 0 pm_U :: st) M else none := (fr_eq S (d) (111, 100, L, st) M).trans (x_old _ _ 2 0 111 101 L st M)
theorem f111_101 (S : pm_S) (d : Nat) (L : List Value) (q : Nat) (r : List Value) (M : pm_M) : fr S (d) (111, 101, L, .ref q :: r) M = match pm_get M q with
  | some (.inr (c, fs)) => if c = 3 ∧ 9 < fs.length then fr S d (111, 104, L, fs.getD 9 pm_U :: r) M else none
  | _ => none := (fr_eq S (d) (111, 101, L, .ref q :: r) M).trans (x_ogf _ _ 3 9 111 104 L r q M)
theorem f111_104 (S : pm_S) (d : Nat) (L : List Value) (st : List Value) (M : pm_M) : fr S (d) (111, 104, L, st) M = if pm_ty (L.getD 1 pm_U) = 0 then fr S d (111, 105, L, L.getD 1 pm_U :: st) M else none := (fr_eq S (d) (111, 104, L, st) M).trans (x_old _ _ 0 1 111 105 L st M)
theorem f111_105 (S : pm_S) (d : Nat) (L : List Value) (i : Int32) (q : Nat) (hq : ¬ q = 1) (r : List Value) (M : pm_M) : fr S (d) (111, 105, L, .int i :: .ref q :: r) M = match (pm_get M q).bind (fun c => pm_el 0 c i) with
  | some v => fr S d (111, 106, L, v :: r) M
  | none => none := (fr_eq S (d) (111, 105, L, .int i :: .ref q :: r) M).trans (x_oal _ _ S 0 111 106 L r i q hq M)
theorem f111_106 (S : pm_S) (d : Nat) (L : List Value) (st : List Value) (M : pm_M) : fr S (d) (111, 106, L, st) M = fr S d (111, 107, L, .int (-1) :: st) M := (fr_eq S (d) (111, 106, L, st) M).trans (x_ocs _ _ (.int (-1)) 111 107 L st M)
theorem f111_107 (S : pm_S) (d : Nat) (L : List Value) (x y : Int32) (r : List Value) (M : pm_M) : fr S (d) (111, 107, L, .int y :: .int x :: r) M = if ¬ x = y then fr S d (111, 148, L, r) M else fr S d (111, 110, L, r) M := (fr_eq S (d) (111, 107, L, .int y :: .int x :: r) M).trans (x_oc2ne _ _ 111 110 148 L r x y M)
theorem f111_110 (S : pm_S) (d : Nat) (L : List Value) (st : List Value) (M : pm_M) : fr S (d) (111, 110, L, st) M = if pm_ty (L.getD 0 pm_U) = 2 then fr S d (111, 111, L, L.getD 0 pm_U :: st) M else none := (fr_eq S (d) (111, 110, L, st) M).trans (x_old _ _ 2 0 111 111 L st M)
theorem f111_111 (S : pm_S) (d : Nat) (L : List Value) (q : Nat) (r : List Value) (M : pm_M) : fr S (d) (111, 111, L, .ref q :: r) M = match pm_get M q with
  | some (.inr (c, fs)) => if c = 3 ∧ 10 < fs.length then fr S d (111, 114, L, fs.getD 10 pm_U :: r) M else none
  | _ => none := (fr_eq S (d) (111, 111, L, .ref q :: r) M).trans (x_ogf _ _ 3 10 111 114 L r q M)
theorem f111_114 (S : pm_S) (d : Nat) (L : List Value) (st : List Value) (M : pm_M) : fr S (d) (111, 114, L, st) M = if pm_ty (L.getD 6 pm_U) = 0 then fr S d (111, 116, L, L.getD 6 pm_U :: st) M else none := (fr_eq S (d) (111, 114, L, st) M).trans (x_old _ _ 0 6 111 116 L st M)
theorem f111_116 (S : pm_S) (d : Nat) (L : List Value) (i : Int32) (q : Nat) (hq : ¬ q = 1) (r : List Value) (M : pm_M) : fr S (d) (111, 116, L, .int i :: .ref q :: r) M = match (pm_get M q).bind (fun c => pm_el 0 c i) with
  | some v => fr S d (111, 117, L, v :: r) M
  | none => none := (fr_eq S (d) (111, 116, L, .int i :: .ref q :: r) M).trans (x_oal _ _ S 0 111 117 L r i q hq M)
theorem f111_117 (S : pm_S) (d : Nat) (L : List Value) (x : Int32) (r : List Value) (M : pm_M) : fr S (d) (111, 117, L, .int x :: r) M = if 0 < x then fr S d (111, 148, L, r) M else fr S d (111, 120, L, r) M := (fr_eq S (d) (111, 117, L, .int x :: r) M).trans (x_oc1gt _ _ 111 120 148 L r x M)
theorem f111_120 (S : pm_S) (d : Nat) (L : List Value) (st : List Value) (M : pm_M) : fr S (d) (111, 120, L, st) M = if pm_ty (L.getD 5 pm_U) = 0 then fr S d (111, 122, L, L.getD 5 pm_U :: st) M else none := (fr_eq S (d) (111, 120, L, st) M).trans (x_old _ _ 0 5 111 122 L st M)
theorem f111_122 (S : pm_S) (d : Nat) (L : List Value) (x : Int32) (r : List Value) (M : pm_M) : fr S (d) (111, 122, L, .int x :: r) M = if x = 0 then fr S d (111, 150, L, r) M else fr S d (111, 125, L, r) M := (fr_eq S (d) (111, 122, L, .int x :: r) M).trans (x_oc1eq _ _ 111 125 150 L r x M)
theorem f111_125 (S : pm_S) (d : Nat) (L : List Value) (st : List Value) (M : pm_M) : fr S (d) (111, 125, L, st) M = if pm_ty (L.getD 0 pm_U) = 2 then fr S d (111, 126, L, L.getD 0 pm_U :: st) M else none := (fr_eq S (d) (111, 125, L, st) M).trans (x_old _ _ 2 0 111 126 L st M)
theorem f111_126 (S : pm_S) (d : Nat) (L : List Value) (q : Nat) (r : List Value) (M : pm_M) : fr S (d) (111, 126, L, .ref q :: r) M = match pm_get M q with
  | some (.inr (c, fs)) => if c = 3 ∧ 10 < fs.length then fr S d (111, 129, L, fs.getD 10 pm_U :: r) M else none
  | _ => none := (fr_eq S (d) (111, 126, L, .ref q :: r) M).trans (x_ogf _ _ 3 10 111 129 L r q M)
theorem f111_129 (S : pm_S) (d : Nat) (L : List Value) (st : List Value) (M : pm_M) : fr S (d) (111, 129, L, st) M = if pm_ty (L.getD 5 pm_U) = 0 then fr S d (111, 131, L, L.getD 5 pm_U :: st) M else none := (fr_eq S (d) (111, 129, L, st) M).trans (x_old _ _ 0 5 111 131 L st M)
theorem f111_131 (S : pm_S) (d : Nat) (L : List Value) (x : Int32) (r : List Value) (M : pm_M) : fr S (d) (111, 131, L, .int x :: r) M = if x = 0 then fr S d (111, 142, L, r) M else fr S d (111, 134, L, r) M := (fr_eq S (d) (111, 131, L, .int x :: r) M).trans (x_oc1eq _ _ 111 134 142 L r x M)
theorem f111_134 (S : pm_S) (d : Nat) (L : List Value) (st : List Value) (M : pm_M) : fr S (d) (111, 134, L, st) M = if pm_ty (L.getD 6 pm_U) = 0 then fr S d (111, 136, L, L.getD 6 pm_U :: st) M else none := (fr_eq S (d) (111, 134, L, st) M).trans (x_old _ _ 0 6 111 136 L st M)
theorem f111_136 (S : pm_S) (d : Nat) (L : List Value) (st : List Value) (M : pm_M) : fr S (d) (111, 136, L, st) M = fr S d (111, 138, L, .int 20 :: st) M := (fr_eq S (d) (111, 136, L, st) M).trans (x_ocs _ _ (.int 20) 111 138 L st M)
theorem f111_138 (S : pm_S) (d : Nat) (L : List Value) (x y : Int32) (r : List Value) (M : pm_M) : fr S (d) (111, 138, L, .int y :: .int x :: r) M = fr S d (111, 139, L, .int (x + y) :: r) M := (fr_eq S (d) (111, 138, L, .int y :: .int x :: r) M).trans (x_oii _ _ (fun x y => x + y) 111 139 L r x y M)
theorem f111_139 (S : pm_S) (d : Nat) (L : List Value) (st : List Value) (M : pm_M) : fr S (d) (111, 139, L, st) M = fr S d (111, 144, L, st) M := (fr_eq S (d) (111, 139, L, st) M).trans (x_ogo _ _ 111 144 L st M)
theorem f111_142 (S : pm_S) (d : Nat) (L : List Value) (st : List Value) (M : pm_M) : fr S (d) (111, 142, L, st) M = if pm_ty (L.getD 6 pm_U) = 0 then fr S d (111, 144, L, L.getD 6 pm_U :: st) M else none := (fr_eq S (d) (111, 142, L, st) M).trans (x_old _ _ 0 6 111 144 L st M)
theorem f111_144 (S : pm_S) (d : Nat) (L : List Value) (i : Int32) (q : Nat) (hq : ¬ q = 1) (r : List Value) (M : pm_M) : fr S (d) (111, 144, L, .int i :: .ref q :: r) M = match (pm_get M q).bind (fun c => pm_el 0 c i) with
  | some v => fr S d (111, 145, L, v :: r) M
  | none => none := (fr_eq S (d) (111, 144, L, .int i :: .ref q :: r) M).trans (x_oal _ _ S 0 111 145 L r i q hq M)
theorem f111_145 (S : pm_S) (d : Nat) (L : List Value) (x : Int32) (r : List Value) (M : pm_M) : fr S (d) (111, 145, L, .int x :: r) M = if x ≤ 0 then fr S d (111, 150, L, r) M else fr S d (111, 148, L, r) M := (fr_eq S (d) (111, 145, L, .int x :: r) M).trans (x_oc1le _ _ 111 148 150 L r x M)
theorem f111_148 (S : pm_S) (d : Nat) (L : List Value) (st : List Value) (M : pm_M) : fr S (d) (111, 148, L, st) M = fr S d (111, 149, L, .int 0 :: st) M := (fr_eq S (d) (111, 148, L, st) M).trans (x_ocs _ _ (.int 0) 111 149 L st M)
theorem f111_149 (S : pm_S) (d : Nat) (L : List Value) (v : Value) (M : pm_M) : fr S (d) (111, 149, L, [v]) M = if pm_fit 3 v = true then some (.inl (some v), M) else none := (fr_eq S (d) (111, 149, L, [v]) M).trans (x_ort _ _ 3 v M)
theorem f111_150 (S : pm_S) (d : Nat) (L : List Value) (st : List Value) (M : pm_M) : fr S (d) (111, 150, L, st) M = if pm_ty (L.getD 0 pm_U) = 2 then fr S d (111, 151, L, L.getD 0 pm_U :: st) M else none := (fr_eq S (d) (111, 150, L, st) M).trans (x_old _ _ 2 0 111 151 L st M)
theorem f111_151 (S : pm_S) (d : Nat) (L : List Value) (st : List Value) (M : pm_M) : fr S (d) (111, 151, L, st) M = if pm_ty (L.getD 1 pm_U) = 0 then fr S d (111, 152, L, L.getD 1 pm_U :: st) M else none := (fr_eq S (d) (111, 151, L, st) M).trans (x_old _ _ 0 1 111 152 L st M)
theorem f111_152 (S : pm_S) (d : Nat) (L : List Value) (st : List Value) (M : pm_M) : fr S (d) (111, 152, L, st) M = if pm_ty (L.getD 6 pm_U) = 0 then fr S d (111, 154, L, L.getD 6 pm_U :: st) M else none := (fr_eq S (d) (111, 152, L, st) M).trans (x_old _ _ 0 6 111 154 L st M)
theorem f111_154 (S : pm_S) (d : Nat) (L : List Value) (st : List Value) (M : pm_M) : fr S (d) (111, 154, L, st) M = if pm_ty (L.getD 1 pm_U) = 0 then fr S d (111, 155, L, L.getD 1 pm_U :: st) M else none := (fr_eq S (d) (111, 154, L, st) M).trans (x_old _ _ 0 1 111 155 L st M)
theorem f111_155 (S : pm_S) (d : Nat) (L : List Value) (st : List Value) (M : pm_M) : fr S (d + 1) (111, 155, L, st) M = match pm_ag 4 [] st with
  | some (a, r) => if r.length ≤ 4 ∧ (1 = 0 ∨ pm_obj M 3 (a.headD pm_U) = true) then (match fr S d (110, 0, a ++ [], []) M with
    | none => none
    | some (.inl v, M') => fr S (d + 1) (111, 158, L, v.toList ++ r) M'
    | some (.inr E, M') => some (.inr E, M')) else none
  | none => none := (fr_eq S (d + 1) (111, 155, L, st) M).trans (x_ocl _ _ 1 110 4 3 [] 111 158 L st M)
theorem f111_158 (S : pm_S) (d : Nat) (L : List Value) (st : List Value) (M : pm_M) : fr S (d) (111, 158, L, st) M = if pm_ty (L.getD 0 pm_U) = 2 then fr S d (111, 159, L, L.getD 0 pm_U :: st) M else none := (fr_eq S (d) (111, 158, L, st) M).trans (x_old _ _ 2 0 111 159 L st M)
theorem f111_159 (S : pm_S) (d : Nat) (L : List Value) (q : Nat) (r : List Value) (M : pm_M) : fr S (d) (111, 159, L, .ref q :: r) M = match pm_get M q with
  | some (.inr (c, fs)) => if c = 3 ∧ 9 < fs.length then fr S d (111, 162, L, fs.getD 9 pm_U :: r) M else none
  | _ => none := (fr_eq S (d) (111, 159, L, .ref q :: r) M).trans (x_ogf _ _ 3 9 111 162 L r q M)
theorem f111_162 (S : pm_S) (d : Nat) (L : List Value) (st : List Value) (M : pm_M) : fr S (d) (111, 162, L, st) M = if pm_ty (L.getD 1 pm_U) = 0 then fr S d (111, 163, L, L.getD 1 pm_U :: st) M else none := (fr_eq S (d) (111, 162, L, st) M).trans (x_old _ _ 0 1 111 163 L st M)
theorem f111_163 (S : pm_S) (d : Nat) (L : List Value) (st : List Value) (M : pm_M) : fr S (d) (111, 163, L, st) M = if pm_ty (L.getD 6 pm_U) = 0 then fr S d (111, 165, L, L.getD 6 pm_U :: st) M else none := (fr_eq S (d) (111, 163, L, st) M).trans (x_old _ _ 0 6 111 165 L st M)
theorem f111_165 (S : pm_S) (d : Nat) (L : List Value) (v : Value) (i : Int32) (q : Nat) (r : List Value) (M : pm_M) : fr S (d) (111, 165, L, v :: .int i :: .ref q :: r) M = if pm_sq M 9 v = true then (match (pm_get M q).bind (fun c => pm_ev 0 0 c i v) with
  | some c => fr S d (111, 166, L, r) (pm_set M q c)
  | none => none) else none := (fr_eq S (d) (111, 165, L, v :: .int i :: .ref q :: r) M).trans (x_oas _ _ 0 0 9 111 166 L r v i q M)
theorem f111_166 (S : pm_S) (d : Nat) (L : List Value) (st : List Value) (M : pm_M) : fr S (d) (111, 166, L, st) M = fr S d (111, 167, L, .int 1 :: st) M := (fr_eq S (d) (111, 166, L, st) M).trans (x_ocs _ _ (.int 1) 111 167 L st M)
theorem f111_167 (S : pm_S) (d : Nat) (L : List Value) (v : Value) (M : pm_M) : fr S (d) (111, 167, L, [v]) M = if pm_fit 3 v = true then some (.inl (some v), M) else none := (fr_eq S (d) (111, 167, L, [v]) M).trans (x_ort _ _ 3 v M)
theorem f112_0 (S : pm_S) (d : Nat) (L : List Value) (st : List Value) (M : pm_M) : fr S (d) (112, 0, L, st) M = if pm_ty (L.getD 0 pm_U) = 2 then fr S d (112, 1, L, L.getD 0 pm_U :: st) M else none := (fr_eq S (d) (112, 0, L, st) M).trans (x_old _ _ 2 0 112 1 L st M)
theorem f112_1 (S : pm_S) (d : Nat) (L : List Value) (st : List Value) (M : pm_M) : fr S (d) (112, 1, L, st) M = fr S d (112, 2, L, .int 0 :: st) M := (fr_eq S (d) (112, 1, L, st) M).trans (x_ocs _ _ (.int 0) 112 2 L st M)
theorem f112_2 (S : pm_S) (d : Nat) (L : List Value) (v : Value) (q : Nat) (r : List Value) (M : pm_M) : fr S (d) (112, 2, L, v :: .ref q :: r) M = match pm_get M q with
  | some (.inr (c, fs)) => if c = 3 ∧ 0 < fs.length ∧ pm_fit 0 v = true then fr S d (112, 5, L, r) (pm_set M q (.inr (c, fs.set 0 v))) else none
  | _ => none := (fr_eq S (d) (112, 2, L, v :: .ref q :: r) M).trans (x_opf _ _ 3 0 0 112 5 L r q v M)
theorem f112_5 (S : pm_S) (d : Nat) (L : List Value) (st : List Value) (M : pm_M) : fr S (d) (112, 5, L, st) M = if pm_ty (L.getD 0 pm_U) = 2 then fr S d (112, 6, L, L.getD 0 pm_U :: st) M else none := (fr_eq S (d) (112, 5, L, st) M).trans (x_old _ _ 2 0 112 6 L st M)
theorem f112_6 (S : pm_S) (d : Nat) (L : List Value) (st : List Value) (M : pm_M) : fr S (d) (112, 6, L, st) M = if pm_ty (L.getD 1 pm_U) = 0 then fr S d (112, 7, L, L.getD 1 pm_U :: st) M else none := (fr_eq S (d) (112, 6, L, st) M).trans (x_old _ _ 0 1 112 7 L st M)
theorem f112_7 (S : pm_S) (d : Nat) (L : List Value) (st : List Value) (M : pm_M) : fr S (d + 1) (112, 7, L, st) M = match pm_ag 2 [] st with
  | some (a, r) => if r.length ≤ 4 ∧ (1 = 0 ∨ pm_obj M 3 (a.headD pm_U) = true) then (match fr S d (105, 0, a ++ [], []) M with
    | none => none
    | some (.inl v, M') => fr S (d + 1) (112, 10, L, v.toList ++ r) M'
    | some (.inr E, M') => some (.inr E, M')) else none
  | none => none := (fr_eq S (d + 1) (112, 7, L, st) M).trans (x_ocl _ _ 1 105 2 3 [] 112 10 L st M)
theorem f112_10 (S : pm_S) (d : Nat) (L : List Value) (x : Int32) (r : List Value) (M : pm_M) : fr S (d) (112, 10, L, .int x :: r) M = if x = 0 then fr S d (112, 23, L, r) M else fr S d (112, 13, L, r) M := (fr_eq S (d) (112, 10, L, .int x :: r) M).trans (x_oc1eq _ _ 112 13 23 L r x M)
theorem f112_13 (S : pm_S) (d : Nat) (L : List Value) (st : List Value) (M : pm_M) : fr S (d) (112, 13, L, st) M = if pm_ty (L.getD 0 pm_U) = 2 then fr S d (112, 14, L, L.getD 0 pm_U :: st) M else none := (fr_eq S (d) (112, 13, L, st) M).trans (x_old _ _ 2 0 112 14 L st M)
theorem f112_14 (S : pm_S) (d : Nat) (L : List Value) (q : Nat) (r : List Value) (M : pm_M) : fr S (d) (112, 14, L, .ref q :: r) M = match pm_get M q with
  | some (.inr (c, fs)) => if c = 3 ∧ 9 < fs.length then fr S d (112, 17, L, fs.getD 9 pm_U :: r) M else none
  | _ => none := (fr_eq S (d) (112, 14, L, .ref q :: r) M).trans (x_ogf _ _ 3 9 112 17 L r q M)
theorem f112_17 (S : pm_S) (d : Nat) (L : List Value) (st : List Value) (M : pm_M) : fr S (d) (112, 17, L, st) M = if pm_ty (L.getD 1 pm_U) = 0 then fr S d (112, 18, L, L.getD 1 pm_U :: st) M else none := (fr_eq S (d) (112, 17, L, st) M).trans (x_old _ _ 0 1 112 18 L st M)
theorem f112_18 (S : pm_S) (d : Nat) (L : List Value) (i : Int32) (q : Nat) (hq : ¬ q = 1) (r : List Value) (M : pm_M) : fr S (d) (112, 18, L, .int i :: .ref q :: r) M = match (pm_get M q).bind (fun c => pm_el 0 c i) with
  | some v => fr S d (112, 19, L, v :: r) M
  | none => none := (fr_eq S (d) (112, 18, L, .int i :: .ref q :: r) M).trans (x_oal _ _ S 0 112 19 L r i q hq M)
theorem f112_19 (S : pm_S) (d : Nat) (L : List Value) (st : List Value) (M : pm_M) : fr S (d) (112, 19, L, st) M = fr S d (112, 20, L, .int (-1) :: st) M := (fr_eq S (d) (112, 19, L, st) M).trans (x_ocs _ _ (.int (-1)) 112 20 L st M)
theorem f112_20 (S : pm_S) (d : Nat) (L : List Value) (x y : Int32) (r : List Value) (M : pm_M) : fr S (d) (112, 20, L, .int y :: .int x :: r) M = if ¬ x = y then fr S d (112, 25, L, r) M else fr S d (112, 23, L, r) M := (fr_eq S (d) (112, 20, L, .int y :: .int x :: r) M).trans (x_oc2ne _ _ 112 23 25 L r x y M)
theorem f112_23 (S : pm_S) (d : Nat) (L : List Value) (st : List Value) (M : pm_M) : fr S (d) (112, 23, L, st) M = fr S d (112, 24, L, .int 0 :: st) M := (fr_eq S (d) (112, 23, L, st) M).trans (x_ocs _ _ (.int 0) 112 24 L st M)
theorem f112_24 (S : pm_S) (d : Nat) (L : List Value) (v : Value) (M : pm_M) : fr S (d) (112, 24, L, [v]) M = if pm_fit 3 v = true then some (.inl (some v), M) else none := (fr_eq S (d) (112, 24, L, [v]) M).trans (x_ort _ _ 3 v M)
theorem f112_25 (S : pm_S) (d : Nat) (L : List Value) (st : List Value) (M : pm_M) : fr S (d) (112, 25, L, st) M = if pm_ty (L.getD 0 pm_U) = 2 then fr S d (112, 26, L, L.getD 0 pm_U :: st) M else none := (fr_eq S (d) (112, 25, L, st) M).trans (x_old _ _ 2 0 112 26 L st M)
theorem f112_26 (S : pm_S) (d : Nat) (L : List Value) (st : List Value) (M : pm_M) : fr S (d) (112, 26, L, st) M = if pm_ty (L.getD 1 pm_U) = 0 then fr S d (112, 27, L, L.getD 1 pm_U :: st) M else none := (fr_eq S (d) (112, 26, L, st) M).trans (x_old _ _ 0 1 112 27 L st M)
theorem f112_27 (S : pm_S) (d : Nat) (L : List Value) (st : List Value) (M : pm_M) : fr S (d) (112, 27, L, st) M = if pm_ty (L.getD 0 pm_U) = 2 then fr S d (112, 28, L, L.getD 0 pm_U :: st) M else none := (fr_eq S (d) (112, 27, L, st) M).trans (x_old _ _ 2 0 112 28 L st M)
theorem f112_28 (S : pm_S) (d : Nat) (L : List Value) (q : Nat) (r : List Value) (M : pm_M) : fr S (d) (112, 28, L, .ref q :: r) M = match pm_get M q with
  | some (.inr (c, fs)) => if c = 3 ∧ 9 < fs.length then fr S d (112, 31, L, fs.getD 9 pm_U :: r) M else none
  | _ => none := (fr_eq S (d) (112, 28, L, .ref q :: r) M).trans (x_ogf _ _ 3 9 112 31 L r q M)
theorem f112_31 (S : pm_S) (d : Nat) (L : List Value) (st : List Value) (M : pm_M) : fr S (d) (112, 31, L, st) M = if pm_ty (L.getD 1 pm_U) = 0 then fr S d (112, 32, L, L.getD 1 pm_U :: st) M else none := (fr_eq S (d) (112, 31, L, st) M).trans (x_old _ _ 0 1 112 32 L st M)
theorem f112_32 (S : pm_S) (d : Nat) (L : List Value) (i : Int32) (q : Nat) (hq : ¬ q = 1) (r : List Value) (M : pm_M) : fr S (d) (112, 32, L, .int i :: .ref q :: r) M = match (pm_get M q).bind (fun c => pm_el 0 c i) with
  | some v => fr S d (112, 33, L, v :: r) M
  | none => none := (fr_eq S (d) (112, 32, L, .int i :: .ref q :: r) M).trans (x_oal _ _ S 0 112 33 L r i q hq M)
theorem f112_33 (S : pm_S) (d : Nat) (L : List Value) (st : List Value) (M : pm_M) : fr S (d) (112, 33, L, st) M = fr S d (112, 34, L, .int (-1) :: st) M := (fr_eq S (d) (112, 33, L, st) M).trans (x_ocs _ _ (.int (-1)) 112 34 L st M)
theorem f112_34 (S : pm_S) (d : Nat) (L : List Value) (st : List Value) (M : pm_M) : fr S (d + 1) (112, 34, L, st) M = match pm_ag 4 [] st with
  | some (a, r) => if r.length ≤ 4 ∧ (1 = 0 ∨ pm_obj M 3 (a.headD pm_U) = true) then (match fr S d (110, 0, a ++ [], []) M with
    | none => none
    | some (.inl v, M') => fr S (d + 1) (112, 37, L, v.toList ++ r) M'
    | some (.inr E, M') => some (.inr E, M')) else none
  | none => none := (fr_eq S (d + 1) (112, 34, L, st) M).trans (x_ocl _ _ 1 110 4 3 [] 112 37 L st M)
theorem f112_37 (S : pm_S) (d : Nat) (L : List Value) (st : List Value) (M : pm_M) : fr S (d) (112, 37, L, st) M = if pm_ty (L.getD 0 pm_U) = 2 then fr S d (112, 38, L, L.getD 0 pm_U :: st) M else none := (fr_eq S (d) (112, 37, L, st) M).trans (x_old _ _ 2 0 112 38 L st M)
theorem f112_38 (S : pm_S) (d : Nat) (L : List Value) (q : Nat) (r : List Value) (M : pm_M) : fr S (d) (112, 38, L, .ref q :: r) M = match pm_get M q with
  | some (.inr (c, fs)) => if c = 3 ∧ 9 < fs.length then fr S d (112, 41, L, fs.getD 9 pm_U :: r) M else none
  | _ => none := (fr_eq S (d) (112, 38, L, .ref q :: r) M).trans (x_ogf _ _ 3 9 112 41 L r q M)
theorem f112_41 (S : pm_S) (d : Nat) (L : List Value) (st : List Value) (M : pm_M) : fr S (d) (112, 41, L, st) M = if pm_ty (L.getD 1 pm_U) = 0 then fr S d (112, 42, L, L.getD 1 pm_U :: st) M else none := (fr_eq S (d) (112, 41, L, st) M).trans (x_old _ _ 0 1 112 42 L st M)
theorem f112_42 (S : pm_S) (d : Nat) (L : List Value) (st : List Value) (M : pm_M) : fr S (d) (112, 42, L, st) M = fr S d (112, 43, L, .int (-1) :: st) M := (fr_eq S (d) (112, 42, L, st) M).trans (x_ocs _ _ (.int (-1)) 112 43 L st M)
theorem f112_43 (S : pm_S) (d : Nat) (L : List Value) (v : Value) (i : Int32) (q : Nat) (r : List Value) (M : pm_M) : fr S (d) (112, 43, L, v :: .int i :: .ref q :: r) M = if pm_sq M 9 v = true then (match (pm_get M q).bind (fun c => pm_ev 0 0 c i v) with
  | some c => fr S d (112, 44, L, r) (pm_set M q c)
  | none => none) else none := (fr_eq S (d) (112, 43, L, v :: .int i :: .ref q :: r) M).trans (x_oas _ _ 0 0 9 112 44 L r v i q M)
theorem f112_44 (S : pm_S) (d : Nat) (L : List Value) (st : List Value) (M : pm_M) : fr S (d) (112, 44, L, st) M = fr S d (112, 45, L, .int 1 :: st) M := (fr_eq S (d) (112, 44, L, st) M).trans (x_ocs _ _ (.int 1) 112 45 L st M)
theorem f112_45 (S : pm_S) (d : Nat) (L : List Value) (v : Value) (M : pm_M) : fr S (d) (112, 45, L, [v]) M = if pm_fit 3 v = true then some (.inl (some v), M) else none := (fr_eq S (d) (112, 45, L, [v]) M).trans (x_ort _ _ 3 v M)
theorem f113_0 (S : pm_S) (d : Nat) (L : List Value) (st : List Value) (M : pm_M) : fr S (d) (113, 0, L, st) M = if pm_ty (L.getD 0 pm_U) = 2 then fr S d (113, 1, L, L.getD 0 pm_U :: st) M else none := (fr_eq S (d) (113, 0, L, st) M).trans (x_old _ _ 2 0 113 1 L st M)
theorem f113_1 (S : pm_S) (d : Nat) (L : List Value) (st : List Value) (M : pm_M) : fr S (d) (113, 1, L, st) M = fr S d (113, 2, L, .int 0 :: st) M := (fr_eq S (d) (113, 1, L, st) M).trans (x_ocs _ _ (.int 0) 113 2 L st M)
theorem f113_2 (S : pm_S) (d : Nat) (L : List Value) (v : Value) (q : Nat) (r : List Value) (M : pm_M) : fr S (d) (113, 2, L, v :: .ref q :: r) M = match pm_get M q with
  | some (.inr (c, fs)) => if c = 3 ∧ 0 < fs.length ∧ pm_fit 0 v = true then fr S d (113, 5, L, r) (pm_set M q (.inr (c, fs.set 0 v))) else none
  | _ => none := (fr_eq S (d) (113, 2, L, v :: .ref q :: r) M).trans (x_opf _ _ 3 0 0 113 5 L r q v M)
theorem f113_5 (S : pm_S) (d : Nat) (L : List Value) (st : List Value) (M : pm_M) : fr S (d) (113, 5, L, st) M = if pm_ty (L.getD 0 pm_U) = 2 then fr S d (113, 6, L, L.getD 0 pm_U :: st) M else none := (fr_eq S (d) (113, 5, L, st) M).trans (x_old _ _ 2 0 113 6 L st M)
theorem f113_6 (S : pm_S) (d : Nat) (L : List Value) (st : List Value) (M : pm_M) : fr S (d) (113, 6, L, st) M = if pm_ty (L.getD 1 pm_U) = 0 then fr S d (113, 7, L, L.getD 1 pm_U :: st) M else none := (fr_eq S (d) (113, 6, L, st) M).trans (x_old _ _ 0 1 113 7 L st M)
theorem f113_7 (S : pm_S) (d : Nat) (L : List Value) (st : List Value) (M : pm_M) : fr S (d + 1) (113, 7, L, st) M = match pm_ag 2 [] st with
  | some (a, r) => if r.length ≤ 4 ∧ (1 = 0 ∨ pm_obj M 3 (a.headD pm_U) = true) then (match fr S d (106, 0, a ++ [], []) M with
    | none => none
    | some (.inl v, M') => fr S (d + 1) (113, 10, L, v.toList ++ r) M'
    | some (.inr E, M') => some (.inr E, M')) else none
  | none => none := (fr_eq S (d + 1) (113, 7, L, st) M).trans (x_ocl _ _ 1 106 2 3 [] 113 10 L st M)
theorem f113_10 (S : pm_S) (d : Nat) (L : List Value) (x : Int32) (r : List Value) (M : pm_M) : fr S (d) (113, 10, L, .int x :: r) M = if x = 0 then fr S d (113, 24, L, r) M else fr S d (113, 13, L, r) M := (fr_eq S (d) (113, 10, L, .int x :: r) M).trans (x_oc1eq _ _ 113 13 24 L r x M)
theorem f113_13 (S : pm_S) (d : Nat) (L : List Value) (st : List Value) (M : pm_M) : fr S (d) (113, 13, L, st) M = if pm_ty (L.getD 2 pm_U) = 0 then fr S d (113, 14, L, L.getD 2 pm_U :: st) M else none := (fr_eq S (d) (113, 13, L, st) M).trans (x_old _ _ 0 2 113 14 L st M)
theorem f113_14 (S : pm_S) (d : Nat) (L : List Value) (st : List Value) (M : pm_M) : fr S (d) (113, 14, L, st) M = fr S d (113, 15, L, .int 1 :: st) M := (fr_eq S (d) (113, 14, L, st) M).trans (x_ocs _ _ (.int 1) 113 15 L st M)
theorem f113_15 (S : pm_S) (d : Nat) (L : List Value) (st : List Value) (M : pm_M) : fr S (d) (113, 15, L, st) M = fr S d (113, 18, L, .int 200 :: st) M := (fr_eq S (d) (113, 15, L, st) M).trans (x_ocs _ _ (.int 200) 113 18 L st M)
theorem f113_18 (S : pm_S) (d : Nat) (L : List Value) (st : List Value) (M : pm_M) : fr S (d + 1) (113, 18, L, st) M = match pm_ag 3 [] st with
  | some (a, r) => if r.length ≤ 4 ∧ (0 = 0 ∨ pm_obj M 3 (a.headD pm_U) = true) then (match fr S d (104, 0, a ++ [], []) M with
    | none => none
    | some (.inl v, M') => fr S (d + 1) (113, 21, L, v.toList ++ r) M'
    | some (.inr E, M') => some (.inr E, M')) else none
  | none => none := (fr_eq S (d + 1) (113, 18, L, st) M).trans (x_ocl _ _ 0 104 3 3 [] 113 21 L st M)
theorem f113_21 (S : pm_S) (d : Nat) (L : List Value) (x : Int32) (r : List Value) (M : pm_M) : fr S (d) (113, 21, L, .int x :: r) M = if ¬ x = 0 then fr S d (113, 26, L, r) M else fr S d (113, 24, L, r) M := (fr_eq S (d) (113, 21, L, .int x :: r) M).trans (x_oc1ne _ _ 113 24 26 L r x M)
theorem f113_24 (S : pm_S) (d : Nat) (L : List Value) (st : List Value) (M : pm_M) : fr S (d) (113, 24, L, st) M = fr S d (113, 25, L, .int 0 :: st) M := (fr_eq S (d) (113, 24, L, st) M).trans (x_ocs _ _ (.int 0) 113 25 L st M)
theorem f113_25 (S : pm_S) (d : Nat) (L : List Value) (v : Value) (M : pm_M) : fr S (d) (113, 25, L, [v]) M = if pm_fit 3 v = true then some (.inl (some v), M) else none := (fr_eq S (d) (113, 25, L, [v]) M).trans (x_ort _ _ 3 v M)
theorem f113_26 (S : pm_S) (d : Nat) (L : List Value) (st : List Value) (M : pm_M) : fr S (d) (113, 26, L, st) M = if pm_ty (L.getD 0 pm_U) = 2 then fr S d (113, 27, L, L.getD 0 pm_U :: st) M else none := (fr_eq S (d) (113, 26, L, st) M).trans (x_old _ _ 2 0 113 27 L st M)
theorem f113_27 (S : pm_S) (d : Nat) (L : List Value) (q : Nat) (r : List Value) (M : pm_M) : fr S (d) (113, 27, L, .ref q :: r) M = match pm_get M q with
  | some (.inr (c, fs)) => if c = 3 ∧ 12 < fs.length then fr S d (113, 30, L, fs.getD 12 pm_U :: r) M else none
  | _ => none := (fr_eq S (d) (113, 27, L, .ref q :: r) M).trans (x_ogf _ _ 3 12 113 30 L r q M)
theorem f113_30 (S : pm_S) (d : Nat) (L : List Value) (st : List Value) (M : pm_M) : fr S (d) (113, 30, L, st) M = if pm_ty (L.getD 1 pm_U) = 0 then fr S d (113, 31, L, L.getD 1 pm_U :: st) M else none := (fr_eq S (d) (113, 30, L, st) M).trans (x_old _ _ 0 1 113 31 L st M)
theorem f113_31 (S : pm_S) (d : Nat) (L : List Value) (st : List Value) (M : pm_M) : fr S (d) (113, 31, L, st) M = if pm_ty (L.getD 2 pm_U) = 0 then fr S d (113, 32, L, L.getD 2 pm_U :: st) M else none := (fr_eq S (d) (113, 31, L, st) M).trans (x_old _ _ 0 2 113 32 L st M)
theorem f113_32 (S : pm_S) (d : Nat) (L : List Value) (v : Value) (i : Int32) (q : Nat) (r : List Value) (M : pm_M) : fr S (d) (113, 32, L, v :: .int i :: .ref q :: r) M = if pm_sq M 9 v = true then (match (pm_get M q).bind (fun c => pm_ev 0 0 c i v) with
  | some c => fr S d (113, 33, L, r) (pm_set M q c)
  | none => none) else none := (fr_eq S (d) (113, 32, L, v :: .int i :: .ref q :: r) M).trans (x_oas _ _ 0 0 9 113 33 L r v i q M)
theorem f113_33 (S : pm_S) (d : Nat) (L : List Value) (st : List Value) (M : pm_M) : fr S (d) (113, 33, L, st) M = fr S d (113, 34, L, .int 1 :: st) M := (fr_eq S (d) (113, 33, L, st) M).trans (x_ocs _ _ (.int 1) 113 34 L st M)
theorem f113_34 (S : pm_S) (d : Nat) (L : List Value) (v : Value) (M : pm_M) : fr S (d) (113, 34, L, [v]) M = if pm_fit 3 v = true then some (.inl (some v), M) else none := (fr_eq S (d) (113, 34, L, [v]) M).trans (x_ort _ _ 3 v M)
theorem f114_0 (S : pm_S) (d : Nat) (L : List Value) (st : List Value) (M : pm_M) : fr S (d) (114, 0, L, st) M = if pm_ty (L.getD 0 pm_U) = 2 then fr S d (114, 1, L, L.getD 0 pm_U :: st) M else none := (fr_eq S (d) (114, 0, L, st) M).trans (x_old _ _ 2 0 114 1 L st M)
theorem f114_1 (S : pm_S) (d : Nat) (L : List Value) (st : List Value) (M : pm_M) : fr S (d) (114, 1, L, st) M = if pm_ty (L.getD 0 pm_U) = 2 then fr S d (114, 2, L, L.getD 0 pm_U :: st) M else none := (fr_eq S (d) (114, 1, L, st) M).trans (x_old _ _ 2 0 114 2 L st M)
theorem f114_2 (S : pm_S) (d : Nat) (L : List Value) (st : List Value) (M : pm_M) : fr S (d) (114, 2, L, st) M = if pm_ty (L.getD 1 pm_U) = 0 then fr S d (114, 3, L, L.getD 1 pm_U :: st) M else none := (fr_eq S (d) (114, 2, L, st) M).trans (x_old _ _ 0 1 114 3 L st M)
theorem f114_3 (S : pm_S) (d : Nat) (L : List Value) (st : List Value) (M : pm_M) : fr S (d) (114, 3, L, st) M = if pm_ty (L.getD 2 pm_U) = 0 then fr S d (114, 4, L, L.getD 2 pm_U :: st) M else none := (fr_eq S (d) (114, 3, L, st) M).trans (x_old _ _ 0 2 114 4 L st M)
theorem f114_4 (S : pm_S) (d : Nat) (L : List Value) (st : List Value) (M : pm_M) : fr S (d) (114, 4, L, st) M = if pm_ty (L.getD 3 pm_U) = 0 then fr S d (114, 5, L, L.getD 3 pm_U :: st) M else none := (fr_eq S (d) (114, 4, L, st) M).trans (x_old _ _ 0 3 114 5 L st M)
theorem f114_5 (S : pm_S) (d : Nat) (L : List Value) (st : List Value) (M : pm_M) : fr S (d + 1) (114, 5, L, st) M = match pm_ag 4 [] st with
  | some (a, r) => if r.length ≤ 4 ∧ (1 = 0 ∨ pm_obj M 3 (a.headD pm_U) = true) then (match fr S d (107, 0, a ++ [], []) M with
    | none => none
    | some (.inl v, M') => fr S (d + 1) (114, 8, L, v.toList ++ r) M'
    | some (.inr E, M') => some (.inr E, M')) else none
  | none => none := (fr_eq S (d + 1) (114, 5, L, st) M).trans (x_ocl _ _ 1 107 4 3 [] 114 8 L st M)
theorem f114_8 (S : pm_S) (d : Nat) (L : List Value) (x : Int32) (r : List Value) (M : pm_M) : fr S (d) (114, 8, L, .int x :: r) M = if x = 0 then fr S d (114, 15, L, r) M else fr S d (114, 11, L, r) M := (fr_eq S (d) (114, 8, L, .int x :: r) M).trans (x_oc1eq _ _ 114 11 15 L r x M)
theorem f114_11 (S : pm_S) (d : Nat) (L : List Value) (st : List Value) (M : pm_M) : fr S (d) (114, 11, L, st) M = fr S d (114, 12, L, .int 0 :: st) M := (fr_eq S (d) (114, 11, L, st) M).trans (x_ocs _ _ (.int 0) 114 12 L st M)
theorem f114_12 (S : pm_S) (d : Nat) (L : List Value) (st : List Value) (M : pm_M) : fr S (d) (114, 12, L, st) M = fr S d (114, 16, L, st) M := (fr_eq S (d) (114, 12, L, st) M).trans (x_ogo _ _ 114 16 L st M)
theorem f114_15 (S : pm_S) (d : Nat) (L : List Value) (st : List Value) (M : pm_M) : fr S (d) (114, 15, L, st) M = fr S d (114, 16, L, .int 1 :: st) M := (fr_eq S (d) (114, 15, L, st) M).trans (x_ocs _ _ (.int 1) 114 16 L st M)
theorem f114_16 (S : pm_S) (d : Nat) (L : List Value) (v : Value) (q : Nat) (r : List Value) (M : pm_M) : fr S (d) (114, 16, L, v :: .ref q :: r) M = match pm_get M q with
  | some (.inr (c, fs)) => if c = 3 ∧ 0 < fs.length ∧ pm_fit 0 v = true then fr S d (114, 19, L, r) (pm_set M q (.inr (c, fs.set 0 v))) else none
  | _ => none := (fr_eq S (d) (114, 16, L, v :: .ref q :: r) M).trans (x_opf _ _ 3 0 0 114 19 L r q v M)
theorem f114_19 (S : pm_S) (d : Nat) (L : List Value) (st : List Value) (M : pm_M) : fr S (d) (114, 19, L, st) M = if pm_ty (L.getD 0 pm_U) = 2 then fr S d (114, 20, L, L.getD 0 pm_U :: st) M else none := (fr_eq S (d) (114, 19, L, st) M).trans (x_old _ _ 2 0 114 20 L st M)
theorem f114_20 (S : pm_S) (d : Nat) (L : List Value) (q : Nat) (r : List Value) (M : pm_M) : fr S (d) (114, 20, L, .ref q :: r) M = match pm_get M q with
  | some (.inr (c, fs)) => if c = 3 ∧ 0 < fs.length then fr S d (114, 23, L, fs.getD 0 pm_U :: r) M else none
  | _ => none := (fr_eq S (d) (114, 20, L, .ref q :: r) M).trans (x_ogf _ _ 3 0 114 23 L r q M)
theorem f114_23 (S : pm_S) (d : Nat) (L : List Value) (x : Int32) (r : List Value) (M : pm_M) : fr S (d) (114, 23, L, .int x :: r) M = if 0 < x then fr S d (114, 42, L, r) M else fr S d (114, 26, L, r) M := (fr_eq S (d) (114, 23, L, .int x :: r) M).trans (x_oc1gt _ _ 114 26 42 L r x M)
theorem f114_26 (S : pm_S) (d : Nat) (L : List Value) (st : List Value) (M : pm_M) : fr S (d) (114, 26, L, st) M = if pm_ty (L.getD 0 pm_U) = 2 then fr S d (114, 27, L, L.getD 0 pm_U :: st) M else none := (fr_eq S (d) (114, 26, L, st) M).trans (x_old _ _ 2 0 114 27 L st M)
theorem f114_27 (S : pm_S) (d : Nat) (L : List Value) (q : Nat) (r : List Value) (M : pm_M) : fr S (d) (114, 27, L, .ref q :: r) M = match pm_get M q with
  | some (.inr (c, fs)) => if c = 3 ∧ 11 < fs.length then fr S d (114, 30, L, fs.getD 11 pm_U :: r) M else none
  | _ => none := (fr_eq S (d) (114, 27, L, .ref q :: r) M).trans (x_ogf _ _ 3 11 114 30 L r q M)
theorem f114_30 (S : pm_S) (d : Nat) (L : List Value) (st : List Value) (M : pm_M) : fr S (d) (114, 30, L, st) M = if pm_ty (L.getD 1 pm_U) = 0 then fr S d (114, 31, L, L.getD 1 pm_U :: st) M else none := (fr_eq S (d) (114, 30, L, st) M).trans (x_old _ _ 0 1 114 31 L st M)
theorem f114_31 (S : pm_S) (d : Nat) (L : List Value) (st : List Value) (M : pm_M) : fr S (d) (114, 31, L, st) M = if pm_ty (L.getD 2 pm_U) = 0 then fr S d (114, 32, L, L.getD 2 pm_U :: st) M else none := (fr_eq S (d) (114, 31, L, st) M).trans (x_old _ _ 0 2 114 32 L st M)
theorem f114_32 (S : pm_S) (d : Nat) (L : List Value) (st : List Value) (M : pm_M) : fr S (d) (114, 32, L, st) M = if pm_ty (L.getD 3 pm_U) = 0 then fr S d (114, 33, L, L.getD 3 pm_U :: st) M else none := (fr_eq S (d) (114, 32, L, st) M).trans (x_old _ _ 0 3 114 33 L st M)
theorem f114_33 (S : pm_S) (d : Nat) (L : List Value) (st : List Value) (M : pm_M) : fr S (d + 1) (114, 33, L, st) M = match pm_ag 3 [] st with
  | some (a, r) => if r.length ≤ 4 ∧ (0 = 0 ∨ pm_obj M 3 (a.headD pm_U) = true) then (match fr S d (108, 0, a ++ [], []) M with
    | none => none
    | some (.inl v, M') => fr S (d + 1) (114, 36, L, v.toList ++ r) M'
    | some (.inr E, M') => some (.inr E, M')) else none
  | none => none := (fr_eq S (d + 1) (114, 33, L, st) M).trans (x_ocl _ _ 0 108 3 3 [] 114 36 L st M)
theorem f114_36 (S : pm_S) (d : Nat) (L : List Value) (i : Int32) (q : Nat) (hq : ¬ q = 1) (r : List Value) (M : pm_M) : fr S (d) (114, 36, L, .int i :: .ref q :: r) M = match (pm_get M q).bind (fun c => pm_el 1 c i) with
  | some v => fr S d (114, 37, L, v :: r) M
  | none => none := (fr_eq S (d) (114, 36, L, .int i :: .ref q :: r) M).trans (x_oal _ _ S 1 114 37 L r i q hq M)
theorem f114_37 (S : pm_S) (d : Nat) (L : List Value) (st : List Value) (M : pm_M) : fr S (d) (114, 37, L, st) M = if pm_ty (L.getD 4 pm_U) = 0 then fr S d (114, 39, L, L.getD 4 pm_U :: st) M else none := (fr_eq S (d) (114, 37, L, st) M).trans (x_old _ _ 0 4 114 39 L st M)
theorem f114_39 (S : pm_S) (d : Nat) (L : List Value) (x y : Int32) (r : List Value) (M : pm_M) : fr S (d) (114, 39, L, .int y :: .int x :: r) M = if ¬ x = y then fr S d (114, 44, L, r) M else fr S d (114, 42, L, r) M := (fr_eq S (d) (114, 39, L, .int y :: .int x :: r) M).trans (x_oc2ne _ _ 114 42 44 L r x y M)
theorem f114_42 (S : pm_S) (d : Nat) (L : List Value) (st : List Value) (M : pm_M) : fr S (d) (114, 42, L, st) M = fr S d (114, 43, L, .int 0 :: st) M := (fr_eq S (d) (114, 42, L, st) M).trans (x_ocs _ _ (.int 0) 114 43 L st M)
theorem f114_43 (S : pm_S) (d : Nat) (L : List Value) (v : Value) (M : pm_M) : fr S (d) (114, 43, L, [v]) M = if pm_fit 3 v = true then some (.inl (some v), M) else none := (fr_eq S (d) (114, 43, L, [v]) M).trans (x_ort _ _ 3 v M)
theorem f114_44 (S : pm_S) (d : Nat) (L : List Value) (st : List Value) (M : pm_M) : fr S (d) (114, 44, L, st) M = if pm_ty (L.getD 0 pm_U) = 2 then fr S d (114, 45, L, L.getD 0 pm_U :: st) M else none := (fr_eq S (d) (114, 44, L, st) M).trans (x_old _ _ 2 0 114 45 L st M)
theorem f114_45 (S : pm_S) (d : Nat) (L : List Value) (q : Nat) (r : List Value) (M : pm_M) : fr S (d) (114, 45, L, .ref q :: r) M = match pm_get M q with
  | some (.inr (c, fs)) => if c = 3 ∧ 11 < fs.length then fr S d (114, 48, L, fs.getD 11 pm_U :: r) M else none
  | _ => none := (fr_eq S (d) (114, 45, L, .ref q :: r) M).trans (x_ogf _ _ 3 11 114 48 L r q M)
theorem f114_48 (S : pm_S) (d : Nat) (L : List Value) (st : List Value) (M : pm_M) : fr S (d) (114, 48, L, st) M = if pm_ty (L.getD 1 pm_U) = 0 then fr S d (114, 49, L, L.getD 1 pm_U :: st) M else none := (fr_eq S (d) (114, 48, L, st) M).trans (x_old _ _ 0 1 114 49 L st M)
theorem f114_49 (S : pm_S) (d : Nat) (L : List Value) (st : List Value) (M : pm_M) : fr S (d) (114, 49, L, st) M = if pm_ty (L.getD 2 pm_U) = 0 then fr S d (114, 50, L, L.getD 2 pm_U :: st) M else none := (fr_eq S (d) (114, 49, L, st) M).trans (x_old _ _ 0 2 114 50 L st M)
theorem f114_50 (S : pm_S) (d : Nat) (L : List Value) (st : List Value) (M : pm_M) : fr S (d) (114, 50, L, st) M = if pm_ty (L.getD 3 pm_U) = 0 then fr S d (114, 51, L, L.getD 3 pm_U :: st) M else none := (fr_eq S (d) (114, 50, L, st) M).trans (x_old _ _ 0 3 114 51 L st M)
theorem f114_51 (S : pm_S) (d : Nat) (L : List Value) (st : List Value) (M : pm_M) : fr S (d + 1) (114, 51, L, st) M = match pm_ag 3 [] st with
  | some (a, r) => if r.length ≤ 4 ∧ (0 = 0 ∨ pm_obj M 3 (a.headD pm_U) = true) then (match fr S d (108, 0, a ++ [], []) M with
    | none => none
    | some (.inl v, M') => fr S (d + 1) (114, 54, L, v.toList ++ r) M'
    | some (.inr E, M') => some (.inr E, M')) else none
  | none => none := (fr_eq S (d + 1) (114, 51, L, st) M).trans (x_ocl _ _ 0 108 3 3 [] 114 54 L st M)
theorem f114_54 (S : pm_S) (d : Nat) (L : List Value) (st : List Value) (M : pm_M) : fr S (d) (114, 54, L, st) M = if pm_ty (L.getD 4 pm_U) = 0 then fr S d (114, 56, L, L.getD 4 pm_U :: st) M else none := (fr_eq S (d) (114, 54, L, st) M).trans (x_old _ _ 0 4 114 56 L st M)
theorem f114_56 (S : pm_S) (d : Nat) (L : List Value) (v : Value) (i : Int32) (q : Nat) (r : List Value) (M : pm_M) : fr S (d) (114, 56, L, v :: .int i :: .ref q :: r) M = if pm_sq M 9 v = true then (match (pm_get M q).bind (fun c => pm_ev 3 1 c i v) with
  | some c => fr S d (114, 57, L, r) (pm_set M q c)
  | none => none) else none := (fr_eq S (d) (114, 56, L, v :: .int i :: .ref q :: r) M).trans (x_oas _ _ 3 1 9 114 57 L r v i q M)
theorem f114_57 (S : pm_S) (d : Nat) (L : List Value) (st : List Value) (M : pm_M) : fr S (d) (114, 57, L, st) M = fr S d (114, 58, L, .int 1 :: st) M := (fr_eq S (d) (114, 57, L, st) M).trans (x_ocs _ _ (.int 1) 114 58 L st M)
theorem f114_58 (S : pm_S) (d : Nat) (L : List Value) (v : Value) (M : pm_M) : fr S (d) (114, 58, L, [v]) M = if pm_fit 3 v = true then some (.inl (some v), M) else none := (fr_eq S (d) (114, 58, L, [v]) M).trans (x_ort _ _ 3 v M)
theorem f115_0 (S : pm_S) (d : Nat) (L : List Value) (st : List Value) (M : pm_M) : fr S (d) (115, 0, L, st) M = if pm_ty (L.getD 0 pm_U) = 2 then fr S d (115, 1, L, L.getD 0 pm_U :: st) M else none := (fr_eq S (d) (115, 0, L, st) M).trans (x_old _ _ 2 0 115 1 L st M)
theorem f115_1 (S : pm_S) (d : Nat) (L : List Value) (st : List Value) (M : pm_M) : fr S (d) (115, 1, L, st) M = fr S d (115, 2, L, .int 0 :: st) M := (fr_eq S (d) (115, 1, L, st) M).trans (x_ocs _ _ (.int 0) 115 2 L st M)
theorem f115_2 (S : pm_S) (d : Nat) (L : List Value) (v : Value) (q : Nat) (r : List Value) (M : pm_M) : fr S (d) (115, 2, L, v :: .ref q :: r) M = match pm_get M q with
  | some (.inr (c, fs)) => if c = 3 ∧ 0 < fs.length ∧ pm_fit 0 v = true then fr S d (115, 5, L, r) (pm_set M q (.inr (c, fs.set 0 v))) else none
  | _ => none := (fr_eq S (d) (115, 2, L, v :: .ref q :: r) M).trans (x_opf _ _ 3 0 0 115 5 L r q v M)
theorem f115_5 (S : pm_S) (d : Nat) (L : List Value) (st : List Value) (M : pm_M) : fr S (d) (115, 5, L, st) M = if pm_ty (L.getD 0 pm_U) = 2 then fr S d (115, 6, L, L.getD 0 pm_U :: st) M else none := (fr_eq S (d) (115, 5, L, st) M).trans (x_old _ _ 2 0 115 6 L st M)
theorem f115_6 (S : pm_S) (d : Nat) (L : List Value) (st : List Value) (M : pm_M) : fr S (d) (115, 6, L, st) M = if pm_ty (L.getD 1 pm_U) = 0 then fr S d (115, 7, L, L.getD 1 pm_U :: st) M else none := (fr_eq S (d) (115, 6, L, st) M).trans (x_old _ _ 0 1 115 7 L st M)
theorem f115_7 (S : pm_S) (d : Nat) (L : List Value) (st : List Value) (M : pm_M) : fr S (d + 1) (115, 7, L, st) M = match pm_ag 2 [] st with
  | some (a, r) => if r.length ≤ 4 ∧ (1 = 0 ∨ pm_obj M 3 (a.headD pm_U) = true) then (match fr S d (105, 0, a ++ [], []) M with
    | none => none
    | some (.inl v, M') => fr S (d + 1) (115, 10, L, v.toList ++ r) M'
    | some (.inr E, M') => some (.inr E, M')) else none
  | none => none := (fr_eq S (d + 1) (115, 7, L, st) M).trans (x_ocl _ _ 1 105 2 3 [] 115 10 L st M)
theorem f115_10 (S : pm_S) (d : Nat) (L : List Value) (x : Int32) (r : List Value) (M : pm_M) : fr S (d) (115, 10, L, .int x :: r) M = if x = 0 then fr S d (115, 41, L, r) M else fr S d (115, 13, L, r) M := (fr_eq S (d) (115, 10, L, .int x :: r) M).trans (x_oc1eq _ _ 115 13 41 L r x M)
theorem f115_13 (S : pm_S) (d : Nat) (L : List Value) (st : List Value) (M : pm_M) : fr S (d) (115, 13, L, st) M = if pm_ty (L.getD 0 pm_U) = 2 then fr S d (115, 14, L, L.getD 0 pm_U :: st) M else none := (fr_eq S (d) (115, 13, L, st) M).trans (x_old _ _ 2 0 115 14 L st M)
theorem f115_14 (S : pm_S) (d : Nat) (L : List Value) (st : List Value) (M : pm_M) : fr S (d) (115, 14, L, st) M = if pm_ty (L.getD 2 pm_U) = 0 then fr S d (115, 15, L, L.getD 2 pm_U :: st) M else none := (fr_eq S (d) (115, 14, L, st) M).trans (x_old _ _ 0 2 115 15 L st M)
theorem f115_15 (S : pm_S) (d : Nat) (L : List Value) (st : List Value) (M : pm_M) : fr S (d + 1) (115, 15, L, st) M = match pm_ag 2 [] st with
  | some (a, r) => if r.length ≤ 4 ∧ (1 = 0 ∨ pm_obj M 3 (a.headD pm_U) = true) then (match fr S d (105, 0, a ++ [], []) M with
    | none => none
    | some (.inl v, M') => fr S (d + 1) (115, 18, L, v.toList ++ r) M'
    | some (.inr E, M') => some (.inr E, M')) else none
  | none => none := (fr_eq S (d + 1) (115, 15, L, st) M).trans (x_ocl _ _ 1 105 2 3 [] 115 18 L st M)
theorem f115_18 (S : pm_S) (d : Nat) (L : List Value) (x : Int32) (r : List Value) (M : pm_M) : fr S (d) (115, 18, L, .int x :: r) M = if x = 0 then fr S d (115, 41, L, r) M else fr S d (115, 21, L, r) M := (fr_eq S (d) (115, 18, L, .int x :: r) M).trans (x_oc1eq _ _ 115 21 41 L r x M)
theorem f115_21 (S : pm_S) (d : Nat) (L : List Value) (st : List Value) (M : pm_M) : fr S (d) (115, 21, L, st) M = if pm_ty (L.getD 1 pm_U) = 0 then fr S d (115, 22, L, L.getD 1 pm_U :: st) M else none := (fr_eq S (d) (115, 21, L, st) M).trans (x_old _ _ 0 1 115 22 L st M)
theorem f115_22 (S : pm_S) (d : Nat) (L : List Value) (st : List Value) (M : pm_M) : fr S (d) (115, 22, L, st) M = if pm_ty (L.getD 2 pm_U) = 0 then fr S d (115, 23, L, L.getD 2 pm_U :: st) M else none := (fr_eq S (d) (115, 22, L, st) M).trans (x_old _ _ 0 2 115 23 L st M)
theorem f115_23 (S : pm_S) (d : Nat) (L : List Value) (x y : Int32) (r : List Value) (M : pm_M) : fr S (d) (115, 23, L, .int y :: .int x :: r) M = if x = y then fr S d (115, 41, L, r) M else fr S d (115, 26, L, r) M := (fr_eq S (d) (115, 23, L, .int y :: .int x :: r) M).trans (x_oc2eq _ _ 115 26 41 L r x y M)
theorem f115_26 (S : pm_S) (d : Nat) (L : List Value) (st : List Value) (M : pm_M) : fr S (d) (115, 26, L, st) M = if pm_ty (L.getD 0 pm_U) = 2 then fr S d (115, 27, L, L.getD 0 pm_U :: st) M else none := (fr_eq S (d) (115, 26, L, st) M).trans (x_old _ _ 2 0 115 27 L st M)
theorem f115_27 (S : pm_S) (d : Nat) (L : List Value) (q : Nat) (r : List Value) (M : pm_M) : fr S (d) (115, 27, L, .ref q :: r) M = match pm_get M q with
  | some (.inr (c, fs)) => if c = 3 ∧ 13 < fs.length then fr S d (115, 30, L, fs.getD 13 pm_U :: r) M else none
  | _ => none := (fr_eq S (d) (115, 27, L, .ref q :: r) M).trans (x_ogf _ _ 3 13 115 30 L r q M)
theorem f115_30 (S : pm_S) (d : Nat) (L : List Value) (st : List Value) (M : pm_M) : fr S (d) (115, 30, L, st) M = fr S d (115, 32, L, .int 40 :: st) M := (fr_eq S (d) (115, 30, L, st) M).trans (x_ocs _ _ (.int 40) 115 32 L st M)
theorem f115_32 (S : pm_S) (d : Nat) (L : List Value) (st : List Value) (M : pm_M) : fr S (d) (115, 32, L, st) M = if pm_ty (L.getD 1 pm_U) = 0 then fr S d (115, 33, L, L.getD 1 pm_U :: st) M else none := (fr_eq S (d) (115, 32, L, st) M).trans (x_old _ _ 0 1 115 33 L st M)
theorem f115_33 (S : pm_S) (d : Nat) (L : List Value) (x y : Int32) (r : List Value) (M : pm_M) : fr S (d) (115, 33, L, .int y :: .int x :: r) M = fr S d (115, 34, L, .int (x * y) :: r) M := (fr_eq S (d) (115, 33, L, .int y :: .int x :: r) M).trans (x_oii _ _ (fun x y => x * y) 115 34 L r x y M)
theorem f115_34 (S : pm_S) (d : Nat) (L : List Value) (st : List Value) (M : pm_M) : fr S (d) (115, 34, L, st) M = if pm_ty (L.getD 2 pm_U) = 0 then fr S d (115, 35, L, L.getD 2 pm_U :: st) M else none := (fr_eq S (d) (115, 34, L, st) M).trans (x_old _ _ 0 2 115 35 L st M)
theorem f115_35 (S : pm_S) (d : Nat) (L : List Value) (x y : Int32) (r : List Value) (M : pm_M) : fr S (d) (115, 35, L, .int y :: .int x :: r) M = fr S d (115, 36, L, .int (x + y) :: r) M := (fr_eq S (d) (115, 35, L, .int y :: .int x :: r) M).trans (x_oii _ _ (fun x y => x + y) 115 36 L r x y M)
theorem f115_36 (S : pm_S) (d : Nat) (L : List Value) (i : Int32) (q : Nat) (hq : ¬ q = 1) (r : List Value) (M : pm_M) : fr S (d) (115, 36, L, .int i :: .ref q :: r) M = match (pm_get M q).bind (fun c => pm_el 1 c i) with
  | some v => fr S d (115, 37, L, v :: r) M
  | none => none := (fr_eq S (d) (115, 36, L, .int i :: .ref q :: r) M).trans (x_oal _ _ S 1 115 37 L r i q hq M)
theorem f115_37 (S : pm_S) (d : Nat) (L : List Value) (st : List Value) (M : pm_M) : fr S (d) (115, 37, L, st) M = if pm_ty (L.getD 3 pm_U) = 0 then fr S d (115, 38, L, L.getD 3 pm_U :: st) M else none := (fr_eq S (d) (115, 37, L, st) M).trans (x_old _ _ 0 3 115 38 L st M)
theorem f115_38 (S : pm_S) (d : Nat) (L : List Value) (x y : Int32) (r : List Value) (M : pm_M) : fr S (d) (115, 38, L, .int y :: .int x :: r) M = if ¬ x = y then fr S d (115, 43, L, r) M else fr S d (115, 41, L, r) M := (fr_eq S (d) (115, 38, L, .int y :: .int x :: r) M).trans (x_oc2ne _ _ 115 41 43 L r x y M)
theorem f115_41 (S : pm_S) (d : Nat) (L : List Value) (st : List Value) (M : pm_M) : fr S (d) (115, 41, L, st) M = fr S d (115, 42, L, .int 0 :: st) M := (fr_eq S (d) (115, 41, L, st) M).trans (x_ocs _ _ (.int 0) 115 42 L st M)
theorem f115_42 (S : pm_S) (d : Nat) (L : List Value) (v : Value) (M : pm_M) : fr S (d) (115, 42, L, [v]) M = if pm_fit 3 v = true then some (.inl (some v), M) else none := (fr_eq S (d) (115, 42, L, [v]) M).trans (x_ort _ _ 3 v M)
theorem f115_43 (S : pm_S) (d : Nat) (L : List Value) (st : List Value) (M : pm_M) : fr S (d) (115, 43, L, st) M = if pm_ty (L.getD 0 pm_U) = 2 then fr S d (115, 44, L, L.getD 0 pm_U :: st) M else none := (fr_eq S (d) (115, 43, L, st) M).trans (x_old _ _ 2 0 115 44 L st M)
theorem f115_44 (S : pm_S) (d : Nat) (L : List Value) (q : Nat) (r : List Value) (M : pm_M) : fr S (d) (115, 44, L, .ref q :: r) M = match pm_get M q with
  | some (.inr (c, fs)) => if c = 3 ∧ 13 < fs.length then fr S d (115, 47, L, fs.getD 13 pm_U :: r) M else none
  | _ => none := (fr_eq S (d) (115, 44, L, .ref q :: r) M).trans (x_ogf _ _ 3 13 115 47 L r q M)
theorem f115_47 (S : pm_S) (d : Nat) (L : List Value) (st : List Value) (M : pm_M) : fr S (d) (115, 47, L, st) M = fr S d (115, 49, L, .int 40 :: st) M := (fr_eq S (d) (115, 47, L, st) M).trans (x_ocs _ _ (.int 40) 115 49 L st M)
theorem f115_49 (S : pm_S) (d : Nat) (L : List Value) (st : List Value) (M : pm_M) : fr S (d) (115, 49, L, st) M = if pm_ty (L.getD 1 pm_U) = 0 then fr S d (115, 50, L, L.getD 1 pm_U :: st) M else none := (fr_eq S (d) (115, 49, L, st) M).trans (x_old _ _ 0 1 115 50 L st M)
theorem f115_50 (S : pm_S) (d : Nat) (L : List Value) (x y : Int32) (r : List Value) (M : pm_M) : fr S (d) (115, 50, L, .int y :: .int x :: r) M = fr S d (115, 51, L, .int (x * y) :: r) M := (fr_eq S (d) (115, 50, L, .int y :: .int x :: r) M).trans (x_oii _ _ (fun x y => x * y) 115 51 L r x y M)
theorem f115_51 (S : pm_S) (d : Nat) (L : List Value) (st : List Value) (M : pm_M) : fr S (d) (115, 51, L, st) M = if pm_ty (L.getD 2 pm_U) = 0 then fr S d (115, 52, L, L.getD 2 pm_U :: st) M else none := (fr_eq S (d) (115, 51, L, st) M).trans (x_old _ _ 0 2 115 52 L st M)
theorem f115_52 (S : pm_S) (d : Nat) (L : List Value) (x y : Int32) (r : List Value) (M : pm_M) : fr S (d) (115, 52, L, .int y :: .int x :: r) M = fr S d (115, 53, L, .int (x + y) :: r) M := (fr_eq S (d) (115, 52, L, .int y :: .int x :: r) M).trans (x_oii _ _ (fun x y => x + y) 115 53 L r x y M)
theorem f115_53 (S : pm_S) (d : Nat) (L : List Value) (st : List Value) (M : pm_M) : fr S (d) (115, 53, L, st) M = if pm_ty (L.getD 3 pm_U) = 0 then fr S d (115, 54, L, L.getD 3 pm_U :: st) M else none := (fr_eq S (d) (115, 53, L, st) M).trans (x_old _ _ 0 3 115 54 L st M)
theorem f115_54 (S : pm_S) (d : Nat) (L : List Value) (v : Value) (i : Int32) (q : Nat) (r : List Value) (M : pm_M) : fr S (d) (115, 54, L, v :: .int i :: .ref q :: r) M = if pm_sq M 9 v = true then (match (pm_get M q).bind (fun c => pm_ev 3 1 c i v) with
  | some c => fr S d (115, 55, L, r) (pm_set M q c)
  | none => none) else none := (fr_eq S (d) (115, 54, L, v :: .int i :: .ref q :: r) M).trans (x_oas _ _ 3 1 9 115 55 L r v i q M)
theorem f115_55 (S : pm_S) (d : Nat) (L : List Value) (st : List Value) (M : pm_M) : fr S (d) (115, 55, L, st) M = if pm_ty (L.getD 0 pm_U) = 2 then fr S d (115, 56, L, L.getD 0 pm_U :: st) M else none := (fr_eq S (d) (115, 55, L, st) M).trans (x_old _ _ 2 0 115 56 L st M)
theorem f115_56 (S : pm_S) (d : Nat) (L : List Value) (q : Nat) (r : List Value) (M : pm_M) : fr S (d) (115, 56, L, .ref q :: r) M = match pm_get M q with
  | some (.inr (c, fs)) => if c = 3 ∧ 13 < fs.length then fr S d (115, 59, L, fs.getD 13 pm_U :: r) M else none
  | _ => none := (fr_eq S (d) (115, 56, L, .ref q :: r) M).trans (x_ogf _ _ 3 13 115 59 L r q M)
theorem f115_59 (S : pm_S) (d : Nat) (L : List Value) (st : List Value) (M : pm_M) : fr S (d) (115, 59, L, st) M = fr S d (115, 61, L, .int 40 :: st) M := (fr_eq S (d) (115, 59, L, st) M).trans (x_ocs _ _ (.int 40) 115 61 L st M)
theorem f115_61 (S : pm_S) (d : Nat) (L : List Value) (st : List Value) (M : pm_M) : fr S (d) (115, 61, L, st) M = if pm_ty (L.getD 2 pm_U) = 0 then fr S d (115, 62, L, L.getD 2 pm_U :: st) M else none := (fr_eq S (d) (115, 61, L, st) M).trans (x_old _ _ 0 2 115 62 L st M)
theorem f115_62 (S : pm_S) (d : Nat) (L : List Value) (x y : Int32) (r : List Value) (M : pm_M) : fr S (d) (115, 62, L, .int y :: .int x :: r) M = fr S d (115, 63, L, .int (x * y) :: r) M := (fr_eq S (d) (115, 62, L, .int y :: .int x :: r) M).trans (x_oii _ _ (fun x y => x * y) 115 63 L r x y M)
theorem f115_63 (S : pm_S) (d : Nat) (L : List Value) (st : List Value) (M : pm_M) : fr S (d) (115, 63, L, st) M = if pm_ty (L.getD 1 pm_U) = 0 then fr S d (115, 64, L, L.getD 1 pm_U :: st) M else none := (fr_eq S (d) (115, 63, L, st) M).trans (x_old _ _ 0 1 115 64 L st M)
theorem f115_64 (S : pm_S) (d : Nat) (L : List Value) (x y : Int32) (r : List Value) (M : pm_M) : fr S (d) (115, 64, L, .int y :: .int x :: r) M = fr S d (115, 65, L, .int (x + y) :: r) M := (fr_eq S (d) (115, 64, L, .int y :: .int x :: r) M).trans (x_oii _ _ (fun x y => x + y) 115 65 L r x y M)
theorem f115_65 (S : pm_S) (d : Nat) (L : List Value) (st : List Value) (M : pm_M) : fr S (d) (115, 65, L, st) M = if pm_ty (L.getD 3 pm_U) = 0 then fr S d (115, 66, L, L.getD 3 pm_U :: st) M else none := (fr_eq S (d) (115, 65, L, st) M).trans (x_old _ _ 0 3 115 66 L st M)
theorem f115_66 (S : pm_S) (d : Nat) (L : List Value) (v : Value) (i : Int32) (q : Nat) (r : List Value) (M : pm_M) : fr S (d) (115, 66, L, v :: .int i :: .ref q :: r) M = if pm_sq M 9 v = true then (match (pm_get M q).bind (fun c => pm_ev 3 1 c i v) with
  | some c => fr S d (115, 67, L, r) (pm_set M q c)
  | none => none) else none := (fr_eq S (d) (115, 66, L, v :: .int i :: .ref q :: r) M).trans (x_oas _ _ 3 1 9 115 67 L r v i q M)
theorem f115_67 (S : pm_S) (d : Nat) (L : List Value) (st : List Value) (M : pm_M) : fr S (d) (115, 67, L, st) M = fr S d (115, 68, L, .int 1 :: st) M := (fr_eq S (d) (115, 67, L, st) M).trans (x_ocs _ _ (.int 1) 115 68 L st M)
theorem f115_68 (S : pm_S) (d : Nat) (L : List Value) (v : Value) (M : pm_M) : fr S (d) (115, 68, L, [v]) M = if pm_fit 3 v = true then some (.inl (some v), M) else none := (fr_eq S (d) (115, 68, L, [v]) M).trans (x_ort _ _ 3 v M)
theorem f116_0 (S : pm_S) (d : Nat) (L : List Value) (st : List Value) (M : pm_M) : fr S (d) (116, 0, L, st) M = if pm_ty (L.getD 0 pm_U) = 2 then fr S d (116, 1, L, L.getD 0 pm_U :: st) M else none := (fr_eq S (d) (116, 0, L, st) M).trans (x_old _ _ 2 0 116 1 L st M)
theorem f116_1 (S : pm_S) (d : Nat) (L : List Value) (st : List Value) (M : pm_M) : fr S (d) (116, 1, L, st) M = if pm_ty (L.getD 1 pm_U) = 0 then fr S d (116, 2, L, L.getD 1 pm_U :: st) M else none := (fr_eq S (d) (116, 1, L, st) M).trans (x_old _ _ 0 1 116 2 L st M)
theorem f116_2 (S : pm_S) (d : Nat) (L : List Value) (st : List Value) (M : pm_M) : fr S (d) (116, 2, L, st) M = if pm_ty (L.getD 2 pm_U) = 0 then fr S d (116, 3, L, L.getD 2 pm_U :: st) M else none := (fr_eq S (d) (116, 2, L, st) M).trans (x_old _ _ 0 2 116 3 L st M)
theorem f116_3 (S : pm_S) (d : Nat) (L : List Value) (st : List Value) (M : pm_M) : fr S (d) (116, 3, L, st) M = if pm_ty (L.getD 3 pm_U) = 0 then fr S d (116, 4, L, L.getD 3 pm_U :: st) M else none := (fr_eq S (d) (116, 3, L, st) M).trans (x_old _ _ 0 3 116 4 L st M)
theorem f116_4 (S : pm_S) (d : Nat) (L : List Value) (st : List Value) (M : pm_M) : fr S (d + 1) (116, 4, L, st) M = match pm_ag 4 [] st with
  | some (a, r) => if r.length ≤ 4 ∧ (1 = 0 ∨ pm_obj M 3 (a.headD pm_U) = true) then (match fr S d (107, 0, a ++ [], []) M with
    | none => none
    | some (.inl v, M') => fr S (d + 1) (116, 7, L, v.toList ++ r) M'
    | some (.inr E, M') => some (.inr E, M')) else none
  | none => none := (fr_eq S (d + 1) (116, 4, L, st) M).trans (x_ocl _ _ 1 107 4 3 [] 116 7 L st M)
theorem f116_7 (S : pm_S) (d : Nat) (L : List Value) (x : Int32) (r : List Value) (M : pm_M) : fr S (d) (116, 7, L, .int x :: r) M = if x = 0 then fr S d (116, 26, L, r) M else fr S d (116, 10, L, r) M := (fr_eq S (d) (116, 7, L, .int x :: r) M).trans (x_oc1eq _ _ 116 10 26 L r x M)
theorem f116_10 (S : pm_S) (d : Nat) (L : List Value) (st : List Value) (M : pm_M) : fr S (d) (116, 10, L, st) M = if pm_ty (L.getD 0 pm_U) = 2 then fr S d (116, 11, L, L.getD 0 pm_U :: st) M else none := (fr_eq S (d) (116, 10, L, st) M).trans (x_old _ _ 2 0 116 11 L st M)
theorem f116_11 (S : pm_S) (d : Nat) (L : List Value) (q : Nat) (r : List Value) (M : pm_M) : fr S (d) (116, 11, L, .ref q :: r) M = match pm_get M q with
  | some (.inr (c, fs)) => if c = 3 ∧ 10 < fs.length then fr S d (116, 14, L, fs.getD 10 pm_U :: r) M else none
  | _ => none := (fr_eq S (d) (116, 11, L, .ref q :: r) M).trans (x_ogf _ _ 3 10 116 14 L r q M)
theorem f116_14 (S : pm_S) (d : Nat) (L : List Value) (st : List Value) (M : pm_M) : fr S (d) (116, 14, L, st) M = if pm_ty (L.getD 1 pm_U) = 0 then fr S d (116, 15, L, L.getD 1 pm_U :: st) M else none := (fr_eq S (d) (116, 14, L, st) M).trans (x_old _ _ 0 1 116 15 L st M)
theorem f116_15 (S : pm_S) (d : Nat) (L : List Value) (st : List Value) (M : pm_M) : fr S (d) (116, 15, L, st) M = if pm_ty (L.getD 2 pm_U) = 0 then fr S d (116, 16, L, L.getD 2 pm_U :: st) M else none := (fr_eq S (d) (116, 15, L, st) M).trans (x_old _ _ 0 2 116 16 L st M)
theorem f116_16 (S : pm_S) (d : Nat) (L : List Value) (st : List Value) (M : pm_M) : fr S (d) (116, 16, L, st) M = if pm_ty (L.getD 3 pm_U) = 0 then fr S d (116, 17, L, L.getD 3 pm_U :: st) M else none := (fr_eq S (d) (116, 16, L, st) M).trans (x_old _ _ 0 3 116 17 L st M)
theorem f116_17 (S : pm_S) (d : Nat) (L : List Value) (st : List Value) (M : pm_M) : fr S (d + 1) (116, 17, L, st) M = match pm_ag 3 [] st with
  | some (a, r) => if r.length ≤ 4 ∧ (0 = 0 ∨ pm_obj M 3 (a.headD pm_U) = true) then (match fr S d (108, 0, a ++ [], []) M with
    | none => none
    | some (.inl v, M') => fr S (d + 1) (116, 20, L, v.toList ++ r) M'
    | some (.inr E, M') => some (.inr E, M')) else none
  | none => none := (fr_eq S (d + 1) (116, 17, L, st) M).trans (x_ocl _ _ 0 108 3 3 [] 116 20 L st M)
theorem f116_20 (S : pm_S) (d : Nat) (L : List Value) (i : Int32) (q : Nat) (hq : ¬ q = 1) (r : List Value) (M : pm_M) : fr S (d) (116, 20, L, .int i :: .ref q :: r) M = match (pm_get M q).bind (fun c => pm_el 0 c i) with
  | some v => fr S d (116, 21, L, v :: r) M
  | none => none := (fr_eq S (d) (116, 20, L, .int i :: .ref q :: r) M).trans (x_oal _ _ S 0 116 21 L r i q hq M)
theorem f116_21 (S : pm_S) (d : Nat) (L : List Value) (st : List Value) (M : pm_M) : fr S (d) (116, 21, L, st) M = fr S d (116, 22, L, .int 1 :: st) M := (fr_eq S (d) (116, 21, L, st) M).trans (x_ocs _ _ (.int 1) 116 22 L st M)
theorem f116_22 (S : pm_S) (d : Nat) (L : List Value) (x y : Int32) (r : List Value) (M : pm_M) : fr S (d) (116, 22, L, .int y :: .int x :: r) M = fr S d (116, 23, L, .int (x - y) :: r) M := (fr_eq S (d) (116, 22, L, .int y :: .int x :: r) M).trans (x_oii _ _ (fun x y => x - y) 116 23 L r x y M)
theorem f116_23 (S : pm_S) (d : Nat) (L : List Value) (st : List Value) (M : pm_M) : fr S (d) (116, 23, L, st) M = fr S d (116, 27, L, st) M := (fr_eq S (d) (116, 23, L, st) M).trans (x_ogo _ _ 116 27 L st M)
theorem f116_26 (S : pm_S) (d : Nat) (L : List Value) (st : List Value) (M : pm_M) : fr S (d) (116, 26, L, st) M = fr S d (116, 27, L, .int (-1) :: st) M := (fr_eq S (d) (116, 26, L, st) M).trans (x_ocs _ _ (.int (-1)) 116 27 L st M)
theorem f116_27 (S : pm_S) (d : Nat) (L : List Value) (v : Value) (M : pm_M) : fr S (d) (116, 27, L, [v]) M = if pm_fit 0 v = true then some (.inl (some v), M) else none := (fr_eq S (d) (116, 27, L, [v]) M).trans (x_ort _ _ 0 v M)
theorem f117_0 (S : pm_S) (d : Nat) (L : List Value) (st : List Value) (M : pm_M) : fr S (d) (117, 0, L, st) M = fr S d (117, 1, L, .int 0 :: st) M := (fr_eq S (d) (117, 0, L, st) M).trans (x_ocs _ _ (.int 0) 117 1 L st M)
theorem f117_1 (S : pm_S) (d : Nat) (L : List Value) (v : Value) (r : List Value) (M : pm_M) : fr S (d) (117, 1, L, v :: r) M = if pm_ty v = 0 ∧ 4 < L.length ∧ ¬ pm_ty (L.getD (4 - 1) pm_U) = 1 then fr S d (117, 3, L.set 4 v, r) M else none := (fr_eq S (d) (117, 1, L, v :: r) M).trans (x_ost _ _ 0 4 117 3 L r v M)
theorem f117_3 (S : pm_S) (d : Nat) (L : List Value) (st : List Value) (M : pm_M) : fr S (d) (117, 3, L, st) M = fr S d (117, 4, L, .int 0 :: st) M := (fr_eq S (d) (117, 3, L, st) M).trans (x_ocs _ _ (.int 0) 117 4 L st M)
theorem f117_4 (S : pm_S) (d : Nat) (L : List Value) (v : Value) (r : List Value) (M : pm_M) : fr S (d) (117, 4, L, v :: r) M = if pm_ty v = 0 ∧ 5 < L.length ∧ ¬ pm_ty (L.getD (5 - 1) pm_U) = 1 then fr S d (117, 6, L.set 5 v, r) M else none := (fr_eq S (d) (117, 4, L, v :: r) M).trans (x_ost _ _ 0 5 117 6 L r v M)
theorem f117_6 (S : pm_S) (d : Nat) (L : List Value) (st : List Value) (M : pm_M) : fr S (d) (117, 6, L, st) M = if pm_ty (L.getD 5 pm_U) = 0 then fr S d (117, 8, L, L.getD 5 pm_U :: st) M else none := (fr_eq S (d) (117, 6, L, st) M).trans (x_old _ _ 0 5 117 8 L st M)
theorem f117_8 (S : pm_S) (d : Nat) (L : List Value) (st : List Value) (M : pm_M) : fr S (d) (117, 8, L, st) M = if pm_ty (L.getD 3 pm_U) = 0 then fr S d (117, 9, L, L.getD 3 pm_U :: st) M else none := (fr_eq S (d) (117, 8, L, st) M).trans (x_old _ _ 0 3 117 9 L st M)
theorem f117_9 (S : pm_S) (d : Nat) (L : List Value) (x y : Int32) (r : List Value) (M : pm_M) : fr S (d) (117, 9, L, .int y :: .int x :: r) M = if y ≤ x then fr S d (117, 41, L, r) M else fr S d (117, 12, L, r) M := (fr_eq S (d) (117, 9, L, .int y :: .int x :: r) M).trans (x_oc2ge _ _ 117 12 41 L r x y M)
theorem f117_12 (S : pm_S) (d : Nat) (L : List Value) (st : List Value) (M : pm_M) : fr S (d) (117, 12, L, st) M = if pm_ty (L.getD 4 pm_U) = 0 then fr S d (117, 14, L, L.getD 4 pm_U :: st) M else none := (fr_eq S (d) (117, 12, L, st) M).trans (x_old _ _ 0 4 117 14 L st M)
theorem f117_14 (S : pm_S) (d : Nat) (L : List Value) (x : Int32) (r : List Value) (M : pm_M) : fr S (d) (117, 14, L, .int x :: r) M = if ¬ x = 0 then fr S d (117, 28, L, r) M else fr S d (117, 17, L, r) M := (fr_eq S (d) (117, 14, L, .int x :: r) M).trans (x_oc1ne _ _ 117 17 28 L r x M)
theorem f117_17 (S : pm_S) (d : Nat) (L : List Value) (st : List Value) (M : pm_M) : fr S (d) (117, 17, L, st) M = if pm_ty (L.getD 0 pm_U) = 2 then fr S d (117, 18, L, L.getD 0 pm_U :: st) M else none := (fr_eq S (d) (117, 17, L, st) M).trans (x_old _ _ 2 0 117 18 L st M)
theorem f117_18 (S : pm_S) (d : Nat) (L : List Value) (st : List Value) (M : pm_M) : fr S (d) (117, 18, L, st) M = if pm_ty (L.getD 1 pm_U) = 0 then fr S d (117, 19, L, L.getD 1 pm_U :: st) M else none := (fr_eq S (d) (117, 18, L, st) M).trans (x_old _ _ 0 1 117 19 L st M)
theorem f117_19 (S : pm_S) (d : Nat) (L : List Value) (st : List Value) (M : pm_M) : fr S (d) (117, 19, L, st) M = if pm_ty (L.getD 2 pm_U) = 0 then fr S d (117, 20, L, L.getD 2 pm_U :: st) M else none := (fr_eq S (d) (117, 19, L, st) M).trans (x_old _ _ 0 2 117 20 L st M)
theorem f117_20 (S : pm_S) (d : Nat) (L : List Value) (st : List Value) (M : pm_M) : fr S (d) (117, 20, L, st) M = if pm_ty (L.getD 5 pm_U) = 0 then fr S d (117, 22, L, L.getD 5 pm_U :: st) M else none := (fr_eq S (d) (117, 20, L, st) M).trans (x_old _ _ 0 5 117 22 L st M)
theorem f117_22 (S : pm_S) (d : Nat) (L : List Value) (st : List Value) (M : pm_M) : fr S (d + 1) (117, 22, L, st) M = match pm_ag 4 [] st with
  | some (a, r) => if r.length ≤ 4 ∧ (1 = 0 ∨ pm_obj M 3 (a.headD pm_U) = true) then (match fr S d (116, 0, a ++ [], []) M with
    | none => none
    | some (.inl v, M') => fr S (d + 1) (117, 25, L, v.toList ++ r) M'
    | some (.inr E, M') => some (.inr E, M')) else none
  | none => none := (fr_eq S (d + 1) (117, 22, L, st) M).trans (x_ocl _ _ 1 116 4 3 [] 117 25 L st M)
theorem f117_25 (S : pm_S) (d : Nat) (L : List Value) (x : Int32) (r : List Value) (M : pm_M) : fr S (d) (117, 25, L, .int x :: r) M = if 0 ≤ x then fr S d (117, 32, L, r) M else fr S d (117, 28, L, r) M := (fr_eq S (d) (117, 25, L, .int x :: r) M).trans (x_oc1ge _ _ 117 28 32 L r x M)
theorem f117_28 (S : pm_S) (d : Nat) (L : List Value) (st : List Value) (M : pm_M) : fr S (d) (117, 28, L, st) M = fr S d (117, 29, L, .int 1 :: st) M := (fr_eq S (d) (117, 28, L, st) M).trans (x_ocs _ _ (.int 1) 117 29 L st M)
theorem f117_29 (S : pm_S) (d : Nat) (L : List Value) (st : List Value) (M : pm_M) : fr S (d) (117, 29, L, st) M = fr S d (117, 33, L, st) M := (fr_eq S (d) (117, 29, L, st) M).trans (x_ogo _ _ 117 33 L st M)
theorem f117_32 (S : pm_S) (d : Nat) (L : List Value) (st : List Value) (M : pm_M) : fr S (d) (117, 32, L, st) M = fr S d (117, 33, L, .int 0 :: st) M := (fr_eq S (d) (117, 32, L, st) M).trans (x_ocs _ _ (.int 0) 117 33 L st M)
theorem f117_33 (S : pm_S) (d : Nat) (L : List Value) (v : Value) (r : List Value) (M : pm_M) : fr S (d) (117, 33, L, v :: r) M = if pm_ty v = 0 ∧ 4 < L.length ∧ ¬ pm_ty (L.getD (4 - 1) pm_U) = 1 then fr S d (117, 35, L.set 4 v, r) M else none := (fr_eq S (d) (117, 33, L, v :: r) M).trans (x_ost _ _ 0 4 117 35 L r v M)
theorem f117_35 (S : pm_S) (d : Nat) (L : List Value) (st : List Value) (M : pm_M) : fr S (d) (117, 35, L, st) M = match L.getD 5 pm_U with
  | .int x => if 5 < L.length ∧ ¬ pm_ty (L.getD (5 - 1) pm_U) = 1 then fr S d (117, 38, L.set 5 (.int (x + 1)), st) M else none
  | _ => none := (fr_eq S (d) (117, 35, L, st) M).trans (x_oinc _ _ 5 1 117 38 L st M)
theorem f117_38 (S : pm_S) (d : Nat) (L : List Value) (st : List Value) (M : pm_M) : fr S (d) (117, 38, L, st) M = fr S d (117, 6, L, st) M := (fr_eq S (d) (117, 38, L, st) M).trans (x_ogo _ _ 117 6 L st M)
theorem f117_41 (S : pm_S) (d : Nat) (L : List Value) (st : List Value) (M : pm_M) : fr S (d) (117, 41, L, st) M = if pm_ty (L.getD 4 pm_U) = 0 then fr S d (117, 43, L, L.getD 4 pm_U :: st) M else none := (fr_eq S (d) (117, 41, L, st) M).trans (x_old _ _ 0 4 117 43 L st M)
theorem f117_43 (S : pm_S) (d : Nat) (L : List Value) (v : Value) (M : pm_M) : fr S (d) (117, 43, L, [v]) M = if pm_fit 3 v = true then some (.inl (some v), M) else none := (fr_eq S (d) (117, 43, L, [v]) M).trans (x_ort _ _ 3 v M)
theorem f118_0 (S : pm_S) (d : Nat) (L : List Value) (st : List Value) (M : pm_M) : fr S (d) (118, 0, L, st) M = fr S d (118, 1, L, .int 0 :: st) M := (fr_eq S (d) (118, 0, L, st) M).trans (x_ocs _ _ (.int 0) 118 1 L st M)
theorem f118_1 (S : pm_S) (d : Nat) (L : List Value) (v : Value) (r : List Value) (M : pm_M) : fr S (d) (118, 1, L, v :: r) M = if pm_ty v = 0 ∧ 5 < L.length ∧ ¬ pm_ty (L.getD (5 - 1) pm_U) = 1 then fr S d (118, 3, L.set 5 v, r) M else none := (fr_eq S (d) (118, 1, L, v :: r) M).trans (x_ost _ _ 0 5 118 3 L r v M)
theorem f118_3 (S : pm_S) (d : Nat) (L : List Value) (st : List Value) (M : pm_M) : fr S (d) (118, 3, L, st) M = fr S d (118, 4, L, .int 0 :: st) M := (fr_eq S (d) (118, 3, L, st) M).trans (x_ocs _ _ (.int 0) 118 4 L st M)
theorem f118_4 (S : pm_S) (d : Nat) (L : List Value) (v : Value) (r : List Value) (M : pm_M) : fr S (d) (118, 4, L, v :: r) M = if pm_ty v = 0 ∧ 6 < L.length ∧ ¬ pm_ty (L.getD (6 - 1) pm_U) = 1 then fr S d (118, 6, L.set 6 v, r) M else none := (fr_eq S (d) (118, 4, L, v :: r) M).trans (x_ost _ _ 0 6 118 6 L r v M)
theorem f118_6 (S : pm_S) (d : Nat) (L : List Value) (st : List Value) (M : pm_M) : fr S (d) (118, 6, L, st) M = if pm_ty (L.getD 6 pm_U) = 0 then fr S d (118, 8, L, L.getD 6 pm_U :: st) M else none := (fr_eq S (d) (118, 6, L, st) M).trans (x_old _ _ 0 6 118 8 L st M)
theorem f118_8 (S : pm_S) (d : Nat) (L : List Value) (st : List Value) (M : pm_M) : fr S (d) (118, 8, L, st) M = if pm_ty (L.getD 4 pm_U) = 0 then fr S d (118, 10, L, L.getD 4 pm_U :: st) M else none := (fr_eq S (d) (118, 8, L, st) M).trans (x_old _ _ 0 4 118 10 L st M)
theorem f118_10 (S : pm_S) (d : Nat) (L : List Value) (x y : Int32) (r : List Value) (M : pm_M) : fr S (d) (118, 10, L, .int y :: .int x :: r) M = if y < x then fr S d (118, 52, L, r) M else fr S d (118, 13, L, r) M := (fr_eq S (d) (118, 10, L, .int y :: .int x :: r) M).trans (x_oc2gt _ _ 118 13 52 L r x y M)
theorem f118_13 (S : pm_S) (d : Nat) (L : List Value) (st : List Value) (M : pm_M) : fr S (d) (118, 13, L, st) M = if pm_ty (L.getD 5 pm_U) = 0 then fr S d (118, 15, L, L.getD 5 pm_U :: st) M else none := (fr_eq S (d) (118, 13, L, st) M).trans (x_old _ _ 0 5 118 15 L st M)
theorem f118_15 (S : pm_S) (d : Nat) (L : List Value) (st : List Value) (M : pm_M) : fr S (d) (118, 15, L, st) M = if pm_ty (L.getD 0 pm_U) = 2 then fr S d (118, 16, L, L.getD 0 pm_U :: st) M else none := (fr_eq S (d) (118, 15, L, st) M).trans (x_old _ _ 2 0 118 16 L st M)
theorem f118_16 (S : pm_S) (d : Nat) (L : List Value) (st : List Value) (M : pm_M) : fr S (d) (118, 16, L, st) M = if pm_ty (L.getD 2 pm_U) = 0 then fr S d (118, 17, L, L.getD 2 pm_U :: st) M else none := (fr_eq S (d) (118, 16, L, st) M).trans (x_old _ _ 0 2 118 17 L st M)
theorem f118_17 (S : pm_S) (d : Nat) (L : List Value) (st : List Value) (M : pm_M) : fr S (d) (118, 17, L, st) M = if pm_ty (L.getD 3 pm_U) = 0 then fr S d (118, 18, L, L.getD 3 pm_U :: st) M else none := (fr_eq S (d) (118, 17, L, st) M).trans (x_old _ _ 0 3 118 18 L st M)
theorem f118_18 (S : pm_S) (d : Nat) (L : List Value) (st : List Value) (M : pm_M) : fr S (d) (118, 18, L, st) M = if pm_ty (L.getD 6 pm_U) = 0 then fr S d (118, 20, L, L.getD 6 pm_U :: st) M else none := (fr_eq S (d) (118, 18, L, st) M).trans (x_old _ _ 0 6 118 20 L st M)
theorem f118_20 (S : pm_S) (d : Nat) (L : List Value) (st : List Value) (M : pm_M) : fr S (d + 1) (118, 20, L, st) M = match pm_ag 4 [] st with
  | some (a, r) => if r.length ≤ 4 ∧ (1 = 0 ∨ pm_obj M 3 (a.headD pm_U) = true) then (match fr S d (116, 0, a ++ [], []) M with
    | none => none
    | some (.inl v, M') => fr S (d + 1) (118, 23, L, v.toList ++ r) M'
    | some (.inr E, M') => some (.inr E, M')) else none
  | none => none := (fr_eq S (d + 1) (118, 20, L, st) M).trans (x_ocl _ _ 1 116 4 3 [] 118 23 L st M)
theorem f118_23 (S : pm_S) (d : Nat) (L : List Value) (x : Int32) (r : List Value) (M : pm_M) : fr S (d) (118, 23, L, .int x :: r) M = if 0 ≤ x then fr S d (118, 30, L, r) M else fr S d (118, 26, L, r) M := (fr_eq S (d) (118, 23, L, .int x :: r) M).trans (x_oc1ge _ _ 118 26 30 L r x M)
theorem f118_26 (S : pm_S) (d : Nat) (L : List Value) (st : List Value) (M : pm_M) : fr S (d) (118, 26, L, st) M = fr S d (118, 27, L, .int 0 :: st) M := (fr_eq S (d) (118, 26, L, st) M).trans (x_ocs _ _ (.int 0) 118 27 L st M)
theorem f118_27 (S : pm_S) (d : Nat) (L : List Value) (st : List Value) (M : pm_M) : fr S (d) (118, 27, L, st) M = fr S d (118, 43, L, st) M := (fr_eq S (d) (118, 27, L, st) M).trans (x_ogo _ _ 118 43 L st M)
theorem f118_30 (S : pm_S) (d : Nat) (L : List Value) (st : List Value) (M : pm_M) : fr S (d) (118, 30, L, st) M = if pm_ty (L.getD 0 pm_U) = 2 then fr S d (118, 31, L, L.getD 0 pm_U :: st) M else none := (fr_eq S (d) (118, 30, L, st) M).trans (x_old _ _ 2 0 118 31 L st M)
theorem f118_31 (S : pm_S) (d : Nat) (L : List Value) (q : Nat) (r : List Value) (M : pm_M) : fr S (d) (118, 31, L, .ref q :: r) M = match pm_get M q with
  | some (.inr (c, fs)) => if c = 3 ∧ 6 < fs.length then fr S d (118, 34, L, fs.getD 6 pm_U :: r) M else none
  | _ => none := (fr_eq S (d) (118, 31, L, .ref q :: r) M).trans (x_ogf _ _ 3 6 118 34 L r q M)
theorem f118_34 (S : pm_S) (d : Nat) (L : List Value) (st : List Value) (M : pm_M) : fr S (d) (118, 34, L, st) M = if pm_ty (L.getD 0 pm_U) = 2 then fr S d (118, 35, L, L.getD 0 pm_U :: st) M else none := (fr_eq S (d) (118, 34, L, st) M).trans (x_old _ _ 2 0 118 35 L st M)
theorem f118_35 (S : pm_S) (d : Nat) (L : List Value) (st : List Value) (M : pm_M) : fr S (d) (118, 35, L, st) M = if pm_ty (L.getD 2 pm_U) = 0 then fr S d (118, 36, L, L.getD 2 pm_U :: st) M else none := (fr_eq S (d) (118, 35, L, st) M).trans (x_old _ _ 0 2 118 36 L st M)
theorem f118_36 (S : pm_S) (d : Nat) (L : List Value) (st : List Value) (M : pm_M) : fr S (d) (118, 36, L, st) M = if pm_ty (L.getD 3 pm_U) = 0 then fr S d (118, 37, L, L.getD 3 pm_U :: st) M else none := (fr_eq S (d) (118, 36, L, st) M).trans (x_old _ _ 0 3 118 37 L st M)
theorem f118_37 (S : pm_S) (d : Nat) (L : List Value) (st : List Value) (M : pm_M) : fr S (d) (118, 37, L, st) M = if pm_ty (L.getD 6 pm_U) = 0 then fr S d (118, 39, L, L.getD 6 pm_U :: st) M else none := (fr_eq S (d) (118, 37, L, st) M).trans (x_old _ _ 0 6 118 39 L st M)
theorem f118_39 (S : pm_S) (d : Nat) (L : List Value) (st : List Value) (M : pm_M) : fr S (d + 1) (118, 39, L, st) M = match pm_ag 4 [] st with
  | some (a, r) => if r.length ≤ 4 ∧ (1 = 0 ∨ pm_obj M 3 (a.headD pm_U) = true) then (match fr S d (116, 0, a ++ [], []) M with
    | none => none
    | some (.inl v, M') => fr S (d + 1) (118, 42, L, v.toList ++ r) M'
    | some (.inr E, M') => some (.inr E, M')) else none
  | none => none := (fr_eq S (d + 1) (118, 39, L, st) M).trans (x_ocl _ _ 1 116 4 3 [] 118 42 L st M)
theorem f118_42 (S : pm_S) (d : Nat) (L : List Value) (i : Int32) (q : Nat) (hq : ¬ q = 1) (r : List Value) (M : pm_M) : fr S (d) (118, 42, L, .int i :: .ref q :: r) M = match (pm_get M q).bind (fun c => pm_el 0 c i) with
  | some v => fr S d (118, 43, L, v :: r) M
  | none => none := (fr_eq S (d) (118, 42, L, .int i :: .ref q :: r) M).trans (x_oal _ _ S 0 118 43 L r i q hq M)
theorem f118_43 (S : pm_S) (d : Nat) (L : List Value) (x y : Int32) (r : List Value) (M : pm_M) : fr S (d) (118, 43, L, .int y :: .int x :: r) M = fr S d (118, 44, L, .int (x + y) :: r) M := (fr_eq S (d) (118, 43, L, .int y :: .int x :: r) M).trans (x_oii _ _ (fun x y => x + y) 118 44 L r x y M)
theorem f118_44 (S : pm_S) (d : Nat) (L : List Value) (v : Value) (r : List Value) (M : pm_M) : fr S (d) (118, 44, L, v :: r) M = if pm_ty v = 0 ∧ 5 < L.length ∧ ¬ pm_ty (L.getD (5 - 1) pm_U) = 1 then fr S d (118, 46, L.set 5 v, r) M else none := (fr_eq S (d) (118, 44, L, v :: r) M).trans (x_ost _ _ 0 5 118 46 L r v M)
theorem f118_46 (S : pm_S) (d : Nat) (L : List Value) (st : List Value) (M : pm_M) : fr S (d) (118, 46, L, st) M = match L.getD 6 pm_U with
  | .int x => if 6 < L.length ∧ ¬ pm_ty (L.getD (6 - 1) pm_U) = 1 then fr S d (118, 49, L.set 6 (.int (x + 1)), st) M else none
  | _ => none := (fr_eq S (d) (118, 46, L, st) M).trans (x_oinc _ _ 6 1 118 49 L st M)
theorem f118_49 (S : pm_S) (d : Nat) (L : List Value) (st : List Value) (M : pm_M) : fr S (d) (118, 49, L, st) M = fr S d (118, 6, L, st) M := (fr_eq S (d) (118, 49, L, st) M).trans (x_ogo _ _ 118 6 L st M)
theorem f118_52 (S : pm_S) (d : Nat) (L : List Value) (st : List Value) (M : pm_M) : fr S (d) (118, 52, L, st) M = if pm_ty (L.getD 5 pm_U) = 0 then fr S d (118, 54, L, L.getD 5 pm_U :: st) M else none := (fr_eq S (d) (118, 52, L, st) M).trans (x_old _ _ 0 5 118 54 L st M)
theorem f118_54 (S : pm_S) (d : Nat) (L : List Value) (st : List Value) (M : pm_M) : fr S (d) (118, 54, L, st) M = if pm_ty (L.getD 0 pm_U) = 2 then fr S d (118, 55, L, L.getD 0 pm_U :: st) M else none := (fr_eq S (d) (118, 54, L, st) M).trans (x_old _ _ 2 0 118 55 L st M)
theorem f118_55 (S : pm_S) (d : Nat) (L : List Value) (q : Nat) (r : List Value) (M : pm_M) : fr S (d) (118, 55, L, .ref q :: r) M = match pm_get M q with
  | some (.inr (c, fs)) => if c = 3 ∧ 12 < fs.length then fr S d (118, 58, L, fs.getD 12 pm_U :: r) M else none
  | _ => none := (fr_eq S (d) (118, 55, L, .ref q :: r) M).trans (x_ogf _ _ 3 12 118 58 L r q M)
theorem f118_58 (S : pm_S) (d : Nat) (L : List Value) (st : List Value) (M : pm_M) : fr S (d) (118, 58, L, st) M = if pm_ty (L.getD 2 pm_U) = 0 then fr S d (118, 59, L, L.getD 2 pm_U :: st) M else none := (fr_eq S (d) (118, 58, L, st) M).trans (x_old _ _ 0 2 118 59 L st M)
theorem f118_59 (S : pm_S) (d : Nat) (L : List Value) (i : Int32) (q : Nat) (hq : ¬ q = 1) (r : List Value) (M : pm_M) : fr S (d) (118, 59, L, .int i :: .ref q :: r) M = match (pm_get M q).bind (fun c => pm_el 0 c i) with
  | some v => fr S d (118, 60, L, v :: r) M
  | none => none := (fr_eq S (d) (118, 59, L, .int i :: .ref q :: r) M).trans (x_oal _ _ S 0 118 60 L r i q hq M)
theorem f118_60 (S : pm_S) (d : Nat) (L : List Value) (x y : Int32) (r : List Value) (M : pm_M) : fr S (d) (118, 60, L, .int y :: .int x :: r) M = if x ≤ y then fr S d (118, 85, L, r) M else fr S d (118, 63, L, r) M := (fr_eq S (d) (118, 60, L, .int y :: .int x :: r) M).trans (x_oc2le _ _ 118 63 85 L r x y M)
theorem f118_63 (S : pm_S) (d : Nat) (L : List Value) (st : List Value) (M : pm_M) : fr S (d) (118, 63, L, st) M = if pm_ty (L.getD 5 pm_U) = 0 then fr S d (118, 65, L, L.getD 5 pm_U :: st) M else none := (fr_eq S (d) (118, 63, L, st) M).trans (x_old _ _ 0 5 118 65 L st M)
theorem f118_65 (S : pm_S) (d : Nat) (L : List Value) (st : List Value) (M : pm_M) : fr S (d) (118, 65, L, st) M = if pm_ty (L.getD 0 pm_U) = 2 then fr S d (118, 66, L, L.getD 0 pm_U :: st) M else none := (fr_eq S (d) (118, 65, L, st) M).trans (x_old _ _ 2 0 118 66 L st M)
theorem f118_66 (S : pm_S) (d : Nat) (L : List Value) (q : Nat) (r : List Value) (M : pm_M) : fr S (d) (118, 66, L, .ref q :: r) M = match pm_get M q with
  | some (.inr (c, fs)) => if c = 3 ∧ 6 < fs.length then fr S d (118, 69, L, fs.getD 6 pm_U :: r) M else none
  | _ => none := (fr_eq S (d) (118, 66, L, .ref q :: r) M).trans (x_ogf _ _ 3 6 118 69 L r q M)
theorem f118_69 (S : pm_S) (d : Nat) (L : List Value) (st : List Value) (M : pm_M) : fr S (d) (118, 69, L, st) M = if pm_ty (L.getD 1 pm_U) = 0 then fr S d (118, 70, L, L.getD 1 pm_U :: st) M else none := (fr_eq S (d) (118, 69, L, st) M).trans (x_old _ _ 0 1 118 70 L st M)
theorem f118_70 (S : pm_S) (d : Nat) (L : List Value) (i : Int32) (q : Nat) (hq : ¬ q = 1) (r : List Value) (M : pm_M) : fr S (d) (118, 70, L, .int i :: .ref q :: r) M = match (pm_get M q).bind (fun c => pm_el 0 c i) with
  | some v => fr S d (118, 71, L, v :: r) M
  | none => none := (fr_eq S (d) (118, 70, L, .int i :: .ref q :: r) M).trans (x_oal _ _ S 0 118 71 L r i q hq M)
theorem f118_71 (S : pm_S) (d : Nat) (L : List Value) (x y : Int32) (r : List Value) (M : pm_M) : fr S (d) (118, 71, L, .int y :: .int x :: r) M = fr S d (118, 72, L, .int (x - y) :: r) M := (fr_eq S (d) (118, 71, L, .int y :: .int x :: r) M).trans (x_oii _ _ (fun x y => x - y) 118 72 L r x y M)
theorem f118_72 (S : pm_S) (d : Nat) (L : List Value) (st : List Value) (M : pm_M) : fr S (d) (118, 72, L, st) M = if pm_ty (L.getD 0 pm_U) = 2 then fr S d (118, 73, L, L.getD 0 pm_U :: st) M else none := (fr_eq S (d) (118, 72, L, st) M).trans (x_old _ _ 2 0 118 73 L st M)
theorem f118_73 (S : pm_S) (d : Nat) (L : List Value) (q : Nat) (r : List Value) (M : pm_M) : fr S (d) (118, 73, L, .ref q :: r) M = match pm_get M q with
  | some (.inr (c, fs)) => if c = 3 ∧ 12 < fs.length then fr S d (118, 76, L, fs.getD 12 pm_U :: r) M else none
  | _ => none := (fr_eq S (d) (118, 73, L, .ref q :: r) M).trans (x_ogf _ _ 3 12 118 76 L r q M)
theorem f118_76 (S : pm_S) (d : Nat) (L : List Value) (st : List Value) (M : pm_M) : fr S (d) (118, 76, L, st) M = if pm_ty (L.getD 2 pm_U) = 0 then fr S d (118, 77, L, L.getD 2 pm_U :: st) M else none := (fr_eq S (d) (118, 76, L, st) M).trans (x_old _ _ 0 2 118 77 L st M)
theorem f118_77 (S : pm_S) (d : Nat) (L : List Value) (i : Int32) (q : Nat) (hq : ¬ q = 1) (r : List Value) (M : pm_M) : fr S (d) (118, 77, L, .int i :: .ref q :: r) M = match (pm_get M q).bind (fun c => pm_el 0 c i) with
  | some v => fr S d (118, 78, L, v :: r) M
  | none => none := (fr_eq S (d) (118, 77, L, .int i :: .ref q :: r) M).trans (x_oal _ _ S 0 118 78 L r i q hq M)
theorem f118_78 (S : pm_S) (d : Nat) (L : List Value) (x y : Int32) (r : List Value) (M : pm_M) : fr S (d) (118, 78, L, .int y :: .int x :: r) M = if y < x then fr S d (118, 85, L, r) M else fr S d (118, 81, L, r) M := (fr_eq S (d) (118, 78, L, .int y :: .int x :: r) M).trans (x_oc2gt _ _ 118 81 85 L r x y M)
theorem f118_81 (S : pm_S) (d : Nat) (L : List Value) (st : List Value) (M : pm_M) : fr S (d) (118, 81, L, st) M = fr S d (118, 82, L, .int 1 :: st) M := (fr_eq S (d) (118, 81, L, st) M).trans (x_ocs _ _ (.int 1) 118 82 L st M)
theorem f118_82 (S : pm_S) (d : Nat) (L : List Value) (st : List Value) (M : pm_M) : fr S (d) (118, 82, L, st) M = fr S d (118, 86, L, st) M := (fr_eq S (d) (118, 82, L, st) M).trans (x_ogo _ _ 118 86 L st M)
theorem f118_85 (S : pm_S) (d : Nat) (L : List Value) (st : List Value) (M : pm_M) : fr S (d) (118, 85, L, st) M = fr S d (118, 86, L, .int 0 :: st) M := (fr_eq S (d) (118, 85, L, st) M).trans (x_ocs _ _ (.int 0) 118 86 L st M)
theorem f118_86 (S : pm_S) (d : Nat) (L : List Value) (v : Value) (M : pm_M) : fr S (d) (118, 86, L, [v]) M = if pm_fit 3 v = true then some (.inl (some v), M) else none := (fr_eq S (d) (118, 86, L, [v]) M).trans (x_ort _ _ 3 v M)
theorem f119_0 (S : pm_S) (d : Nat) (L : List Value) (st : List Value) (M : pm_M) : fr S (d) (119, 0, L, st) M = if pm_ty (L.getD 0 pm_U) = 2 then fr S d (119, 1, L, L.getD 0 pm_U :: st) M else none := (fr_eq S (d) (119, 0, L, st) M).trans (x_old _ _ 2 0 119 1 L st M)
theorem f119_1 (S : pm_S) (d : Nat) (L : List Value) (st : List Value) (M : pm_M) : fr S (d) (119, 1, L, st) M = if pm_ty (L.getD 2 pm_U) = 0 then fr S d (119, 2, L, L.getD 2 pm_U :: st) M else none := (fr_eq S (d) (119, 1, L, st) M).trans (x_old _ _ 0 2 119 2 L st M)
theorem f119_2 (S : pm_S) (d : Nat) (L : List Value) (st : List Value) (M : pm_M) : fr S (d) (119, 2, L, st) M = if pm_ty (L.getD 3 pm_U) = 0 then fr S d (119, 3, L, L.getD 3 pm_U :: st) M else none := (fr_eq S (d) (119, 2, L, st) M).trans (x_old _ _ 0 3 119 3 L st M)
theorem f119_3 (S : pm_S) (d : Nat) (L : List Value) (st : List Value) (M : pm_M) : fr S (d) (119, 3, L, st) M = if pm_ty (L.getD 4 pm_U) = 0 then fr S d (119, 5, L, L.getD 4 pm_U :: st) M else none := (fr_eq S (d) (119, 3, L, st) M).trans (x_old _ _ 0 4 119 5 L st M)
theorem f119_5 (S : pm_S) (d : Nat) (L : List Value) (st : List Value) (M : pm_M) : fr S (d) (119, 5, L, st) M = fr S d (119, 6, L, .int 1 :: st) M := (fr_eq S (d) (119, 5, L, st) M).trans (x_ocs _ _ (.int 1) 119 6 L st M)
theorem f119_6 (S : pm_S) (d : Nat) (L : List Value) (x y : Int32) (r : List Value) (M : pm_M) : fr S (d) (119, 6, L, .int y :: .int x :: r) M = fr S d (119, 7, L, .int (x - y) :: r) M := (fr_eq S (d) (119, 6, L, .int y :: .int x :: r) M).trans (x_oii _ _ (fun x y => x - y) 119 7 L r x y M)
theorem f119_7 (S : pm_S) (d : Nat) (L : List Value) (st : List Value) (M : pm_M) : fr S (d + 1) (119, 7, L, st) M = match pm_ag 4 [] st with
  | some (a, r) => if r.length ≤ 4 ∧ (1 = 0 ∨ pm_obj M 3 (a.headD pm_U) = true) then (match fr S d (116, 0, a ++ [], []) M with
    | none => none
    | some (.inl v, M') => fr S (d + 1) (119, 10, L, v.toList ++ r) M'
    | some (.inr E, M') => some (.inr E, M')) else none
  | none => none := (fr_eq S (d + 1) (119, 7, L, st) M).trans (x_ocl _ _ 1 116 4 3 [] 119 10 L st M)
theorem f119_10 (S : pm_S) (d : Nat) (L : List Value) (v : Value) (r : List Value) (M : pm_M) : fr S (d) (119, 10, L, v :: r) M = if pm_ty v = 0 ∧ 5 < L.length ∧ ¬ pm_ty (L.getD (5 - 1) pm_U) = 1 then fr S d (119, 12, L.set 5 v, r) M else none := (fr_eq S (d) (119, 10, L, v :: r) M).trans (x_ost _ _ 0 5 119 12 L r v M)
theorem f119_12 (S : pm_S) (d : Nat) (L : List Value) (st : List Value) (M : pm_M) : fr S (d) (119, 12, L, st) M = if pm_ty (L.getD 5 pm_U) = 0 then fr S d (119, 14, L, L.getD 5 pm_U :: st) M else none := (fr_eq S (d) (119, 12, L, st) M).trans (x_old _ _ 0 5 119 14 L st M)
theorem f119_14 (S : pm_S) (d : Nat) (L : List Value) (x : Int32) (r : List Value) (M : pm_M) : fr S (d) (119, 14, L, .int x :: r) M = if x < 0 then fr S d (119, 37, L, r) M else fr S d (119, 17, L, r) M := (fr_eq S (d) (119, 14, L, .int x :: r) M).trans (x_oc1lt _ _ 119 17 37 L r x M)
theorem f119_17 (S : pm_S) (d : Nat) (L : List Value) (st : List Value) (M : pm_M) : fr S (d) (119, 17, L, st) M = if pm_ty (L.getD 0 pm_U) = 2 then fr S d (119, 18, L, L.getD 0 pm_U :: st) M else none := (fr_eq S (d) (119, 17, L, st) M).trans (x_old _ _ 2 0 119 18 L st M)
theorem f119_18 (S : pm_S) (d : Nat) (L : List Value) (q : Nat) (r : List Value) (M : pm_M) : fr S (d) (119, 18, L, .ref q :: r) M = match pm_get M q with
  | some (.inr (c, fs)) => if c = 3 ∧ 6 < fs.length then fr S d (119, 21, L, fs.getD 6 pm_U :: r) M else none
  | _ => none := (fr_eq S (d) (119, 18, L, .ref q :: r) M).trans (x_ogf _ _ 3 6 119 21 L r q M)
theorem f119_21 (S : pm_S) (d : Nat) (L : List Value) (st : List Value) (M : pm_M) : fr S (d) (119, 21, L, st) M = if pm_ty (L.getD 5 pm_U) = 0 then fr S d (119, 23, L, L.getD 5 pm_U :: st) M else none := (fr_eq S (d) (119, 21, L, st) M).trans (x_old _ _ 0 5 119 23 L st M)
theorem f119_23 (S : pm_S) (d : Nat) (L : List Value) (i : Int32) (q : Nat) (hq : ¬ q = 1) (r : List Value) (M : pm_M) : fr S (d) (119, 23, L, .int i :: .ref q :: r) M = match (pm_get M q).bind (fun c => pm_el 0 c i) with
  | some v => fr S d (119, 24, L, v :: r) M
  | none => none := (fr_eq S (d) (119, 23, L, .int i :: .ref q :: r) M).trans (x_oal _ _ S 0 119 24 L r i q hq M)
theorem f119_24 (S : pm_S) (d : Nat) (L : List Value) (st : List Value) (M : pm_M) : fr S (d) (119, 24, L, st) M = if pm_ty (L.getD 0 pm_U) = 2 then fr S d (119, 25, L, L.getD 0 pm_U :: st) M else none := (fr_eq S (d) (119, 24, L, st) M).trans (x_old _ _ 2 0 119 25 L st M)
theorem f119_25 (S : pm_S) (d : Nat) (L : List Value) (q : Nat) (r : List Value) (M : pm_M) : fr S (d) (119, 25, L, .ref q :: r) M = match pm_get M q with
  | some (.inr (c, fs)) => if c = 3 ∧ 6 < fs.length then fr S d (119, 28, L, fs.getD 6 pm_U :: r) M else none
  | _ => none := (fr_eq S (d) (119, 25, L, .ref q :: r) M).trans (x_ogf _ _ 3 6 119 28 L r q M)
