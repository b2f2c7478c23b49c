set_option maxRecDepth 20000 in
theorem f9_763 (S : pm_S) (d : Nat) (L : List Value) (st : List Value) (M : pm_M) : fr S (d) (9, 763, L, st) M = if pm_ty (L.getD 0 pm_U) = 2 then fr S d (9, 764, L, L.getD 0 pm_U :: st) M else none := (fr_eq S (d) (9, 763, L, st) M).trans (x_old _ _ 2 0 9 764 L st M)
set_option maxRecDepth 20000 in
theorem f9_764 (S : pm_S) (d : Nat) (L : List Value) (st : List Value) (M : pm_M) : fr S (d) (9, 764, L, st) M = if pm_ty (L.getD 4 pm_U) = 0 then fr S d (9, 766, L, L.getD 4 pm_U :: st) M else none := (fr_eq S (d) (9, 764, L, st) M).trans (x_old _ _ 0 4 9 766 L st M)
set_option maxRecDepth 20000 in
theorem f9_766 (S : pm_S) (d : Nat) (L : List Value) (st : List Value) (M : pm_M) : fr S (d) (9, 766, L, st) M = fr S d (9, 767, L, .int 1 :: st) M := (fr_eq S (d) (9, 766, L, st) M).trans (x_ocs _ _ (.int 1) 9 767 L st M)
set_option maxRecDepth 20000 in
theorem f9_767 (S : pm_S) (d : Nat) (L : List Value) (x y : Int32) (r : List Value) (M : pm_M) : fr S (d) (9, 767, L, .int y :: .int x :: r) M = fr S d (9, 768, L, .int (x + y) :: r) M := (fr_eq S (d) (9, 767, L, .int y :: .int x :: r) M).trans (x_oii _ _ (fun x y => x + y) 9 768 L r x y M)
set_option maxRecDepth 20000 in
theorem f9_768 (S : pm_S) (d : Nat) (L : List Value) (i : Int32) (q : Nat) (hq : ¬ q = 1) (r : List Value) (M : pm_M) : fr S (d) (9, 768, L, .int i :: .ref q :: r) M = match (pm_get M q).bind (fun c => pm_el 0 c i) with
  | some v => fr S d (9, 769, L, v :: r) M
  | none => none := (fr_eq S (d) (9, 768, L, .int i :: .ref q :: r) M).trans (x_oal _ _ S 0 9 769 L r i q hq M)
set_option maxRecDepth 20000 in
theorem f9_769 (S : pm_S) (d : Nat) (L : List Value) (st : List Value) (M : pm_M) : fr S (d) (9, 769, L, st) M = if pm_ty (L.getD 0 pm_U) = 2 then fr S d (9, 770, L, L.getD 0 pm_U :: st) M else none := (fr_eq S (d) (9, 769, L, st) M).trans (x_old _ _ 2 0 9 770 L st M)
set_option maxRecDepth 20000 in
theorem f9_770 (S : pm_S) (d : Nat) (L : List Value) (st : List Value) (M : pm_M) : fr S (d) (9, 770, L, st) M = if pm_ty (L.getD 4 pm_U) = 0 then fr S d (9, 772, L, L.getD 4 pm_U :: st) M else none := (fr_eq S (d) (9, 770, L, st) M).trans (x_old _ _ 0 4 9 772 L st M)
set_option maxRecDepth 20000 in
theorem f9_772 (S : pm_S) (d : Nat) (L : List Value) (st : List Value) (M : pm_M) : fr S (d) (9, 772, L, st) M = fr S d (9, 773, L, .int 2 :: st) M := (fr_eq S (d) (9, 772, L, st) M).trans (x_ocs _ _ (.int 2) 9 773 L st M)
set_option maxRecDepth 20000 in
theorem f9_773 (S : pm_S) (d : Nat) (L : List Value) (x y : Int32) (r : List Value) (M : pm_M) : fr S (d) (9, 773, L, .int y :: .int x :: r) M = fr S d (9, 774, L, .int (x + y) :: r) M := (fr_eq S (d) (9, 773, L, .int y :: .int x :: r) M).trans (x_oii _ _ (fun x y => x + y) 9 774 L r x y M)
set_option maxRecDepth 20000 in
theorem f9_774 (S : pm_S) (d : Nat) (L : List Value) (i : Int32) (q : Nat) (hq : ¬ q = 1) (r : List Value) (M : pm_M) : fr S (d) (9, 774, L, .int i :: .ref q :: r) M = match (pm_get M q).bind (fun c => pm_el 0 c i) with
  | some v => fr S d (9, 775, L, v :: r) M
  | none => none := (fr_eq S (d) (9, 774, L, .int i :: .ref q :: r) M).trans (x_oal _ _ S 0 9 775 L r i q hq M)
set_option maxRecDepth 20000 in
theorem f9_775 (S : pm_S) (d : Nat) (L : List Value) (st : List Value) (M : pm_M) : fr S (d) (9, 775, L, st) M = if pm_ty (L.getD 0 pm_U) = 2 then fr S d (9, 776, L, L.getD 0 pm_U :: st) M else none := (fr_eq S (d) (9, 775, L, st) M).trans (x_old _ _ 2 0 9 776 L st M)
set_option maxRecDepth 20000 in
theorem f9_776 (S : pm_S) (d : Nat) (L : List Value) (st : List Value) (M : pm_M) : fr S (d) (9, 776, L, st) M = if pm_ty (L.getD 4 pm_U) = 0 then fr S d (9, 778, L, L.getD 4 pm_U :: st) M else none := (fr_eq S (d) (9, 776, L, st) M).trans (x_old _ _ 0 4 9 778 L st M)
set_option maxRecDepth 20000 in
theorem f9_778 (S : pm_S) (d : Nat) (L : List Value) (st : List Value) (M : pm_M) : fr S (d) (9, 778, L, st) M = fr S d (9, 779, L, .int 3 :: st) M := (fr_eq S (d) (9, 778, L, st) M).trans (x_ocs _ _ (.int 3) 9 779 L st M)
set_option maxRecDepth 20000 in
theorem f9_779 (S : pm_S) (d : Nat) (L : List Value) (x y : Int32) (r : List Value) (M : pm_M) : fr S (d) (9, 779, L, .int y :: .int x :: r) M = fr S d (9, 780, L, .int (x + y) :: r) M := (fr_eq S (d) (9, 779, L, .int y :: .int x :: r) M).trans (x_oii _ _ (fun x y => x + y) 9 780 L r x y M)
set_option maxRecDepth 20000 in
theorem f9_780 (S : pm_S) (d : Nat) (L : List Value) (i : Int32) (q : Nat) (hq : ¬ q = 1) (r : List Value) (M : pm_M) : fr S (d) (9, 780, L, .int i :: .ref q :: r) M = match (pm_get M q).bind (fun c => pm_el 0 c i) with
  | some v => fr S d (9, 781, L, v :: r) M
  | none => none := (fr_eq S (d) (9, 780, L, .int i :: .ref q :: r) M).trans (x_oal _ _ S 0 9 781 L r i q hq M)
set_option maxRecDepth 20000 in
theorem f9_781 (S : pm_S) (d : Nat) (L : List Value) (st : List Value) (M : pm_M) : fr S (d) (9, 781, L, st) M = if pm_ty (L.getD 3 pm_U) = 2 then fr S d (9, 782, L, L.getD 3 pm_U :: st) M else none := (fr_eq S (d) (9, 781, L, st) M).trans (x_old _ _ 2 3 9 782 L st M)
set_option maxRecDepth 20000 in
theorem f9_782 (S : pm_S) (d : Nat) (L : List Value) (st : List Value) (M : pm_M) : fr S (d + 1) (9, 782, L, st) M = match pm_ag 5 [] st with
  | some (a, r) => if r.length ≤ 4 ∧ (0 = 0 ∨ pm_obj M 4 (a.headD pm_U) = true) then (match fr S d (7, 0, a ++ [pm_U], []) M with
    | none => none
    | some (.inl v, M') => fr S (d + 1) (9, 785, L, v.toList ++ r) M'
    | some (.inr E, M') => some (.inr E, M')) else none
  | none => none := (fr_eq S (d + 1) (9, 782, L, st) M).trans (x_ocl _ _ 0 7 5 4 [pm_U] 9 785 L st M)
set_option maxRecDepth 20000 in
theorem f9_785 (S : pm_S) (d : Nat) (L : List Value) (v : Value) (r : List Value) (M : pm_M) : fr S (d) (9, 785, L, v :: r) M = if pm_ty v = 0 ∧ 5 < L.length ∧ ¬ pm_ty (L.getD (5 - 1) pm_U) = 1 then fr S d (9, 787, L.set 5 v, r) M else none := (fr_eq S (d) (9, 785, L, v :: r) M).trans (x_ost _ _ 0 5 9 787 L r v M)
set_option maxRecDepth 20000 in
theorem f9_787 (S : pm_S) (d : Nat) (L : List Value) (st : List Value) (M : pm_M) : fr S (d) (9, 787, L, st) M = if pm_ty (L.getD 2 pm_U) = 2 then fr S d (9, 788, L, L.getD 2 pm_U :: st) M else none := (fr_eq S (d) (9, 787, L, st) M).trans (x_old _ _ 2 2 9 788 L st M)
set_option maxRecDepth 20000 in
theorem f9_788 (S : pm_S) (d : Nat) (L : List Value) (st : List Value) (M : pm_M) : fr S (d) (9, 788, L, st) M = if pm_ty (L.getD 0 pm_U) = 2 then fr S d (9, 789, L, L.getD 0 pm_U :: st) M else none := (fr_eq S (d) (9, 788, L, st) M).trans (x_old _ _ 2 0 9 789 L st M)
set_option maxRecDepth 20000 in
theorem f9_789 (S : pm_S) (d : Nat) (L : List Value) (st : List Value) (M : pm_M) : fr S (d) (9, 789, L, st) M = if pm_ty (L.getD 4 pm_U) = 0 then fr S d (9, 791, L, L.getD 4 pm_U :: st) M else none := (fr_eq S (d) (9, 789, L, st) M).trans (x_old _ _ 0 4 9 791 L st M)
set_option maxRecDepth 20000 in
theorem f9_791 (S : pm_S) (d : Nat) (L : List Value) (st : List Value) (M : pm_M) : fr S (d) (9, 791, L, st) M = fr S d (9, 792, L, .int 1 :: st) M := (fr_eq S (d) (9, 791, L, st) M).trans (x_ocs _ _ (.int 1) 9 792 L st M)
set_option maxRecDepth 20000 in
theorem f9_792 (S : pm_S) (d : Nat) (L : List Value) (x y : Int32) (r : List Value) (M : pm_M) : fr S (d) (9, 792, L, .int y :: .int x :: r) M = fr S d (9, 793, L, .int (x + y) :: r) M := (fr_eq S (d) (9, 792, L, .int y :: .int x :: r) M).trans (x_oii _ _ (fun x y => x + y) 9 793 L r x y M)
set_option maxRecDepth 20000 in
theorem f9_793 (S : pm_S) (d : Nat) (L : List Value) (i : Int32) (q : Nat) (hq : ¬ q = 1) (r : List Value) (M : pm_M) : fr S (d) (9, 793, L, .int i :: .ref q :: r) M = match (pm_get M q).bind (fun c => pm_el 0 c i) with
  | some v => fr S d (9, 794, L, v :: r) M
  | none => none := (fr_eq S (d) (9, 793, L, .int i :: .ref q :: r) M).trans (x_oal _ _ S 0 9 794 L r i q hq M)
set_option maxRecDepth 20000 in
theorem f9_794 (S : pm_S) (d : Nat) (L : List Value) (st : List Value) (M : pm_M) : fr S (d) (9, 794, L, st) M = if pm_ty (L.getD 0 pm_U) = 2 then fr S d (9, 795, L, L.getD 0 pm_U :: st) M else none := (fr_eq S (d) (9, 794, L, st) M).trans (x_old _ _ 2 0 9 795 L st M)
set_option maxRecDepth 20000 in
theorem f9_795 (S : pm_S) (d : Nat) (L : List Value) (st : List Value) (M : pm_M) : fr S (d) (9, 795, L, st) M = if pm_ty (L.getD 4 pm_U) = 0 then fr S d (9, 797, L, L.getD 4 pm_U :: st) M else none := (fr_eq S (d) (9, 795, L, st) M).trans (x_old _ _ 0 4 9 797 L st M)
set_option maxRecDepth 20000 in
theorem f9_797 (S : pm_S) (d : Nat) (L : List Value) (st : List Value) (M : pm_M) : fr S (d) (9, 797, L, st) M = fr S d (9, 798, L, .int 2 :: st) M := (fr_eq S (d) (9, 797, L, st) M).trans (x_ocs _ _ (.int 2) 9 798 L st M)
set_option maxRecDepth 20000 in
theorem f9_798 (S : pm_S) (d : Nat) (L : List Value) (x y : Int32) (r : List Value) (M : pm_M) : fr S (d) (9, 798, L, .int y :: .int x :: r) M = fr S d (9, 799, L, .int (x + y) :: r) M := (fr_eq S (d) (9, 798, L, .int y :: .int x :: r) M).trans (x_oii _ _ (fun x y => x + y) 9 799 L r x y M)
set_option maxRecDepth 20000 in
theorem f9_799 (S : pm_S) (d : Nat) (L : List Value) (i : Int32) (q : Nat) (hq : ¬ q = 1) (r : List Value) (M : pm_M) : fr S (d) (9, 799, L, .int i :: .ref q :: r) M = match (pm_get M q).bind (fun c => pm_el 0 c i) with
  | some v => fr S d (9, 800, L, v :: r) M
  | none => none := (fr_eq S (d) (9, 799, L, .int i :: .ref q :: r) M).trans (x_oal _ _ S 0 9 800 L r i q hq M)
set_option maxRecDepth 20000 in
theorem f9_800 (S : pm_S) (d : Nat) (L : List Value) (st : List Value) (M : pm_M) : fr S (d) (9, 800, L, st) M = if pm_ty (L.getD 0 pm_U) = 2 then fr S d (9, 801, L, L.getD 0 pm_U :: st) M else none := (fr_eq S (d) (9, 800, L, st) M).trans (x_old _ _ 2 0 9 801 L st M)
set_option maxRecDepth 20000 in
theorem f9_801 (S : pm_S) (d : Nat) (L : List Value) (st : List Value) (M : pm_M) : fr S (d) (9, 801, L, st) M = if pm_ty (L.getD 4 pm_U) = 0 then fr S d (9, 803, L, L.getD 4 pm_U :: st) M else none := (fr_eq S (d) (9, 801, L, st) M).trans (x_old _ _ 0 4 9 803 L st M)
set_option maxRecDepth 20000 in
theorem f9_803 (S : pm_S) (d : Nat) (L : List Value) (st : List Value) (M : pm_M) : fr S (d) (9, 803, L, st) M = fr S d (9, 804, L, .int 3 :: st) M := (fr_eq S (d) (9, 803, L, st) M).trans (x_ocs _ _ (.int 3) 9 804 L st M)
set_option maxRecDepth 20000 in
theorem f9_804 (S : pm_S) (d : Nat) (L : List Value) (x y : Int32) (r : List Value) (M : pm_M) : fr S (d) (9, 804, L, .int y :: .int x :: r) M = fr S d (9, 805, L, .int (x + y) :: r) M := (fr_eq S (d) (9, 804, L, .int y :: .int x :: r) M).trans (x_oii _ _ (fun x y => x + y) 9 805 L r x y M)
set_option maxRecDepth 20000 in
theorem f9_805 (S : pm_S) (d : Nat) (L : List Value) (i : Int32) (q : Nat) (hq : ¬ q = 1) (r : List Value) (M : pm_M) : fr S (d) (9, 805, L, .int i :: .ref q :: r) M = match (pm_get M q).bind (fun c => pm_el 0 c i) with
  | some v => fr S d (9, 806, L, v :: r) M
  | none => none := (fr_eq S (d) (9, 805, L, .int i :: .ref q :: r) M).trans (x_oal _ _ S 0 9 806 L r i q hq M)
set_option maxRecDepth 20000 in
theorem f9_806 (S : pm_S) (d : Nat) (L : List Value) (st : List Value) (M : pm_M) : fr S (d + 1) (9, 806, L, st) M = match pm_ag 4 [] st with
  | some (a, r) => if r.length ≤ 4 ∧ (1 = 0 ∨ pm_obj M 3 (a.headD pm_U) = true) then (match fr S d (136, 0, a ++ [], []) M with
    | none => none
    | some (.inl v, M') => fr S (d + 1) (9, 809, L, v.toList ++ r) M'
    | some (.inr E, M') => some (.inr E, M')) else none
  | none => none := (fr_eq S (d + 1) (9, 806, L, st) M).trans (x_ocl _ _ 1 136 4 3 [] 9 809 L st M)
set_option maxRecDepth 20000 in
theorem f9_809 (S : pm_S) (d : Nat) (L : List Value) (v : Value) (r : List Value) (M : pm_M) : fr S (d) (9, 809, L, v :: r) M = if pm_ty v = 0 ∧ 6 < L.length ∧ ¬ pm_ty (L.getD (6 - 1) pm_U) = 1 then fr S d (9, 811, L.set 6 v, r) M else none := (fr_eq S (d) (9, 809, L, v :: r) M).trans (x_ost _ _ 0 6 9 811 L r v M)
set_option maxRecDepth 20000 in
theorem f9_811 (S : pm_S) (d : Nat) (L : List Value) (st : List Value) (M : pm_M) : fr S (d) (9, 811, L, st) M = if pm_ty (L.getD 2 pm_U) = 2 then fr S d (9, 812, L, L.getD 2 pm_U :: st) M else none := (fr_eq S (d) (9, 811, L, st) M).trans (x_old _ _ 2 2 9 812 L st M)
set_option maxRecDepth 20000 in
theorem f9_812 (S : pm_S) (d : Nat) (L : List Value) (st : List Value) (M : pm_M) : fr S (d + 1) (9, 812, L, st) M = match pm_ag 1 [] st with
  | some (a, r) => if r.length ≤ 4 ∧ (1 = 0 ∨ pm_obj M 3 (a.headD pm_U) = true) then (match fr S d (102, 0, a ++ [], []) M with
    | none => none
    | some (.inl v, M') => fr S (d + 1) (9, 815, L, v.toList ++ r) M'
    | some (.inr E, M') => some (.inr E, M')) else none
  | none => none := (fr_eq S (d + 1) (9, 812, L, st) M).trans (x_ocl _ _ 1 102 1 3 [] 9 815 L st M)
set_option maxRecDepth 20000 in
theorem f9_815 (S : pm_S) (d : Nat) (L : List Value) (st : List Value) (M : pm_M) : fr S (d) (9, 815, L, st) M = if pm_ty (L.getD 5 pm_U) = 0 then fr S d (9, 817, L, L.getD 5 pm_U :: st) M else none := (fr_eq S (d) (9, 815, L, st) M).trans (x_old _ _ 0 5 9 817 L st M)
set_option maxRecDepth 20000 in
theorem f9_817 (S : pm_S) (d : Nat) (L : List Value) (x y : Int32) (r : List Value) (M : pm_M) : fr S (d) (9, 817, L, .int y :: .int x :: r) M = if x = y then fr S d (9, 822, L, r) M else fr S d (9, 820, L, r) M := (fr_eq S (d) (9, 817, L, .int y :: .int x :: r) M).trans (x_oc2eq _ _ 9 820 822 L r x y M)
set_option maxRecDepth 20000 in
theorem f9_820 (S : pm_S) (d : Nat) (L : List Value) (st : List Value) (M : pm_M) : fr S (d) (9, 820, L, st) M = fr S d (9, 821, L, .int 0 :: st) M := (fr_eq S (d) (9, 820, L, st) M).trans (x_ocs _ _ (.int 0) 9 821 L st M)
set_option maxRecDepth 20000 in
theorem f9_821 (S : pm_S) (d : Nat) (L : List Value) (v : Value) (M : pm_M) : fr S (d) (9, 821, L, [v]) M = if pm_fit 3 v = true then some (.inl (some v), M) else none := (fr_eq S (d) (9, 821, L, [v]) M).trans (x_ort _ _ 3 v M)
set_option maxRecDepth 20000 in
theorem f9_822 (S : pm_S) (d : Nat) (L : List Value) (st : List Value) (M : pm_M) : fr S (d) (9, 822, L, st) M = if pm_ty (L.getD 5 pm_U) = 0 then fr S d (9, 824, L, L.getD 5 pm_U :: st) M else none := (fr_eq S (d) (9, 822, L, st) M).trans (x_old _ _ 0 5 9 824 L st M)
set_option maxRecDepth 20000 in
theorem f9_824 (S : pm_S) (d : Nat) (L : List Value) (x : Int32) (r : List Value) (M : pm_M) : fr S (d) (9, 824, L, .int x :: r) M = if ¬ x = 0 then fr S d (9, 839, L, r) M else fr S d (9, 827, L, r) M := (fr_eq S (d) (9, 824, L, .int x :: r) M).trans (x_oc1ne _ _ 9 827 839 L r x M)
set_option maxRecDepth 20000 in
theorem f9_827 (S : pm_S) (d : Nat) (L : List Value) (st : List Value) (M : pm_M) : fr S (d) (9, 827, L, st) M = if pm_ty (L.getD 3 pm_U) = 2 then fr S d (9, 828, L, L.getD 3 pm_U :: st) M else none := (fr_eq S (d) (9, 827, L, st) M).trans (x_old _ _ 2 3 9 828 L st M)
set_option maxRecDepth 20000 in
theorem f9_828 (S : pm_S) (d : Nat) (L : List Value) (st : List Value) (M : pm_M) : fr S (d) (9, 828, L, st) M = fr S d (9, 829, L, .int 0 :: st) M := (fr_eq S (d) (9, 828, L, st) M).trans (x_ocs _ _ (.int 0) 9 829 L st M)
set_option maxRecDepth 20000 in
theorem f9_829 (S : pm_S) (d : Nat) (L : List Value) (i : Int32) (q : Nat) (hq : ¬ q = 1) (r : List Value) (M : pm_M) : fr S (d) (9, 829, L, .int i :: .ref q :: r) M = match (pm_get M q).bind (fun c => pm_el 2 c i) with
  | some v => fr S d (9, 830, L, v :: r) M
  | none => none := (fr_eq S (d) (9, 829, L, .int i :: .ref q :: r) M).trans (x_oal _ _ S 2 9 830 L r i q hq M)
set_option maxRecDepth 20000 in
theorem f9_830 (S : pm_S) (d : Nat) (L : List Value) (st : List Value) (M : pm_M) : fr S (d) (9, 830, L, st) M = if pm_ty (L.getD 6 pm_U) = 0 then fr S d (9, 832, L, L.getD 6 pm_U :: st) M else none := (fr_eq S (d) (9, 830, L, st) M).trans (x_old _ _ 0 6 9 832 L st M)
set_option maxRecDepth 20000 in
theorem f9_832 (S : pm_S) (d : Nat) (L : List Value) (x : Int32) (r : List Value) (M : pm_M) : fr S (d) (9, 832, L, .int x :: r) M = fr S d (9, 833, L, .long x.toInt64 :: r) M := (fr_eq S (d) (9, 832, L, .int x :: r) M).trans (x_oi1 _ _ (fun x => .long x.toInt64) 9 833 L r x M)
set_option maxRecDepth 20000 in
theorem f9_833 (S : pm_S) (d : Nat) (L : List Value) (x y : Int64) (r : List Value) (M : pm_M) : fr S (d) (9, 833, L, .long y :: .long x :: r) M = fr S d (9, 834, L, .int (if y < x then 1 else if x = y then 0 else -1) :: r) M := (fr_eq S (d) (9, 833, L, .long y :: .long x :: r) M).trans (x_oll _ _ (fun x y => .int (if y < x then 1 else if x = y then 0 else -1)) 9 834 L r x y M)
set_option maxRecDepth 20000 in
theorem f9_834 (S : pm_S) (d : Nat) (L : List Value) (x : Int32) (r : List Value) (M : pm_M) : fr S (d) (9, 834, L, .int x :: r) M = if x = 0 then fr S d (9, 839, L, r) M else fr S d (9, 837, L, r) M := (fr_eq S (d) (9, 834, L, .int x :: r) M).trans (x_oc1eq _ _ 9 837 839 L r x M)
set_option maxRecDepth 20000 in
theorem f9_837 (S : pm_S) (d : Nat) (L : List Value) (st : List Value) (M : pm_M) : fr S (d) (9, 837, L, st) M = fr S d (9, 838, L, .int 0 :: st) M := (fr_eq S (d) (9, 837, L, st) M).trans (x_ocs _ _ (.int 0) 9 838 L st M)
set_option maxRecDepth 20000 in
theorem f9_838 (S : pm_S) (d : Nat) (L : List Value) (v : Value) (M : pm_M) : fr S (d) (9, 838, L, [v]) M = if pm_fit 3 v = true then some (.inl (some v), M) else none := (fr_eq S (d) (9, 838, L, [v]) M).trans (x_ort _ _ 3 v M)
set_option maxRecDepth 20000 in
theorem f9_839 (S : pm_S) (d : Nat) (L : List Value) (st : List Value) (M : pm_M) : fr S (d) (9, 839, L, st) M = fr S d (9, 935, L, st) M := (fr_eq S (d) (9, 839, L, st) M).trans (x_ogo _ _ 9 935 L st M)
set_option maxRecDepth 20000 in
theorem f9_842 (S : pm_S) (d : Nat) (L : List Value) (st : List Value) (M : pm_M) : fr S (d) (9, 842, L, st) M = if pm_ty (L.getD 1 pm_U) = 2 then fr S d (9, 843, L, L.getD 1 pm_U :: st) M else none := (fr_eq S (d) (9, 842, L, st) M).trans (x_old _ _ 2 1 9 843 L st M)
set_option maxRecDepth 20000 in
theorem f9_843 (S : pm_S) (d : Nat) (L : List Value) (st : List Value) (M : pm_M) : fr S (d) (9, 843, L, st) M = if pm_ty (L.getD 0 pm_U) = 2 then fr S d (9, 844, L, L.getD 0 pm_U :: st) M else none := (fr_eq S (d) (9, 843, L, st) M).trans (x_old _ _ 2 0 9 844 L st M)
set_option maxRecDepth 20000 in
theorem f9_844 (S : pm_S) (d : Nat) (L : List Value) (st : List Value) (M : pm_M) : fr S (d) (9, 844, L, st) M = if pm_ty (L.getD 4 pm_U) = 0 then fr S d (9, 846, L, L.getD 4 pm_U :: st) M else none := (fr_eq S (d) (9, 844, L, st) M).trans (x_old _ _ 0 4 9 846 L st M)
set_option maxRecDepth 20000 in
theorem f9_846 (S : pm_S) (d : Nat) (L : List Value) (st : List Value) (M : pm_M) : fr S (d) (9, 846, L, st) M = fr S d (9, 847, L, .int 1 :: st) M := (fr_eq S (d) (9, 846, L, st) M).trans (x_ocs _ _ (.int 1) 9 847 L st M)
set_option maxRecDepth 20000 in
theorem f9_847 (S : pm_S) (d : Nat) (L : List Value) (x y : Int32) (r : List Value) (M : pm_M) : fr S (d) (9, 847, L, .int y :: .int x :: r) M = fr S d (9, 848, L, .int (x + y) :: r) M := (fr_eq S (d) (9, 847, L, .int y :: .int x :: r) M).trans (x_oii _ _ (fun x y => x + y) 9 848 L r x y M)
set_option maxRecDepth 20000 in
theorem f9_848 (S : pm_S) (d : Nat) (L : List Value) (i : Int32) (q : Nat) (hq : ¬ q = 1) (r : List Value) (M : pm_M) : fr S (d) (9, 848, L, .int i :: .ref q :: r) M = match (pm_get M q).bind (fun c => pm_el 0 c i) with
  | some v => fr S d (9, 849, L, v :: r) M
  | none => none := (fr_eq S (d) (9, 848, L, .int i :: .ref q :: r) M).trans (x_oal _ _ S 0 9 849 L r i q hq M)
set_option maxRecDepth 20000 in
theorem f9_849 (S : pm_S) (d : Nat) (L : List Value) (st : List Value) (M : pm_M) : fr S (d) (9, 849, L, st) M = if pm_ty (L.getD 0 pm_U) = 2 then fr S d (9, 850, L, L.getD 0 pm_U :: st) M else none := (fr_eq S (d) (9, 849, L, st) M).trans (x_old _ _ 2 0 9 850 L st M)
set_option maxRecDepth 20000 in
theorem f9_850 (S : pm_S) (d : Nat) (L : List Value) (st : List Value) (M : pm_M) : fr S (d) (9, 850, L, st) M = if pm_ty (L.getD 4 pm_U) = 0 then fr S d (9, 852, L, L.getD 4 pm_U :: st) M else none := (fr_eq S (d) (9, 850, L, st) M).trans (x_old _ _ 0 4 9 852 L st M)
set_option maxRecDepth 20000 in
theorem f9_852 (S : pm_S) (d : Nat) (L : List Value) (st : List Value) (M : pm_M) : fr S (d) (9, 852, L, st) M = fr S d (9, 853, L, .int 2 :: st) M := (fr_eq S (d) (9, 852, L, st) M).trans (x_ocs _ _ (.int 2) 9 853 L st M)
set_option maxRecDepth 20000 in
theorem f9_853 (S : pm_S) (d : Nat) (L : List Value) (x y : Int32) (r : List Value) (M : pm_M) : fr S (d) (9, 853, L, .int y :: .int x :: r) M = fr S d (9, 854, L, .int (x + y) :: r) M := (fr_eq S (d) (9, 853, L, .int y :: .int x :: r) M).trans (x_oii _ _ (fun x y => x + y) 9 854 L r x y M)
set_option maxRecDepth 20000 in
theorem f9_854 (S : pm_S) (d : Nat) (L : List Value) (i : Int32) (q : Nat) (hq : ¬ q = 1) (r : List Value) (M : pm_M) : fr S (d) (9, 854, L, .int i :: .ref q :: r) M = match (pm_get M q).bind (fun c => pm_el 0 c i) with
  | some v => fr S d (9, 855, L, v :: r) M
  | none => none := (fr_eq S (d) (9, 854, L, .int i :: .ref q :: r) M).trans (x_oal _ _ S 0 9 855 L r i q hq M)
set_option maxRecDepth 20000 in
theorem f9_855 (S : pm_S) (d : Nat) (L : List Value) (st : List Value) (M : pm_M) : fr S (d) (9, 855, L, st) M = if pm_ty (L.getD 3 pm_U) = 2 then fr S d (9, 856, L, L.getD 3 pm_U :: st) M else none := (fr_eq S (d) (9, 855, L, st) M).trans (x_old _ _ 2 3 9 856 L st M)
set_option maxRecDepth 20000 in
theorem f9_856 (S : pm_S) (d : Nat) (L : List Value) (st : List Value) (M : pm_M) : fr S (d + 1) (9, 856, L, st) M = match pm_ag 4 [] st with
  | some (a, r) => if r.length ≤ 4 ∧ (0 = 0 ∨ pm_obj M 4 (a.headD pm_U) = true) then (match fr S d (8, 0, a ++ [pm_U], []) M with
    | none => none
    | some (.inl v, M') => fr S (d + 1) (9, 859, L, v.toList ++ r) M'
    | some (.inr E, M') => some (.inr E, M')) else none
  | none => none := (fr_eq S (d + 1) (9, 856, L, st) M).trans (x_ocl _ _ 0 8 4 4 [pm_U] 9 859 L st M)
set_option maxRecDepth 20000 in
theorem f9_859 (S : pm_S) (d : Nat) (L : List Value) (v : Value) (r : List Value) (M : pm_M) : fr S (d) (9, 859, L, v :: r) M = if pm_ty v = 0 ∧ 5 < L.length ∧ ¬ pm_ty (L.getD (5 - 1) pm_U) = 1 then fr S d (9, 861, L.set 5 v, r) M else none := (fr_eq S (d) (9, 859, L, v :: r) M).trans (x_ost _ _ 0 5 9 861 L r v M)
set_option maxRecDepth 20000 in
theorem f9_861 (S : pm_S) (d : Nat) (L : List Value) (st : List Value) (M : pm_M) : fr S (d) (9, 861, L, st) M = if pm_ty (L.getD 2 pm_U) = 2 then fr S d (9, 862, L, L.getD 2 pm_U :: st) M else none := (fr_eq S (d) (9, 861, L, st) M).trans (x_old _ _ 2 2 9 862 L st M)
set_option maxRecDepth 20000 in
theorem f9_862 (S : pm_S) (d : Nat) (L : List Value) (st : List Value) (M : pm_M) : fr S (d) (9, 862, L, st) M = if pm_ty (L.getD 0 pm_U) = 2 then fr S d (9, 863, L, L.getD 0 pm_U :: st) M else none := (fr_eq S (d) (9, 862, L, st) M).trans (x_old _ _ 2 0 9 863 L st M)
set_option maxRecDepth 20000 in
theorem f9_863 (S : pm_S) (d : Nat) (L : List Value) (st : List Value) (M : pm_M) : fr S (d) (9, 863, L, st) M = if pm_ty (L.getD 4 pm_U) = 0 then fr S d (9, 865, L, L.getD 4 pm_U :: st) M else none := (fr_eq S (d) (9, 863, L, st) M).trans (x_old _ _ 0 4 9 865 L st M)
set_option maxRecDepth 20000 in
theorem f9_865 (S : pm_S) (d : Nat) (L : List Value) (st : List Value) (M : pm_M) : fr S (d) (9, 865, L, st) M = fr S d (9, 866, L, .int 1 :: st) M := (fr_eq S (d) (9, 865, L, st) M).trans (x_ocs _ _ (.int 1) 9 866 L st M)
set_option maxRecDepth 20000 in
theorem f9_866 (S : pm_S) (d : Nat) (L : List Value) (x y : Int32) (r : List Value) (M : pm_M) : fr S (d) (9, 866, L, .int y :: .int x :: r) M = fr S d (9, 867, L, .int (x + y) :: r) M := (fr_eq S (d) (9, 866, L, .int y :: .int x :: r) M).trans (x_oii _ _ (fun x y => x + y) 9 867 L r x y M)
set_option maxRecDepth 20000 in
theorem f9_867 (S : pm_S) (d : Nat) (L : List Value) (i : Int32) (q : Nat) (hq : ¬ q = 1) (r : List Value) (M : pm_M) : fr S (d) (9, 867, L, .int i :: .ref q :: r) M = match (pm_get M q).bind (fun c => pm_el 0 c i) with
  | some v => fr S d (9, 868, L, v :: r) M
  | none => none := (fr_eq S (d) (9, 867, L, .int i :: .ref q :: r) M).trans (x_oal _ _ S 0 9 868 L r i q hq M)
set_option maxRecDepth 20000 in
theorem f9_868 (S : pm_S) (d : Nat) (L : List Value) (st : List Value) (M : pm_M) : fr S (d) (9, 868, L, st) M = if pm_ty (L.getD 0 pm_U) = 2 then fr S d (9, 869, L, L.getD 0 pm_U :: st) M else none := (fr_eq S (d) (9, 868, L, st) M).trans (x_old _ _ 2 0 9 869 L st M)
set_option maxRecDepth 20000 in
theorem f9_869 (S : pm_S) (d : Nat) (L : List Value) (st : List Value) (M : pm_M) : fr S (d) (9, 869, L, st) M = if pm_ty (L.getD 4 pm_U) = 0 then fr S d (9, 871, L, L.getD 4 pm_U :: st) M else none := (fr_eq S (d) (9, 869, L, st) M).trans (x_old _ _ 0 4 9 871 L st M)
set_option maxRecDepth 20000 in
theorem f9_871 (S : pm_S) (d : Nat) (L : List Value) (st : List Value) (M : pm_M) : fr S (d) (9, 871, L, st) M = fr S d (9, 872, L, .int 2 :: st) M := (fr_eq S (d) (9, 871, L, st) M).trans (x_ocs _ _ (.int 2) 9 872 L st M)
set_option maxRecDepth 20000 in
theorem f9_872 (S : pm_S) (d : Nat) (L : List Value) (x y : Int32) (r : List Value) (M : pm_M) : fr S (d) (9, 872, L, .int y :: .int x :: r) M = fr S d (9, 873, L, .int (x + y) :: r) M := (fr_eq S (d) (9, 872, L, .int y :: .int x :: r) M).trans (x_oii _ _ (fun x y => x + y) 9 873 L r x y M)
set_option maxRecDepth 20000 in
theorem f9_873 (S : pm_S) (d : Nat) (L : List Value) (i : Int32) (q : Nat) (hq : ¬ q = 1) (r : List Value) (M : pm_M) : fr S (d) (9, 873, L, .int i :: .ref q :: r) M = match (pm_get M q).bind (fun c => pm_el 0 c i) with
  | some v => fr S d (9, 874, L, v :: r) M
  | none => none := (fr_eq S (d) (9, 873, L, .int i :: .ref q :: r) M).trans (x_oal _ _ S 0 9 874 L r i q hq M)
set_option maxRecDepth 20000 in
theorem f9_874 (S : pm_S) (d : Nat) (L : List Value) (st : List Value) (M : pm_M) : fr S (d + 1) (9, 874, L, st) M = match pm_ag 3 [] st with
  | some (a, r) => if r.length ≤ 4 ∧ (1 = 0 ∨ pm_obj M 3 (a.headD pm_U) = true) then (match fr S d (137, 0, a ++ [pm_U], []) M with
    | none => none
    | some (.inl v, M') => fr S (d + 1) (9, 877, L, v.toList ++ r) M'
    | some (.inr E, M') => some (.inr E, M')) else none
  | none => none := (fr_eq S (d + 1) (9, 874, L, st) M).trans (x_ocl _ _ 1 137 3 3 [pm_U] 9 877 L st M)
set_option maxRecDepth 20000 in
theorem f9_877 (S : pm_S) (d : Nat) (L : List Value) (v : Value) (r : List Value) (M : pm_M) : fr S (d) (9, 877, L, v :: r) M = if pm_ty v = 0 ∧ 6 < L.length ∧ ¬ pm_ty (L.getD (6 - 1) pm_U) = 1 then fr S d (9, 879, L.set 6 v, r) M else none := (fr_eq S (d) (9, 877, L, v :: r) M).trans (x_ost _ _ 0 6 9 879 L r v M)
set_option maxRecDepth 20000 in
theorem f9_879 (S : pm_S) (d : Nat) (L : List Value) (st : List Value) (M : pm_M) : fr S (d) (9, 879, L, st) M = if pm_ty (L.getD 2 pm_U) = 2 then fr S d (9, 880, L, L.getD 2 pm_U :: st) M else none := (fr_eq S (d) (9, 879, L, st) M).trans (x_old _ _ 2 2 9 880 L st M)
set_option maxRecDepth 20000 in
theorem f9_880 (S : pm_S) (d : Nat) (L : List Value) (st : List Value) (M : pm_M) : fr S (d + 1) (9, 880, L, st) M = match pm_ag 1 [] st with
  | some (a, r) => if r.length ≤ 4 ∧ (1 = 0 ∨ pm_obj M 3 (a.headD pm_U) = true) then (match fr S d (102, 0, a ++ [], []) M with
    | none => none
    | some (.inl v, M') => fr S (d + 1) (9, 883, L, v.toList ++ r) M'
    | some (.inr E, M') => some (.inr E, M')) else none
  | none => none := (fr_eq S (d + 1) (9, 880, L, st) M).trans (x_ocl _ _ 1 102 1 3 [] 9 883 L st M)
set_option maxRecDepth 20000 in
theorem f9_883 (S : pm_S) (d : Nat) (L : List Value) (st : List Value) (M : pm_M) : fr S (d) (9, 883, L, st) M = if pm_ty (L.getD 5 pm_U) = 0 then fr S d (9, 885, L, L.getD 5 pm_U :: st) M else none := (fr_eq S (d) (9, 883, L, st) M).trans (x_old _ _ 0 5 9 885 L st M)
set_option maxRecDepth 20000 in
theorem f9_885 (S : pm_S) (d : Nat) (L : List Value) (x y : Int32) (r : List Value) (M : pm_M) : fr S (d) (9, 885, L, .int y :: .int x :: r) M = if x = y then fr S d (9, 890, L, r) M else fr S d (9, 888, L, r) M := (fr_eq S (d) (9, 885, L, .int y :: .int x :: r) M).trans (x_oc2eq _ _ 9 888 890 L r x y M)
set_option maxRecDepth 20000 in
theorem f9_888 (S : pm_S) (d : Nat) (L : List Value) (st : List Value) (M : pm_M) : fr S (d) (9, 888, L, st) M = fr S d (9, 889, L, .int 0 :: st) M := (fr_eq S (d) (9, 888, L, st) M).trans (x_ocs _ _ (.int 0) 9 889 L st M)
set_option maxRecDepth 20000 in
theorem f9_889 (S : pm_S) (d : Nat) (L : List Value) (v : Value) (M : pm_M) : fr S (d) (9, 889, L, [v]) M = if pm_fit 3 v = true then some (.inl (some v), M) else none := (fr_eq S (d) (9, 889, L, [v]) M).trans (x_ort _ _ 3 v M)
set_option maxRecDepth 20000 in
theorem f9_890 (S : pm_S) (d : Nat) (L : List Value) (st : List Value) (M : pm_M) : fr S (d) (9, 890, L, st) M = if pm_ty (L.getD 5 pm_U) = 0 then fr S d (9, 892, L, L.getD 5 pm_U :: st) M else none := (fr_eq S (d) (9, 890, L, st) M).trans (x_old _ _ 0 5 9 892 L st M)
set_option maxRecDepth 20000 in
theorem f9_892 (S : pm_S) (d : Nat) (L : List Value) (x : Int32) (r : List Value) (M : pm_M) : fr S (d) (9, 892, L, .int x :: r) M = if ¬ x = 0 then fr S d (9, 907, L, r) M else fr S d (9, 895, L, r) M := (fr_eq S (d) (9, 892, L, .int x :: r) M).trans (x_oc1ne _ _ 9 895 907 L r x M)
set_option maxRecDepth 20000 in
theorem f9_895 (S : pm_S) (d : Nat) (L : List Value) (st : List Value) (M : pm_M) : fr S (d) (9, 895, L, st) M = if pm_ty (L.getD 3 pm_U) = 2 then fr S d (9, 896, L, L.getD 3 pm_U :: st) M else none := (fr_eq S (d) (9, 895, L, st) M).trans (x_old _ _ 2 3 9 896 L st M)
set_option maxRecDepth 20000 in
theorem f9_896 (S : pm_S) (d : Nat) (L : List Value) (st : List Value) (M : pm_M) : fr S (d) (9, 896, L, st) M = fr S d (9, 897, L, .int 0 :: st) M := (fr_eq S (d) (9, 896, L, st) M).trans (x_ocs _ _ (.int 0) 9 897 L st M)
set_option maxRecDepth 20000 in
theorem f9_897 (S : pm_S) (d : Nat) (L : List Value) (i : Int32) (q : Nat) (hq : ¬ q = 1) (r : List Value) (M : pm_M) : fr S (d) (9, 897, L, .int i :: .ref q :: r) M = match (pm_get M q).bind (fun c => pm_el 2 c i) with
  | some v => fr S d (9, 898, L, v :: r) M
  | none => none := (fr_eq S (d) (9, 897, L, .int i :: .ref q :: r) M).trans (x_oal _ _ S 2 9 898 L r i q hq M)
set_option maxRecDepth 20000 in
theorem f9_898 (S : pm_S) (d : Nat) (L : List Value) (st : List Value) (M : pm_M) : fr S (d) (9, 898, L, st) M = if pm_ty (L.getD 6 pm_U) = 0 then fr S d (9, 900, L, L.getD 6 pm_U :: st) M else none := (fr_eq S (d) (9, 898, L, st) M).trans (x_old _ _ 0 6 9 900 L st M)
set_option maxRecDepth 20000 in
theorem f9_900 (S : pm_S) (d : Nat) (L : List Value) (x : Int32) (r : List Value) (M : pm_M) : fr S (d) (9, 900, L, .int x :: r) M = fr S d (9, 901, L, .long x.toInt64 :: r) M := (fr_eq S (d) (9, 900, L, .int x :: r) M).trans (x_oi1 _ _ (fun x => .long x.toInt64) 9 901 L r x M)
set_option maxRecDepth 20000 in
theorem f9_901 (S : pm_S) (d : Nat) (L : List Value) (x y : Int64) (r : List Value) (M : pm_M) : fr S (d) (9, 901, L, .long y :: .long x :: r) M = fr S d (9, 902, L, .int (if y < x then 1 else if x = y then 0 else -1) :: r) M := (fr_eq S (d) (9, 901, L, .long y :: .long x :: r) M).trans (x_oll _ _ (fun x y => .int (if y < x then 1 else if x = y then 0 else -1)) 9 902 L r x y M)
set_option maxRecDepth 20000 in
theorem f9_902 (S : pm_S) (d : Nat) (L : List Value) (x : Int32) (r : List Value) (M : pm_M) : fr S (d) (9, 902, L, .int x :: r) M = if x = 0 then fr S d (9, 907, L, r) M else fr S d (9, 905, L, r) M := (fr_eq S (d) (9, 902, L, .int x :: r) M).trans (x_oc1eq _ _ 9 905 907 L r x M)
set_option maxRecDepth 20000 in
theorem f9_905 (S : pm_S) (d : Nat) (L : List Value) (st : List Value) (M : pm_M) : fr S (d) (9, 905, L, st) M = fr S d (9, 906, L, .int 0 :: st) M := (fr_eq S (d) (9, 905, L, st) M).trans (x_ocs _ _ (.int 0) 9 906 L st M)
set_option maxRecDepth 20000 in
theorem f9_906 (S : pm_S) (d : Nat) (L : List Value) (v : Value) (M : pm_M) : fr S (d) (9, 906, L, [v]) M = if pm_fit 3 v = true then some (.inl (some v), M) else none := (fr_eq S (d) (9, 906, L, [v]) M).trans (x_ort _ _ 3 v M)
set_option maxRecDepth 20000 in
theorem f9_907 (S : pm_S) (d : Nat) (L : List Value) (st : List Value) (M : pm_M) : fr S (d) (9, 907, L, st) M = fr S d (9, 935, L, st) M := (fr_eq S (d) (9, 907, L, st) M).trans (x_ogo _ _ 9 935 L st M)
set_option maxRecDepth 20000 in
theorem f9_910 (S : pm_S) (d : Nat) (L : List Value) (st : List Value) (M : pm_M) : fr S (d) (9, 910, L, st) M = if pm_ty (L.getD 1 pm_U) = 2 then fr S d (9, 911, L, L.getD 1 pm_U :: st) M else none := (fr_eq S (d) (9, 910, L, st) M).trans (x_old _ _ 2 1 9 911 L st M)
set_option maxRecDepth 20000 in
theorem f9_911 (S : pm_S) (d : Nat) (L : List Value) (st : List Value) (M : pm_M) : fr S (d) (9, 911, L, st) M = if pm_ty (L.getD 0 pm_U) = 2 then fr S d (9, 912, L, L.getD 0 pm_U :: st) M else none := (fr_eq S (d) (9, 911, L, st) M).trans (x_old _ _ 2 0 9 912 L st M)
set_option maxRecDepth 20000 in
theorem f9_912 (S : pm_S) (d : Nat) (L : List Value) (st : List Value) (M : pm_M) : fr S (d) (9, 912, L, st) M = if pm_ty (L.getD 4 pm_U) = 0 then fr S d (9, 914, L, L.getD 4 pm_U :: st) M else none := (fr_eq S (d) (9, 912, L, st) M).trans (x_old _ _ 0 4 9 914 L st M)
set_option maxRecDepth 20000 in
theorem f9_914 (S : pm_S) (d : Nat) (L : List Value) (st : List Value) (M : pm_M) : fr S (d) (9, 914, L, st) M = fr S d (9, 915, L, .int 1 :: st) M := (fr_eq S (d) (9, 914, L, st) M).trans (x_ocs _ _ (.int 1) 9 915 L st M)
set_option maxRecDepth 20000 in
theorem f9_915 (S : pm_S) (d : Nat) (L : List Value) (x y : Int32) (r : List Value) (M : pm_M) : fr S (d) (9, 915, L, .int y :: .int x :: r) M = fr S d (9, 916, L, .int (x + y) :: r) M := (fr_eq S (d) (9, 915, L, .int y :: .int x :: r) M).trans (x_oii _ _ (fun x y => x + y) 9 916 L r x y M)
set_option maxRecDepth 20000 in
theorem f9_916 (S : pm_S) (d : Nat) (L : List Value) (i : Int32) (q : Nat) (hq : ¬ q = 1) (r : List Value) (M : pm_M) : fr S (d) (9, 916, L, .int i :: .ref q :: r) M = match (pm_get M q).bind (fun c => pm_el 0 c i) with
  | some v => fr S d (9, 917, L, v :: r) M
  | none => none := (fr_eq S (d) (9, 916, L, .int i :: .ref q :: r) M).trans (x_oal _ _ S 0 9 917 L r i q hq M)
set_option maxRecDepth 20000 in
theorem f9_917 (S : pm_S) (d : Nat) (L : List Value) (st : List Value) (M : pm_M) : fr S (d + 1) (9, 917, L, st) M = match pm_ag 2 [] st with
  | some (a, r) => if r.length ≤ 4 ∧ (1 = 0 ∨ pm_obj M 0 (a.headD pm_U) = true) then (match fr S d (23, 0, a ++ [], []) M with
    | none => none
    | some (.inl v, M') => fr S (d + 1) (9, 920, L, v.toList ++ r) M'
    | some (.inr E, M') => some (.inr E, M')) else none
  | none => none := (fr_eq S (d + 1) (9, 917, L, st) M).trans (x_ocl _ _ 1 23 2 0 [] 9 920 L st M)
set_option maxRecDepth 20000 in
theorem f9_920 (S : pm_S) (d : Nat) (L : List Value) (st : List Value) (M : pm_M) : fr S (d) (9, 920, L, st) M = if pm_ty (L.getD 2 pm_U) = 2 then fr S d (9, 921, L, L.getD 2 pm_U :: st) M else none := (fr_eq S (d) (9, 920, L, st) M).trans (x_old _ _ 2 2 9 921 L st M)
set_option maxRecDepth 20000 in
theorem f9_921 (S : pm_S) (d : Nat) (L : List Value) (st : List Value) (M : pm_M) : fr S (d) (9, 921, L, st) M = if pm_ty (L.getD 0 pm_U) = 2 then fr S d (9, 922, L, L.getD 0 pm_U :: st) M else none := (fr_eq S (d) (9, 921, L, st) M).trans (x_old _ _ 2 0 9 922 L st M)
set_option maxRecDepth 20000 in
theorem f9_922 (S : pm_S) (d : Nat) (L : List Value) (st : List Value) (M : pm_M) : fr S (d) (9, 922, L, st) M = if pm_ty (L.getD 4 pm_U) = 0 then fr S d (9, 924, L, L.getD 4 pm_U :: st) M else none := (fr_eq S (d) (9, 922, L, st) M).trans (x_old _ _ 0 4 9 924 L st M)
set_option maxRecDepth 20000 in
theorem f9_924 (S : pm_S) (d : Nat) (L : List Value) (st : List Value) (M : pm_M) : fr S (d) (9, 924, L, st) M = fr S d (9, 925, L, .int 1 :: st) M := (fr_eq S (d) (9, 924, L, st) M).trans (x_ocs _ _ (.int 1) 9 925 L st M)
set_option maxRecDepth 20000 in
theorem f9_925 (S : pm_S) (d : Nat) (L : List Value) (x y : Int32) (r : List Value) (M : pm_M) : fr S (d) (9, 925, L, .int y :: .int x :: r) M = fr S d (9, 926, L, .int (x + y) :: r) M := (fr_eq S (d) (9, 925, L, .int y :: .int x :: r) M).trans (x_oii _ _ (fun x y => x + y) 9 926 L r x y M)
set_option maxRecDepth 20000 in
theorem f9_926 (S : pm_S) (d : Nat) (L : List Value) (i : Int32) (q : Nat) (hq : ¬ q = 1) (r : List Value) (M : pm_M) : fr S (d) (9, 926, L, .int i :: .ref q :: r) M = match (pm_get M q).bind (fun c => pm_el 0 c i) with
  | some v => fr S d (9, 927, L, v :: r) M
  | none => none := (fr_eq S (d) (9, 926, L, .int i :: .ref q :: r) M).trans (x_oal _ _ S 0 9 927 L r i q hq M)
set_option maxRecDepth 20000 in
theorem f9_927 (S : pm_S) (d : Nat) (L : List Value) (st : List Value) (M : pm_M) : fr S (d + 1) (9, 927, L, st) M = match pm_ag 2 [] st with
  | some (a, r) => if r.length ≤ 4 ∧ (1 = 0 ∨ pm_obj M 3 (a.headD pm_U) = true) then (match fr S d (139, 0, a ++ [pm_U, pm_U, pm_U], []) M with
    | none => none
    | some (.inl v, M') => fr S (d + 1) (9, 930, L, v.toList ++ r) M'
    | some (.inr E, M') => some (.inr E, M')) else none
  | none => none := (fr_eq S (d + 1) (9, 927, L, st) M).trans (x_ocl _ _ 1 139 2 3 [pm_U, pm_U, pm_U] 9 930 L st M)
set_option maxRecDepth 20000 in
theorem f9_930 (S : pm_S) (d : Nat) (L : List Value) (x y : Int32) (r : List Value) (M : pm_M) : fr S (d) (9, 930, L, .int y :: .int x :: r) M = if x = y then fr S d (9, 935, L, r) M else fr S d (9, 933, L, r) M := (fr_eq S (d) (9, 930, L, .int y :: .int x :: r) M).trans (x_oc2eq _ _ 9 933 935 L r x y M)
set_option maxRecDepth 20000 in
theorem f9_933 (S : pm_S) (d : Nat) (L : List Value) (st : List Value) (M : pm_M) : fr S (d) (9, 933, L, st) M = fr S d (9, 934, L, .int 0 :: st) M := (fr_eq S (d) (9, 933, L, st) M).trans (x_ocs _ _ (.int 0) 9 934 L st M)
set_option maxRecDepth 20000 in
theorem f9_934 (S : pm_S) (d : Nat) (L : List Value) (v : Value) (M : pm_M) : fr S (d) (9, 934, L, [v]) M = if pm_fit 3 v = true then some (.inl (some v), M) else none := (fr_eq S (d) (9, 934, L, [v]) M).trans (x_ort _ _ 3 v M)
set_option maxRecDepth 20000 in
theorem f9_935 (S : pm_S) (d : Nat) (L : List Value) (st : List Value) (M : pm_M) : fr S (d) (9, 935, L, st) M = match L.getD 4 pm_U with
  | .int x => if 4 < L.length ∧ ¬ pm_ty (L.getD (4 - 1) pm_U) = 1 then fr S d (9, 938, L.set 4 (.int (x + 5)), st) M else none
  | _ => none := (fr_eq S (d) (9, 935, L, st) M).trans (x_oinc _ _ 4 5 9 938 L st M)
set_option maxRecDepth 20000 in
theorem f9_938 (S : pm_S) (d : Nat) (L : List Value) (st : List Value) (M : pm_M) : fr S (d) (9, 938, L, st) M = fr S d (9, 53, L, st) M := (fr_eq S (d) (9, 938, L, st) M).trans (x_ogo _ _ 9 53 L st M)
set_option maxRecDepth 20000 in
theorem f9_941 (S : pm_S) (d : Nat) (L : List Value) (st : List Value) (M : pm_M) : fr S (d) (9, 941, L, st) M = fr S d (9, 942, L, .int 1 :: st) M := (fr_eq S (d) (9, 941, L, st) M).trans (x_ocs _ _ (.int 1) 9 942 L st M)
set_option maxRecDepth 20000 in
theorem f9_942 (S : pm_S) (d : Nat) (L : List Value) (v : Value) (M : pm_M) : fr S (d) (9, 942, L, [v]) M = if pm_fit 3 v = true then some (.inl (some v), M) else none := (fr_eq S (d) (9, 942, L, [v]) M).trans (x_ort _ _ 3 v M)
