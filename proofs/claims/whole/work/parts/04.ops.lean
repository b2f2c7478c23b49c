/-! The ops of the pure machine, and what one step of each asks. -/
def pm_J (j nx : Nat) (L st : List Value) (M : pm_M) : pm_P := .inl ((j, nx, L, st), M)
def pm_X : pm_P := .inr (.inr none)
def pm_ty : Value → Nat
  | .int _ => 0
  | .long _ => 1
  | .null => 2
  | .ref _ => 2
  | _ => 9
theorem pm_ty_i (x : Int32) : pm_ty (.int x) = 0 := rfl
theorem pm_ty_l (x : Int64) : pm_ty (.long x) = 1 := rfl
theorem pm_ty_n : pm_ty .null = 2 := rfl
theorem pm_ty_r (x : Nat) : pm_ty (.ref x) = 2 := rfl
theorem pm_ty_u : pm_ty pm_U = 9 := rfl
theorem pm_ty_q (x : Option Nat) : pm_ty (va_rf x) = 2 := by cases x <;> rfl
section PMX
variable (k : Nat → pm_F → pm_M → Option pm_R) (d : Nat)
theorem x_J (j nx : Nat) (L st : List Value) (M : pm_M) : pm_ex k d (pm_J j nx L st M) = k d (j, nx, L, st) M := rfl
theorem x_X : pm_ex k d pm_X = none := rfl
theorem x_ite {c : Prop} [Decidable c] (a b : pm_P) : pm_ex k d (if c then a else b) = if c then pm_ex k d a else pm_ex k d b := by split <;> rfl

def pm_old (t i j nx : Nat) (L st : List Value) (M : pm_M) : pm_P := if pm_ty (L.getD i pm_U) = t then pm_J j nx L (L.getD i pm_U :: st) M else pm_X
theorem x_old (t i j nx : Nat) (L st : List Value) (M : pm_M) : pm_ex k d (pm_old t i j nx L st M) = if pm_ty (L.getD i pm_U) = t then k d (j, nx, L, L.getD i pm_U :: st) M else none := by unfold pm_old; (try dsimp only); split <;> rfl
def pm_ost (t i j nx : Nat) (L st : List Value) (M : pm_M) : pm_P := match st with
  | v :: r => if pm_ty v = t ∧ i < L.length ∧ ¬ pm_ty (L.getD (i - 1) pm_U) = 1 then pm_J j nx (L.set i v) r M else pm_X
  | [] => pm_X
theorem x_ost (t i j nx : Nat) (L r : List Value) (v : Value) (M : pm_M) : pm_ex k d (pm_ost t i j nx L (v :: r) M) = if pm_ty v = t ∧ i < L.length ∧ ¬ pm_ty (L.getD (i - 1) pm_U) = 1 then k d (j, nx, L.set i v, r) M else none := by unfold pm_ost; (try dsimp only); split <;> rfl
def pm_osl (i j nx : Nat) (L st : List Value) (M : pm_M) : pm_P := match st with
  | v :: r => if pm_ty v = 1 ∧ i + 1 < L.length ∧ ¬ pm_ty (L.getD (i - 1) pm_U) = 1 then pm_J j nx ((L.set i v).set (i + 1) pm_U) r M else pm_X
  | [] => pm_X
theorem x_osl (i j nx : Nat) (L r : List Value) (v : Value) (M : pm_M) : pm_ex k d (pm_osl i j nx L (v :: r) M) = if pm_ty v = 1 ∧ i + 1 < L.length ∧ ¬ pm_ty (L.getD (i - 1) pm_U) = 1 then k d (j, nx, (L.set i v).set (i + 1) pm_U, r) M else none := by unfold pm_osl; (try dsimp only); split <;> rfl
def pm_ocs (v : Value) (j nx : Nat) (L st : List Value) (M : pm_M) : pm_P := pm_J j nx L (v :: st) M
theorem x_ocs (v : Value) (j nx : Nat) (L st : List Value) (M : pm_M) : pm_ex k d (pm_ocs v j nx L st M) = k d (j, nx, L, v :: st) M := rfl
def pm_oii (f : Int32 → Int32 → Int32) (j nx : Nat) (L st : List Value) (M : pm_M) : pm_P := match st with
  | .int y :: .int x :: r => pm_J j nx L (.int (f x y) :: r) M
  | _ => pm_X
theorem x_oii (f : Int32 → Int32 → Int32) (j nx : Nat) (L r : List Value) (x y : Int32) (M : pm_M) : pm_ex k d (pm_oii f j nx L (.int y :: .int x :: r) M) = k d (j, nx, L, .int (f x y) :: r) M := rfl
def pm_oir (j nx : Nat) (L st : List Value) (M : pm_M) (q : Bool) : pm_P := match st with
  | .int y :: .int x :: r => if y = 0 then pm_X else pm_J j nx L (.int (if q = true then x / y else x - x / y * y) :: r) M
  | _ => pm_X
theorem x_oir (j nx : Nat) (L r : List Value) (x y : Int32) (M : pm_M) (q : Bool) : pm_ex k d (pm_oir j nx L (.int y :: .int x :: r) M q) = if y = 0 then none else k d (j, nx, L, .int (if q = true then x / y else x - x / y * y) :: r) M := by unfold pm_oir; (try dsimp only); split <;> rfl
def pm_oi1 (f : Int32 → Value) (j nx : Nat) (L st : List Value) (M : pm_M) : pm_P := match st with
  | .int x :: r => pm_J j nx L (f x :: r) M
  | _ => pm_X
theorem x_oi1 (f : Int32 → Value) (j nx : Nat) (L r : List Value) (x : Int32) (M : pm_M) : pm_ex k d (pm_oi1 f j nx L (.int x :: r) M) = k d (j, nx, L, f x :: r) M := rfl
def pm_ol1 (f : Int64 → Value) (j nx : Nat) (L st : List Value) (M : pm_M) : pm_P := match st with
  | .long x :: r => pm_J j nx L (f x :: r) M
  | _ => pm_X
theorem x_ol1 (f : Int64 → Value) (j nx : Nat) (L r : List Value) (x : Int64) (M : pm_M) : pm_ex k d (pm_ol1 f j nx L (.long x :: r) M) = k d (j, nx, L, f x :: r) M := rfl
def pm_oll (f : Int64 → Int64 → Value) (j nx : Nat) (L st : List Value) (M : pm_M) : pm_P := match st with
  | .long y :: .long x :: r => pm_J j nx L (f x y :: r) M
  | _ => pm_X
theorem x_oll (f : Int64 → Int64 → Value) (j nx : Nat) (L r : List Value) (x y : Int64) (M : pm_M) : pm_ex k d (pm_oll f j nx L (.long y :: .long x :: r) M) = k d (j, nx, L, f x y :: r) M := rfl
def pm_oli (f : Int64 → Int32 → Int64) (j nx : Nat) (L st : List Value) (M : pm_M) : pm_P := match st with
  | .int y :: .long x :: r => pm_J j nx L (.long (f x y) :: r) M
  | _ => pm_X
theorem x_oli (f : Int64 → Int32 → Int64) (j nx : Nat) (L r : List Value) (x : Int64) (y : Int32) (M : pm_M) : pm_ex k d (pm_oli f j nx L (.int y :: .long x :: r) M) = k d (j, nx, L, .long (f x y) :: r) M := rfl

def pm_oc2eq (j nx tg : Nat) (L st : List Value) (M : pm_M) : pm_P := match st with
  | .int y :: .int x :: r => if x = y then pm_J j tg L r M else pm_J j nx L r M
  | _ => pm_X
theorem x_oc2eq (j nx tg : Nat) (L r : List Value) (x y : Int32) (M : pm_M) : pm_ex k d (pm_oc2eq j nx tg L (.int y :: .int x :: r) M) = if x = y then k d (j, tg, L, r) M else k d (j, nx, L, r) M := by unfold pm_oc2eq; (try dsimp only); split <;> rfl
def pm_oc2ne (j nx tg : Nat) (L st : List Value) (M : pm_M) : pm_P := match st with
  | .int y :: .int x :: r => if ¬ x = y then pm_J j tg L r M else pm_J j nx L r M
  | _ => pm_X
theorem x_oc2ne (j nx tg : Nat) (L r : List Value) (x y : Int32) (M : pm_M) : pm_ex k d (pm_oc2ne j nx tg L (.int y :: .int x :: r) M) = if ¬ x = y then k d (j, tg, L, r) M else k d (j, nx, L, r) M := by unfold pm_oc2ne; (try dsimp only); split <;> rfl
def pm_oc2lt (j nx tg : Nat) (L st : List Value) (M : pm_M) : pm_P := match st with
  | .int y :: .int x :: r => if x < y then pm_J j tg L r M else pm_J j nx L r M
  | _ => pm_X
theorem x_oc2lt (j nx tg : Nat) (L r : List Value) (x y : Int32) (M : pm_M) : pm_ex k d (pm_oc2lt j nx tg L (.int y :: .int x :: r) M) = if x < y then k d (j, tg, L, r) M else k d (j, nx, L, r) M := by unfold pm_oc2lt; (try dsimp only); split <;> rfl
def pm_oc2ge (j nx tg : Nat) (L st : List Value) (M : pm_M) : pm_P := match st with
  | .int y :: .int x :: r => if y ≤ x then pm_J j tg L r M else pm_J j nx L r M
  | _ => pm_X
theorem x_oc2ge (j nx tg : Nat) (L r : List Value) (x y : Int32) (M : pm_M) : pm_ex k d (pm_oc2ge j nx tg L (.int y :: .int x :: r) M) = if y ≤ x then k d (j, tg, L, r) M else k d (j, nx, L, r) M := by unfold pm_oc2ge; (try dsimp only); split <;> rfl
def pm_oc2gt (j nx tg : Nat) (L st : List Value) (M : pm_M) : pm_P := match st with
  | .int y :: .int x :: r => if y < x then pm_J j tg L r M else pm_J j nx L r M
  | _ => pm_X
theorem x_oc2gt (j nx tg : Nat) (L r : List Value) (x y : Int32) (M : pm_M) : pm_ex k d (pm_oc2gt j nx tg L (.int y :: .int x :: r) M) = if y < x then k d (j, tg, L, r) M else k d (j, nx, L, r) M := by unfold pm_oc2gt; (try dsimp only); split <;> rfl
def pm_oc2le (j nx tg : Nat) (L st : List Value) (M : pm_M) : pm_P := match st with
  | .int y :: .int x :: r => if x ≤ y then pm_J j tg L r M else pm_J j nx L r M
  | _ => pm_X
theorem x_oc2le (j nx tg : Nat) (L r : List Value) (x y : Int32) (M : pm_M) : pm_ex k d (pm_oc2le j nx tg L (.int y :: .int x :: r) M) = if x ≤ y then k d (j, tg, L, r) M else k d (j, nx, L, r) M := by unfold pm_oc2le; (try dsimp only); split <;> rfl
def pm_oc1eq (j nx tg : Nat) (L st : List Value) (M : pm_M) : pm_P := match st with
  | .int x :: r => if x = 0 then pm_J j tg L r M else pm_J j nx L r M
  | _ => pm_X
theorem x_oc1eq (j nx tg : Nat) (L r : List Value) (x : Int32) (M : pm_M) : pm_ex k d (pm_oc1eq j nx tg L (.int x :: r) M) = if x = 0 then k d (j, tg, L, r) M else k d (j, nx, L, r) M := by unfold pm_oc1eq; (try dsimp only); split <;> rfl
def pm_oc1ne (j nx tg : Nat) (L st : List Value) (M : pm_M) : pm_P := match st with
  | .int x :: r => if ¬ x = 0 then pm_J j tg L r M else pm_J j nx L r M
  | _ => pm_X
theorem x_oc1ne (j nx tg : Nat) (L r : List Value) (x : Int32) (M : pm_M) : pm_ex k d (pm_oc1ne j nx tg L (.int x :: r) M) = if ¬ x = 0 then k d (j, tg, L, r) M else k d (j, nx, L, r) M := by unfold pm_oc1ne; (try dsimp only); split <;> rfl
def pm_oc1lt (j nx tg : Nat) (L st : List Value) (M : pm_M) : pm_P := match st with
  | .int x :: r => if x < 0 then pm_J j tg L r M else pm_J j nx L r M
  | _ => pm_X
theorem x_oc1lt (j nx tg : Nat) (L r : List Value) (x : Int32) (M : pm_M) : pm_ex k d (pm_oc1lt j nx tg L (.int x :: r) M) = if x < 0 then k d (j, tg, L, r) M else k d (j, nx, L, r) M := by unfold pm_oc1lt; (try dsimp only); split <;> rfl
def pm_oc1ge (j nx tg : Nat) (L st : List Value) (M : pm_M) : pm_P := match st with
  | .int x :: r => if 0 ≤ x then pm_J j tg L r M else pm_J j nx L r M
  | _ => pm_X
theorem x_oc1ge (j nx tg : Nat) (L r : List Value) (x : Int32) (M : pm_M) : pm_ex k d (pm_oc1ge j nx tg L (.int x :: r) M) = if 0 ≤ x then k d (j, tg, L, r) M else k d (j, nx, L, r) M := by unfold pm_oc1ge; (try dsimp only); split <;> rfl
def pm_oc1gt (j nx tg : Nat) (L st : List Value) (M : pm_M) : pm_P := match st with
  | .int x :: r => if 0 < x then pm_J j tg L r M else pm_J j nx L r M
  | _ => pm_X
theorem x_oc1gt (j nx tg : Nat) (L r : List Value) (x : Int32) (M : pm_M) : pm_ex k d (pm_oc1gt j nx tg L (.int x :: r) M) = if 0 < x then k d (j, tg, L, r) M else k d (j, nx, L, r) M := by unfold pm_oc1gt; (try dsimp only); split <;> rfl
def pm_oc1le (j nx tg : Nat) (L st : List Value) (M : pm_M) : pm_P := match st with
  | .int x :: r => if x ≤ 0 then pm_J j tg L r M else pm_J j nx L r M
  | _ => pm_X
theorem x_oc1le (j nx tg : Nat) (L r : List Value) (x : Int32) (M : pm_M) : pm_ex k d (pm_oc1le j nx tg L (.int x :: r) M) = if x ≤ 0 then k d (j, tg, L, r) M else k d (j, nx, L, r) M := by unfold pm_oc1le; (try dsimp only); split <;> rfl
def pm_onu (a b j : Nat) (L st : List Value) (M : pm_M) : pm_P := match st with
  | v :: r => if pm_ty v = 2 then (if v = .null then pm_J j a L r M else pm_J j b L r M) else pm_X
  | [] => pm_X
theorem x_onu (a b j : Nat) (L r : List Value) (v : Value) (M : pm_M) : pm_ex k d (pm_onu a b j L (v :: r) M) = if pm_ty v = 2 then (if v = .null then k d (j, a, L, r) M else k d (j, b, L, r) M) else none := by
  unfold pm_onu
  by_cases h : pm_ty v = 2
  · simp only [h, if_true]; split <;> rfl
  · simp only [h, if_false]; rfl
def pm_lv (M : pm_M) : Value → Bool
  | .null => true
  | .ref q => (pm_get M q).isSome
  | _ => false
def pm_oac (a b j : Nat) (L st : List Value) (M : pm_M) : pm_P := match st with
  | w :: v :: r => if pm_lv M v = true ∧ pm_lv M w = true then (if v = w then pm_J j a L r M else pm_J j b L r M) else pm_X
  | _ => pm_X
theorem x_oac (a b j : Nat) (L r : List Value) (v w : Value) (M : pm_M) : pm_ex k d (pm_oac a b j L (w :: v :: r) M) = if pm_lv M v = true ∧ pm_lv M w = true then (if v = w then k d (j, a, L, r) M else k d (j, b, L, r) M) else none := by
  unfold pm_oac
  by_cases h : pm_lv M v = true ∧ pm_lv M w = true
  · simp only [h, and_self, if_true]; split <;> rfl
  · simp only [h, if_false]; rfl
def pm_ogo (j tg : Nat) (L st : List Value) (M : pm_M) : pm_P := pm_J j tg L st M
theorem x_ogo (j tg : Nat) (L st : List Value) (M : pm_M) : pm_ex k d (pm_ogo j tg L st M) = k d (j, tg, L, st) M := rfl
def pm_oinc (i : Nat) (n : Int32) (j nx : Nat) (L st : List Value) (M : pm_M) : pm_P := match L.getD i pm_U with
  | .int x => if i < L.length ∧ ¬ pm_ty (L.getD (i - 1) pm_U) = 1 then pm_J j nx (L.set i (.int (x + n))) st M else pm_X
  | _ => pm_X
theorem x_oinc (i : Nat) (n : Int32) (j nx : Nat) (L st : List Value) (M : pm_M) : pm_ex k d (pm_oinc i n j nx L st M) = match L.getD i pm_U with
  | .int x => if i < L.length ∧ ¬ pm_ty (L.getD (i - 1) pm_U) = 1 then k d (j, nx, L.set i (.int (x + n)), st) M else none
  | _ => none := by
  unfold pm_oinc
  cases L.getD i pm_U <;> (try rfl)
  dsimp only
  split <;> rfl
def pm_odup (j nx : Nat) (L st : List Value) (M : pm_M) : pm_P := match st with
  | v :: r => if ¬ pm_ty v = 1 ∧ ¬ pm_ty v = 9 then pm_J j nx L (v :: v :: r) M else pm_X
  | [] => pm_X
theorem x_odup (j nx : Nat) (L r : List Value) (v : Value) (M : pm_M) : pm_ex k d (pm_odup j nx L (v :: r) M) = if ¬ pm_ty v = 1 ∧ ¬ pm_ty v = 9 then k d (j, nx, L, v :: v :: r) M else none := by unfold pm_odup; (try dsimp only); split <;> rfl
def pm_odup1 (j nx : Nat) (L st : List Value) (M : pm_M) : pm_P := match st with
  | v :: w :: r => if ¬ pm_ty v = 1 ∧ ¬ pm_ty v = 9 ∧ ¬ pm_ty w = 1 ∧ ¬ pm_ty w = 9 then pm_J j nx L (v :: w :: v :: r) M else pm_X
  | _ => pm_X
theorem x_odup1 (j nx : Nat) (L r : List Value) (v w : Value) (M : pm_M) : pm_ex k d (pm_odup1 j nx L (v :: w :: r) M) = if ¬ pm_ty v = 1 ∧ ¬ pm_ty v = 9 ∧ ¬ pm_ty w = 1 ∧ ¬ pm_ty w = 9 then k d (j, nx, L, v :: w :: v :: r) M else none := by unfold pm_odup1; (try dsimp only); split <;> rfl
def pm_odup2 (j nx : Nat) (L st : List Value) (M : pm_M) : pm_P := match st with
  | v :: w :: r => if ¬ pm_ty v = 1 ∧ ¬ pm_ty v = 9 ∧ ¬ pm_ty w = 1 ∧ ¬ pm_ty w = 9 then pm_J j nx L (v :: w :: v :: w :: r) M else pm_X
  | _ => pm_X
theorem x_odup2 (j nx : Nat) (L r : List Value) (v w : Value) (M : pm_M) : pm_ex k d (pm_odup2 j nx L (v :: w :: r) M) = if ¬ pm_ty v = 1 ∧ ¬ pm_ty v = 9 ∧ ¬ pm_ty w = 1 ∧ ¬ pm_ty w = 9 then k d (j, nx, L, v :: w :: v :: w :: r) M else none := by unfold pm_odup2; (try dsimp only); split <;> rfl
def pm_opop (j nx : Nat) (L st : List Value) (M : pm_M) : pm_P := match st with
  | v :: r => if ¬ pm_ty v = 1 ∧ ¬ pm_ty v = 9 then pm_J j nx L r M else pm_X
  | [] => pm_X
theorem x_opop (j nx : Nat) (L r : List Value) (v : Value) (M : pm_M) : pm_ex k d (pm_opop j nx L (v :: r) M) = if ¬ pm_ty v = 1 ∧ ¬ pm_ty v = 9 then k d (j, nx, L, r) M else none := by unfold pm_opop; (try dsimp only); split <;> rfl
def pm_ogf (ci i j nx : Nat) (L st : List Value) (M : pm_M) : pm_P := match st with
  | .ref q :: r => match pm_get M q with
    | some (.inr (c, fs)) => if c = ci ∧ i < fs.length then pm_J j nx L (fs.getD i pm_U :: r) M else pm_X
    | _ => pm_X
  | _ => pm_X
theorem x_ogf (ci i j nx : Nat) (L r : List Value) (q : Nat) (M : pm_M) : pm_ex k d (pm_ogf ci i j nx L (.ref q :: r) M) = match pm_get M q with
    | some (.inr (c, fs)) => if c = ci ∧ i < fs.length then k d (j, nx, L, fs.getD i pm_U :: r) M else none
    | _ => none := by
  show pm_ex k d (match pm_get M q with | some (.inr (c, fs)) => if c = ci ∧ i < fs.length then pm_J j nx L (fs.getD i pm_U :: r) M else pm_X | _ => pm_X) = _
  rcases pm_get M q with _ | ⟨a⟩ | ⟨c, fs⟩
  · rfl
  · rfl
  · show pm_ex k d (if c = ci ∧ i < fs.length then pm_J j nx L (fs.getD i pm_U :: r) M else pm_X) = if c = ci ∧ i < fs.length then k d (j, nx, L, fs.getD i pm_U :: r) M else none
    split <;> rfl
/-- does a value fit a field or an element: 0 int, 1 long, 2 a reference, 3 boolean -/
def pm_fit (t : Nat) (v : Value) : Bool := if t = 3 then (v == .int 0 || v == .int 1) else pm_ty v == t && !(t == 9)
theorem pm_fit_i (x : Int32) : pm_fit 0 (.int x) = true := rfl
theorem pm_fit_l (x : Int64) : pm_fit 1 (.long x) = true := rfl
theorem pm_fit_n : pm_fit 2 .null = true := rfl
theorem pm_fit_r (x : Nat) : pm_fit 2 (.ref x) = true := rfl
theorem pm_fit_q (x : Option Nat) : pm_fit 2 (va_rf x) = true := by cases x <;> rfl
def pm_opf (ci i t j nx : Nat) (L st : List Value) (M : pm_M) : pm_P := match st with
  | v :: .ref q :: r => match pm_get M q with
    | some (.inr (c, fs)) => if c = ci ∧ i < fs.length ∧ pm_fit t v = true then pm_J j nx L r (pm_set M q (.inr (c, fs.set i v))) else pm_X
    | _ => pm_X
  | _ => pm_X
theorem x_opf (ci i t j nx : Nat) (L r : List Value) (q : Nat) (v : Value) (M : pm_M) : pm_ex k d (pm_opf ci i t j nx L (v :: .ref q :: r) M) = match pm_get M q with
    | some (.inr (c, fs)) => if c = ci ∧ i < fs.length ∧ pm_fit t v = true then k d (j, nx, L, r) (pm_set M q (.inr (c, fs.set i v))) else none
    | _ => none := by
  show pm_ex k d (match pm_get M q with | some (.inr (c, fs)) => if c = ci ∧ i < fs.length ∧ pm_fit t v = true then pm_J j nx L r (pm_set M q (.inr (c, fs.set i v))) else pm_X | _ => pm_X) = _
  rcases pm_get M q with _ | ⟨a⟩ | ⟨c, fs⟩
  · rfl
  · rfl
  · show pm_ex k d (if c = ci ∧ i < fs.length ∧ pm_fit t v = true then pm_J j nx L r (pm_set M q (.inr (c, fs.set i v))) else pm_X) = if c = ci ∧ i < fs.length ∧ pm_fit t v = true then k d (j, nx, L, r) (pm_set M q (.inr (c, fs.set i v))) else none
    split <;> rfl
/-- an array's element, and the array with another: t the array's type, i the index -/
def pm_el (t : Nat) (c : pm_C) (i : Int32) : Option Value := match c with
  | .inl (t', (n, f)) => if t' = t ∧ ¬ (i < 0 ∨ n ≤ i.toNatClampNeg) then (match f with
    | .inl f => some (.int (f i.toNatClampNeg))
    | .inr (.inl f) => some (.long (f i.toNatClampNeg))
    | .inr (.inr (.inr (.inr f))) => some (va_rf (f i.toNatClampNeg))
    | _ => none) else none
  | _ => none
def pm_ev (w : Nat) (t : Nat) (c : pm_C) (i : Int32) (v : Value) : Option pm_C := match c with
  | .inl (t', (n, f)) => if t' = t ∧ ¬ (i < 0 ∨ n ≤ i.toNatClampNeg) ∧ pm_fit w v = true then (match f, v with
    | .inl f, .int x => some (.inl (t', (n, .inl (upd f i.toNatClampNeg x))))
    | .inr (.inl f), .long x => some (.inl (t', (n, .inr (.inl (vp_updL f i.toNatClampNeg x)))))
    | .inr (.inr (.inr (.inr f))), .null => some (.inl (t', (n, .inr (.inr (.inr (.inr (va_up f i.toNatClampNeg none)))))))
    | .inr (.inr (.inr (.inr f))), .ref q => some (.inl (t', (n, .inr (.inr (.inr (.inr (va_up f i.toNatClampNeg (some q))))))))
    | _, _ => none) else none
  | _ => none
def pm_oal (S : pm_S) (t j nx : Nat) (L st : List Value) (M : pm_M) : pm_P := match st with
  | .int i :: .ref q :: r => if q = 1 ∧ t = 0 then (if ¬ (i < 0 ∨ S.1 ≤ i.toNatClampNeg) then pm_J j nx L (.int (S.2 i.toNatClampNeg) :: r) M else pm_X) else match (pm_get M q).bind (fun c => pm_el t c i) with
    | some v => pm_J j nx L (v :: r) M
    | none => pm_X
  | _ => pm_X
theorem x_oal (S : pm_S) (t j nx : Nat) (L r : List Value) (i : Int32) (q : Nat) (hq : ¬ q = 1) (M : pm_M) : pm_ex k d (pm_oal S t j nx L (.int i :: .ref q :: r) M) = match (pm_get M q).bind (fun c => pm_el t c i) with
    | some v => k d (j, nx, L, v :: r) M
    | none => none := by
  show pm_ex k d (if q = 1 ∧ t = 0 then _ else match (pm_get M q).bind (fun c => pm_el t c i) with | some v => pm_J j nx L (v :: r) M | none => pm_X) = _
  rw [if_neg (fun h => hq h.1)]
  rcases (pm_get M q).bind (fun c => pm_el t c i) with _ | v <;> rfl
theorem x_oal1 (S : pm_S) (j nx : Nat) (L r : List Value) (i : Int32) (M : pm_M) : pm_ex k d (pm_oal S 0 j nx L (.int i :: .ref 1 :: r) M) = if ¬ (i < 0 ∨ S.1 ≤ i.toNatClampNeg) then k d (j, nx, L, .int (S.2 i.toNatClampNeg) :: r) M else none := by
  unfold pm_oal
  dsimp only
  rw [if_pos ⟨rfl, rfl⟩]
  split <;> rfl
def pm_obj (M : pm_M) (ci : Nat) (v : Value) : Bool := match v with
  | .ref q => (match pm_get M q with
    | some (.inr (c, _)) => decide (c = ci)
    | _ => false)
  | _ => false
def pm_sq (M : pm_M) (c0 : Nat) (v : Value) : Bool := match v with
  | .ref _ => pm_obj M c0 v
  | _ => true
def pm_oas (w t c0 j nx : Nat) (L st : List Value) (M : pm_M) : pm_P := match st with
  | v :: .int i :: .ref q :: r => if pm_sq M c0 v = true then (match (pm_get M q).bind (fun c => pm_ev w t c i v) with
    | some c' => pm_J j nx L r (pm_set M q c')
    | none => pm_X) else pm_X
  | _ => pm_X
theorem x_oas (w t c0 j nx : Nat) (L r : List Value) (v : Value) (i : Int32) (q : Nat) (M : pm_M) : pm_ex k d (pm_oas w t c0 j nx L (v :: .int i :: .ref q :: r) M) = if pm_sq M c0 v = true then (match (pm_get M q).bind (fun c => pm_ev w t c i v) with
    | some c' => k d (j, nx, L, r) (pm_set M q c')
    | none => none) else none := by
  unfold pm_oas
  dsimp only
  split
  · rcases (pm_get M q).bind (fun c => pm_ev w t c i v) with _ | c' <;> rfl
  · rfl
def pm_oln (S : pm_S) (j nx : Nat) (L st : List Value) (M : pm_M) : pm_P := match st with
  | .ref q :: r => if q = 1 then pm_J j nx L (.int (Int32.ofNat S.1) :: r) M else match pm_get M q with
    | some (.inl (_, (n, _))) => pm_J j nx L (.int (Int32.ofNat n) :: r) M
    | _ => pm_X
  | _ => pm_X
theorem x_oln (S : pm_S) (j nx : Nat) (L r : List Value) (q : Nat) (hq : ¬ q = 1) (M : pm_M) : pm_ex k d (pm_oln S j nx L (.ref q :: r) M) = match pm_get M q with
    | some (.inl (_, (n, _))) => k d (j, nx, L, .int (Int32.ofNat n) :: r) M
    | _ => none := by
  show pm_ex k d (if q = 1 then _ else match pm_get M q with | some (.inl (_, (n, _))) => pm_J j nx L (.int (Int32.ofNat n) :: r) M | _ => pm_X) = _
  rw [if_neg hq]
  rcases pm_get M q with _ | ⟨t, n, f⟩ | c <;> rfl
theorem x_oln1 (S : pm_S) (j nx : Nat) (L r : List Value) (M : pm_M) : pm_ex k d (pm_oln S j nx L (.ref 1 :: r) M) = k d (j, nx, L, .int (Int32.ofNat S.1) :: r) M := rfl
def pm_one (ci : Nat) (fs : List Value) (rg : Bool) (j nx : Nat) (L st : List Value) (M : pm_M) : pm_P := pm_J j nx L (.ref (pm_at M rg) :: st) (pm_new M rg (.inr (ci, fs)) fs.length)
theorem x_one (ci : Nat) (fs : List Value) (rg : Bool) (j nx : Nat) (L st : List Value) (M : pm_M) : pm_ex k d (pm_one ci fs rg j nx L st M) = k d (j, nx, L, .ref (pm_at M rg) :: st) (pm_new M rg (.inr (ci, fs)) fs.length) := rfl
/-- the empty array: 0 ints or booleans, 1 longs, 2 references -/
def pm_z (w : Nat) : (Nat → Int32) ⊕ (Nat → Int64) ⊕ (Nat → UInt32) ⊕ (Nat → UInt64) ⊕ (Nat → Option Nat) := match w with
  | 0 => .inl (fun _ => 0)
  | 1 => .inr (.inl (fun _ => 0))
  | _ => .inr (.inr (.inr (.inr (fun _ => none))))
def pm_ona (w t : Nat) (rg : Bool) (j nx : Nat) (L st : List Value) (M : pm_M) : pm_P := match st with
  | .int n :: r => if ¬ n < 0 ∧ n.toNatClampNeg ≤ 60000 then pm_J j nx L (.ref (pm_at M rg) :: r) (pm_new M rg (.inl (t, (n.toNatClampNeg, pm_z w))) n.toNatClampNeg) else pm_X
  | _ => pm_X
theorem x_ona (w t : Nat) (rg : Bool) (j nx : Nat) (L r : List Value) (n : Int32) (M : pm_M) : pm_ex k d (pm_ona w t rg j nx L (.int n :: r) M) = if ¬ n < 0 ∧ n.toNatClampNeg ≤ 60000 then k d (j, nx, L, .ref (pm_at M rg) :: r) (pm_new M rg (.inl (t, (n.toNatClampNeg, pm_z w))) n.toNatClampNeg) else none := by unfold pm_ona; (try dsimp only); split <;> rfl
/-- arguments off the stack -/
def pm_ag : Nat → List Value → List Value → Option (List Value × List Value)
  | 0, a, st => some (a, st)
  | n + 1, a, v :: st => if pm_ty v = 1 ∨ pm_ty v = 9 then none else pm_ag n (v :: a) st
  | _ + 1, _, [] => none
/-- a call of j' with n arguments (vi: 0 static; 1, 2 by a receiver of class ci, which is the first argument); hl: the rows of the exception table here: class, pc behind the handler's store, its local -/
def pm_ocl (vi j' n ci : Nat) (pad : List Value) (hl : List (String × Nat × Nat)) (j nx : Nat) (L st : List Value) (M : pm_M) : pm_P := match pm_ag n [] st with
  | some (a, r) => if r.length ≤ 4 ∧ (vi = 0 ∨ pm_obj M ci (a.headD pm_U) = true) ∧ hl.all (fun q => decide (q.2.2 < L.length) && !(pm_ty (L.getD (q.2.2 - 1) pm_U) == 1)) = true then
      .inr (.inl (((j', 0, a ++ pad, []), M), (fun v => (j, nx, L, v.toList ++ r)), fun E => if hl = [] then some none else (hl.lookup E).map (fun q => some (j, q.1, L.set q.2 pm_U, []))))
    else pm_X
  | none => pm_X
theorem x_ocl (vi j' n ci : Nat) (pad : List Value) (j nx : Nat) (L st : List Value) (M : pm_M) : pm_ex k (d + 1) (pm_ocl vi j' n ci pad [] j nx L st M) = match pm_ag n [] st with
  | some (a, r) => if r.length ≤ 4 ∧ (vi = 0 ∨ pm_obj M ci (a.headD pm_U) = true) then (match k d (j', 0, a ++ pad, []) M with
    | none => none
    | some (.inl v, M') => k (d + 1) (j, nx, L, v.toList ++ r) M'
    | some (.inr E, M') => some (.inr E, M')) else none
  | none => none := by
  unfold pm_ocl
  rcases pm_ag n [] st with _ | ⟨a, r⟩
  · rfl
  · simp only [List.all_nil, and_true]
    split
    · simp only [pm_ex, if_true]
      rcases k d (j', 0, a ++ pad, []) M with _ | ⟨v | E, M'⟩ <;> rfl
    · rfl
theorem x_och (vi j' n ci : Nat) (pad : List Value) (h0 : String × Nat × Nat) (hl : List (String × Nat × Nat)) (j nx : Nat) (L st : List Value) (M : pm_M) : pm_ex k (d + 1) (pm_ocl vi j' n ci pad (h0 :: hl) j nx L st M) = match pm_ag n [] st with
  | some (a, r) => if r.length ≤ 4 ∧ (vi = 0 ∨ pm_obj M ci (a.headD pm_U) = true) ∧ (h0 :: hl).all (fun q => decide (q.2.2 < L.length) && !(pm_ty (L.getD (q.2.2 - 1) pm_U) == 1)) = true then (match k d (j', 0, a ++ pad, []) M with
    | none => none
    | some (.inl v, M') => k (d + 1) (j, nx, L, v.toList ++ r) M'
    | some (.inr E, M') => (match (h0 :: hl).lookup E with
      | some q => k (d + 1) (j, q.1, L.set q.2 pm_U, []) M'
      | none => none)) else none
  | none => none := by
  unfold pm_ocl
  rcases pm_ag n [] st with _ | ⟨a, r⟩
  · rfl
  · dsimp only
    split
    · simp only [pm_ex, reduceCtorEq, if_false]
      rcases k d (j', 0, a ++ pad, []) M with _ | ⟨v | E, M'⟩
      · rfl
      · rfl
      · dsimp only
        rcases List.lookup E (h0 :: hl) with _ | q <;> rfl
    · rfl
/-- the end: t as pm_fit has it; 9 nothing -/
def pm_ort (t : Nat) (st : List Value) (M : pm_M) : pm_P := match st with
  | [] => if t = 9 then .inr (.inr (some (.inl none, M))) else pm_X
  | [v] => if pm_fit t v = true then .inr (.inr (some (.inl (some v), M))) else pm_X
  | _ => pm_X
theorem x_ort (t : Nat) (v : Value) (M : pm_M) : pm_ex k d (pm_ort t [v] M) = if pm_fit t v = true then some (.inl (some v), M) else none := by unfold pm_ort; dsimp only; split <;> rfl
theorem x_orv (M : pm_M) : pm_ex k d (pm_ort 9 [] M) = some (.inl none, M) := rfl
def pm_oth (E : String) (st : List Value) (M : pm_M) : pm_P := if st.length ≤ 8 then .inr (.inr (some (.inr E, pm_thr M))) else pm_X
theorem x_oth (E : String) (st : List Value) (M : pm_M) : pm_ex k d (pm_oth E st M) = if st.length ≤ 8 then some (.inr E, pm_thr M) else none := by unfold pm_oth; split <;> rfl
def pm_omx (f : Int32 → Int32 → Int32) (j nx : Nat) (L st : List Value) (M : pm_M) : pm_P := if st.length ≤ 8 then pm_oii f j nx L st M else pm_X
theorem x_omx (f : Int32 → Int32 → Int32) (j nx : Nat) (L r : List Value) (x y : Int32) (M : pm_M) : pm_ex k d (pm_omx f j nx L (.int y :: .int x :: r) M) = if (Value.int y :: Value.int x :: r).length ≤ 8 then k d (j, nx, L, .int (f x y) :: r) M else none := by unfold pm_omx; split <;> rfl
def pm_oab (f : Int32 → Value) (j nx : Nat) (L st : List Value) (M : pm_M) : pm_P := if st.length ≤ 8 then pm_oi1 f j nx L st M else pm_X
theorem x_oab (f : Int32 → Value) (j nx : Nat) (L r : List Value) (x : Int32) (M : pm_M) : pm_ex k d (pm_oab f j nx L (.int x :: r) M) = if (Value.int x :: r).length ≤ 8 then k d (j, nx, L, f x :: r) M else none := by unfold pm_oab; split <;> rfl
/-- a table of targets: below lo or behind them df -/
def pm_ots (df : Nat) (lo : Int) (tg : List Nat) (j : Nat) (L st : List Value) (M : pm_M) : pm_P := match st with
  | .int x :: r => if x.toInt < lo ∨ lo + tg.length ≤ x.toInt then pm_J j df L r M else pm_J j (tg.getD (x.toInt - lo).toNat df) L r M
  | _ => pm_X
theorem x_ots (df : Nat) (lo : Int) (tg : List Nat) (j : Nat) (L r : List Value) (x : Int32) (M : pm_M) : pm_ex k d (pm_ots df lo tg j L (.int x :: r) M) = if x.toInt < lo ∨ lo + tg.length ≤ x.toInt then k d (j, df, L, r) M else k d (j, tg.getD (x.toInt - lo).toNat df, L, r) M := by unfold pm_ots; dsimp only; split <;> rfl
def pm_ooi (j nx : Nat) (L st : List Value) (M : pm_M) : pm_P := match st with
  | .ref _ :: r => if r.length ≤ 4 then pm_J j nx L r M else pm_X
  | _ => pm_X
theorem x_ooi (j nx : Nat) (L r : List Value) (q : Nat) (M : pm_M) : pm_ex k d (pm_ooi j nx L (.ref q :: r) M) = if r.length ≤ 4 then k d (j, nx, L, r) M else none := by unfold pm_ooi; dsimp only; split <;> rfl
end PMX
