/-! Words for the pure part: small numbers as ints, and simp's own. -/
def w (n : Nat) : Int32 := Int32.ofNat n
theorem w_toInt {n : Nat} (h : n < 2147483648) : (w n).toInt = (n : Int) := by
  unfold w
  rw [Int32.toInt_ofNat_of_lt h]
theorem w_lt {a b : Nat} (ha : a < 2147483648) (hb : b < 2147483648) : (w a < w b) = (a < b) := by
  rw [Int32.lt_iff_toInt_lt, w_toInt ha, w_toInt hb, Int.ofNat_lt]
theorem w_le {a b : Nat} (ha : a < 2147483648) (hb : b < 2147483648) : (w a ≤ w b) = (a ≤ b) := by
  rw [Int32.le_iff_toInt_le, w_toInt ha, w_toInt hb, Int.ofNat_le]
theorem w_eq {a b : Nat} (ha : a < 2147483648) (hb : b < 2147483648) : (w a = w b) = (a = b) := by
  rw [← Int32.toInt_inj, w_toInt ha, w_toInt hb, Int.ofNat_inj]
theorem w_add (a b : Nat) : w a + w b = w (a + b) := by
  unfold w
  rw [Int32.ofNat_add]
theorem w_mul (a b : Nat) : w a * w b = w (a * b) := by
  unfold w
  rw [Int32.ofNat_mul]
theorem w_sub {a b : Nat} (h : b ≤ a) : w a - w b = w (a - b) := by
  have h1 : w (a - b) + w b = w a := by rw [w_add, Nat.sub_add_cancel h]
  rw [← h1, Int32.add_sub_cancel]
theorem w_div {a b : Nat} (ha : a < 2147483648) (hb : b < 2147483648) : w a / w b = w (a / b) := by
  unfold w
  rw [Int32.ofNat_div ha hb]
theorem w_clamp {a : Nat} (h : a < 2147483648) : (w a).toNatClampNeg = a := by
  unfold Int32.toNatClampNeg
  rw [w_toInt h]
  rfl
def m1 : Int32 := -1
theorem i_0 : (0 : Int32) = w 0 := Eq.trans rfl rfl
theorem i_1 : (1 : Int32) = w 1 := Eq.trans rfl rfl
theorem i_2 : (2 : Int32) = w 2 := Eq.trans rfl rfl
theorem i_3 : (3 : Int32) = w 3 := Eq.trans rfl rfl
theorem i_4 : (4 : Int32) = w 4 := Eq.trans rfl rfl
theorem i_5 : (5 : Int32) = w 5 := Eq.trans rfl rfl
theorem i_6 : (6 : Int32) = w 6 := Eq.trans rfl rfl
theorem i_7 : (7 : Int32) = w 7 := Eq.trans rfl rfl
theorem i_8 : (8 : Int32) = w 8 := Eq.trans rfl rfl
theorem i_10 : (10 : Int32) = w 10 := Eq.trans rfl rfl
theorem i_15 : (15 : Int32) = w 15 := Eq.trans rfl rfl
theorem i_16 : (16 : Int32) = w 16 := Eq.trans rfl rfl
theorem i_20 : (20 : Int32) = w 20 := Eq.trans rfl rfl
theorem i_40 : (40 : Int32) = w 40 := Eq.trans rfl rfl
theorem i_80 : (80 : Int32) = w 80 := Eq.trans rfl rfl
theorem i_100 : (100 : Int32) = w 100 := Eq.trans rfl rfl
theorem i_200 : (200 : Int32) = w 200 := Eq.trans rfl rfl
theorem i_1000 : (1000 : Int32) = w 1000 := Eq.trans rfl rfl
theorem i_m1 : -w 1 = m1 := Eq.trans rfl rfl
theorem pm_fit3_0 : pm_fit 3 (.int (w 0)) = true := rfl
theorem pm_fit3_1 : pm_fit 3 (.int (w 1)) = true := rfl
theorem ag_0 (a st : List Value) : pm_ag 0 a st = some (a, st) := rfl
theorem ag_s (n : Nat) (a st : List Value) (v : Value) : pm_ag (n + 1) a (v :: st) = if pm_ty v = 1 ∨ pm_ty v = 9 then none else pm_ag n (v :: a) st := rfl
theorem m1_toInt : m1.toInt = -1 := rfl
theorem w_ne_m1 {k : Nat} (h : k < 2147483648) : (w k = m1) = False := by
  rw [← Int32.toInt_inj, w_toInt h, m1_toInt]
  exact eq_false (by omega)
theorem m1_lt {k : Nat} (h : k < 2147483648) : (m1 < w k) = True := by
  rw [Int32.lt_iff_toInt_lt, w_toInt h, m1_toInt]
  exact eq_true (by omega)
theorem m1_le {k : Nat} (h : k < 2147483648) : (m1 ≤ w k) = True := by
  rw [Int32.le_iff_toInt_le, w_toInt h, m1_toInt]
  exact eq_true (by omega)
theorem w_lt_m1 {k : Nat} (h : k < 2147483648) : (w k < m1) = False := by
  rw [Int32.lt_iff_toInt_lt, w_toInt h, m1_toInt]
  exact eq_false (by omega)
theorem w_le_m1 {k : Nat} (h : k < 2147483648) : (w k ≤ m1) = False := by
  rw [Int32.le_iff_toInt_le, w_toInt h, m1_toInt]
  exact eq_false (by omega)
theorem w_dec0 : w 0 - w 1 = m1 := Eq.trans rfl rfl
theorem w_inc_m1 : m1 + w 1 = w 0 := Eq.trans rfl rfl
/-- an int that isn't negative -/
theorem w_of {x : Int32} (h : w 0 ≤ x) : ∃ k, k < 2147483648 ∧ x = w k := by
  refine ⟨x.toInt.toNat, ?_, ?_⟩
  · have := Int32.toInt_lt x
    rw [Int32.le_iff_toInt_le] at h
    omega
  · have h1 := Int32.toInt_lt x
    have h2 : 0 ≤ x.toInt := by
      rw [Int32.le_iff_toInt_le] at h
      exact h
    rw [← Int32.toInt_inj, w_toInt (by omega)]
    omega
theorem rf_null (x : Option Nat) : (va_rf x = .null) = (x = none) := by
  cases x
  · exact propext ⟨fun _ => rfl, fun _ => rfl⟩
  · exact propext ⟨fun h => (nomatch h), fun h => (nomatch h)⟩
theorem rf_none : va_rf none = .null := rfl
theorem rf_some (q : Nat) : va_rf (some q) = .ref q := rfl
def ra (f : Nat → Option Nat) : (Nat → Int32) ⊕ (Nat → Int64) ⊕ (Nat → UInt32) ⊕ (Nat → UInt64) ⊕ (Nat → Option Nat) := .inr (.inr (.inr (.inr f)))
theorem el_i {t i N : Nat} {f : Nat → Int32} (h : i < N) (hN : N < 2147483648) : pm_el t (.inl (t, (N, .inl f))) (w i) = some (.int (f i)) := by
  unfold pm_el
  dsimp only
  rw [if_pos ⟨rfl, fun z => by
    rw [w_clamp (by omega), i_0, w_lt (by omega) (by omega)] at z
    omega⟩, w_clamp (by omega)]
theorem el_r {t i N : Nat} {f : Nat → Option Nat} (h : i < N) (hN : N < 2147483648) : pm_el t (.inl (t, (N, ra f))) (w i) = some (va_rf (f i)) := by
  unfold pm_el ra
  dsimp only
  rw [if_pos ⟨rfl, fun z => by
    rw [w_clamp (by omega), i_0, w_lt (by omega) (by omega)] at z
    omega⟩, w_clamp (by omega)]
theorem el_l {t i N : Nat} {f : Nat → Int64} (h : i < N) (hN : N < 2147483648) : pm_el t (.inl (t, (N, .inr (.inl f)))) (w i) = some (.long (f i)) := by
  unfold pm_el
  dsimp only
  rw [if_pos ⟨rfl, fun z => by
    rw [w_clamp (by omega), i_0, w_lt (by omega) (by omega)] at z
    omega⟩, w_clamp (by omega)]
theorem ev_i {t i N : Nat} {f : Nat → Int32} {x : Int32} (h : i < N) (hN : N < 2147483648) : pm_ev 0 t (.inl (t, (N, .inl f))) (w i) (.int x) = some (.inl (t, (N, .inl (upd f i x)))) := by
  unfold pm_ev
  dsimp only
  rw [if_pos ⟨rfl, fun z => by
    rw [w_clamp (by omega), i_0, w_lt (by omega) (by omega)] at z
    omega, rfl⟩, w_clamp (by omega)]
theorem ev_z {t i N : Nat} {f : Nat → Int32} {x : Int32} (hx : pm_fit 3 (.int x) = true) (h : i < N) (hN : N < 2147483648) : pm_ev 3 t (.inl (t, (N, .inl f))) (w i) (.int x) = some (.inl (t, (N, .inl (upd f i x)))) := by
  unfold pm_ev
  dsimp only
  rw [if_pos ⟨rfl, fun z => by
    rw [w_clamp (by omega), i_0, w_lt (by omega) (by omega)] at z
    omega, hx⟩, w_clamp (by omega)]
theorem ev_l {t i N : Nat} {f : Nat → Int64} {x : Int64} (h : i < N) (hN : N < 2147483648) : pm_ev 1 t (.inl (t, (N, .inr (.inl f)))) (w i) (.long x) = some (.inl (t, (N, .inr (.inl (vp_updL f i x))))) := by
  unfold pm_ev
  dsimp only
  rw [if_pos ⟨rfl, fun z => by
    rw [w_clamp (by omega), i_0, w_lt (by omega) (by omega)] at z
    omega, rfl⟩, w_clamp (by omega)]
theorem ev_n {t i N : Nat} {f : Nat → Option Nat} (h : i < N) (hN : N < 2147483648) : pm_ev 2 t (.inl (t, (N, ra f))) (w i) .null = some (.inl (t, (N, ra (va_up f i none)))) := by
  unfold pm_ev ra
  dsimp only
  rw [if_pos ⟨rfl, fun z => by
    rw [w_clamp (by omega), i_0, w_lt (by omega) (by omega)] at z
    omega, rfl⟩, w_clamp (by omega)]
theorem ev_r {t i N q : Nat} {f : Nat → Option Nat} (h : i < N) (hN : N < 2147483648) : pm_ev 2 t (.inl (t, (N, ra f))) (w i) (.ref q) = some (.inl (t, (N, ra (va_up f i (some q))))) := by
  unfold pm_ev ra
  dsimp only
  rw [if_pos ⟨rfl, fun z => by
    rw [w_clamp (by omega), i_0, w_lt (by omega) (by omega)] at z
    omega, rfl⟩, w_clamp (by omega)]
