/-! Writes to the class's memory. -/
theorem CR_ext {f g : Nat → Option pm_C} (h0 : f 0 = g 0) (h1 : f 1 = g 1) (h2 : f 2 = g 2) (h3 : f 3 = g 3) (h4 : f 4 = g 4) (h5 : f 5 = g 5) (h6 : f 6 = g 6) (h7 : f 7 = g 7) (h8 : f 8 = g 8) (h9 : f 9 = g 9) (h10 : f 10 = g 10) (h11 : f 11 = g 11) (h12 : f 12 = g 12) (hb : ∀ j, f (j + 13) = g (j + 13)) : f = g := by
  funext i
  match i with
  | 0 => exact h0
  | 1 => exact h1
  | 2 => exact h2
  | 3 => exact h3
  | 4 => exact h4
  | 5 => exact h5
  | 6 => exact h6
  | 7 => exact h7
  | 8 => exact h8
  | 9 => exact h9
  | 10 => exact h10
  | 11 => exact h11
  | 12 => exact h12
  | j + 13 => exact hb j
theorem gs_self (M : pm_M) (q : Nat) (c : pm_C) : pm_get (pm_set M q c) q = some c := by rw [pm_get_set, if_pos rfl]
theorem ss_self (M : pm_M) (q : Nat) (c c' : pm_C) : pm_set (pm_set M q c) q c' = pm_set M q c' := by
  unfold pm_set
  by_cases h : q % 2 = 0
  · simp only [h, if_true]
    refine congrArg (fun f => (((M.1.1.1, f), M.1.2), M.2)) (funext fun i => ?_)
    unfold va_up
    split <;> rfl
  · simp only [h, if_false]
    refine congrArg (fun f => ((M.1.1, (M.1.2.1, f)), M.2)) (funext fun i => ?_)
    unfold va_up
    split <;> rfl
theorem w_lt_t {a b : Nat} (h : a < b) (ha : a < 2147483648) (hb : b < 2147483648) : (w a < w b) = True := by rw [w_lt ha hb]; exact eq_true h
theorem w_lt_f {a b : Nat} (h : b ≤ a) (ha : a < 2147483648) (hb : b < 2147483648) : (w a < w b) = False := by rw [w_lt ha hb]; exact eq_false (by omega)
theorem w_le_t {a b : Nat} (h : a ≤ b) (ha : a < 2147483648) (hb : b < 2147483648) : (w a ≤ w b) = True := by rw [w_le ha hb]; exact eq_true h
theorem w_le_f {a b : Nat} (h : b < a) (ha : a < 2147483648) (hb : b < 2147483648) : (w a ≤ w b) = False := by rw [w_le ha hb]; exact eq_false (by omega)
theorem w_eq_t {a b : Nat} (h : a = b) (ha : a < 2147483648) (hb : b < 2147483648) : (w a = w b) = True := by rw [w_eq ha hb]; exact eq_true h
theorem w_eq_f {a b : Nat} (h : ¬ a = b) (ha : a < 2147483648) (hb : b < 2147483648) : (w a = w b) = False := by rw [w_eq ha hb]; exact eq_false (by omega)
def up3 {α : Type} (f : Nat → Nat → Nat → α) (b r t : Nat) (v : α) : Nat → Nat → Nat → α := fun b' r' t' => if b' = b ∧ r' = r ∧ t' = t then v else f b' r' t'
theorem ci_inj {R T b r t i : Nat} (hr : r < R) (ht : t < T) : (i / T / R = b ∧ i / T % R = r ∧ i % T = t) = (i = ci R T b r t) := by
  refine propext ⟨fun h => ?_, fun h => by rw [h]; exact ⟨ci_b hr ht, ci_r hr ht, ci_t ht⟩⟩
  have h1 := Nat.div_add_mod i T
  have h2 := Nat.div_add_mod (i / T) R
  rw [h.1, h.2.1] at h2
  rw [h.2.2, ← h2] at h1
  unfold ci
  rw [← h1, Nat.mul_comm T, Nat.mul_comm R]
theorem up3_ci {α : Type} (f : Nat → Nat → Nat → α) {R T b r t : Nat} (hr : r < R) (ht : t < T) (v : α) : (fun i => up3 f b r t v (i / T / R) (i / T % R) (i % T)) = va_up (fun i => f (i / T / R) (i / T % R) (i % T)) (ci R T b r t) v := by
  funext i
  unfold up3 va_up
  simp only [ci_inj hr ht]
section CSET
variable {B R T n : Nat} {a : at_T} {ps : ps_T} {wh : wh_T} {pg : pg_T} {ld : Nat → Nat} {kp : Nat → Int64} {cc : Nat} {cd : Nat → Option Nat} {tr be : wy_T} {ou : Int64} {X : pm_A × (Nat × Nat)}
theorem st_0 {cc' : Nat} : pm_set (CM B R T n a ps wh pg ld kp cc cd tr be ou X) (g0 0) (.inr (0, [.int (w B), .int (w R), .int (w T), .ref (g0 1), .int (w n), .ref (g0 2), .ref (g0 3), .ref (g0 4), .ref (g0 5), .int (w cc'), .ref (g0 6), .ref (g0 9)])) = (CM B R T n a ps wh pg ld kp cc' cd tr be ou X) := by
  unfold CM
  rw [pm_set_g0]
  refine congrArg (fun f => (((n + 13, f), X.1), X.2)) (CR_ext ?_ rfl rfl rfl rfl rfl rfl rfl rfl rfl rfl rfl rfl (fun j => ?_))
  · rfl
  · show (if j + 13 = 0 then _ else _) = _
    rw [if_neg (by omega)]
    rfl
theorem st_2 {b r t : Nat} {v : Option Nat} (hr : r < R) (ht : t < T) : pm_set (CM B R T n a ps wh pg ld kp cc cd tr be ou X) (g0 2) (.inl (3, (B * R * T, ra (va_up (fun i => (wh (i / T / R) (i / T % R) (i % T)).map bn) (ci R T b r t) (v.map bn))))) = (CM B R T n a ps (up3 wh b r t v) pg ld kp cc cd tr be ou X) := by
  unfold CM
  rw [pm_set_g0]
  refine congrArg (fun f => (((n + 13, f), X.1), X.2)) (CR_ext rfl rfl ?_ rfl rfl rfl rfl rfl rfl rfl rfl rfl rfl (fun j => ?_))
  · refine (va_up_self _ _ _).trans (congrArg (fun f => (some (.inl (3, (B * R * T, ra f))) : Option pm_C)) ?_)
    show _ = fun i => (up3 wh b r t v (i / T / R) (i / T % R) (i % T)).map bn
    have h := up3_ci wh (b := b) hr ht v
    funext i
    rw [congrFun h i]
    unfold va_up
    split <;> rfl
  · show (if j + 13 = 2 then _ else _) = _
    rw [if_neg (by omega)]
    rfl
theorem st_3 {b r t : Nat} {v : Bool} (hr : r < R) (ht : t < T) : pm_set (CM B R T n a ps wh pg ld kp cc cd tr be ou X) (g0 3) (.inl (1, (B * R * T, .inl (upd (fun i => bi (pg (i / T / R) (i / T % R) (i % T))) (ci R T b r t) (bi v))))) = (CM B R T n a ps wh (up3 pg b r t v) ld kp cc cd tr be ou X) := by
  unfold CM
  rw [pm_set_g0]
  refine congrArg (fun f => (((n + 13, f), X.1), X.2)) (CR_ext rfl rfl rfl ?_ rfl rfl rfl rfl rfl rfl rfl rfl rfl (fun j => ?_))
  · refine (va_up_self _ _ _).trans (congrArg (fun f => (some (.inl (1, (B * R * T, .inl f))) : Option pm_C)) ?_)
    show _ = fun i => bi (up3 pg b r t v (i / T / R) (i / T % R) (i % T))
    have h := up3_ci pg (b := b) hr ht v
    funext i
    rw [congrFun h i]
    unfold va_up upd
    split <;> rfl
  · show (if j + 13 = 3 then _ else _) = _
    rw [if_neg (by omega)]
    rfl
theorem st_4 {b v : Nat} : pm_set (CM B R T n a ps wh pg ld kp cc cd tr be ou X) (g0 4) (.inl (0, (4, .inl (upd (fun i => w (ld i)) b (w v))))) = (CM B R T n a ps wh pg (va_up ld b v) kp cc cd tr be ou X) := by
  unfold CM
  rw [pm_set_g0]
  refine congrArg (fun f => (((n + 13, f), X.1), X.2)) (CR_ext rfl rfl rfl rfl ?_ rfl rfl rfl rfl rfl rfl rfl rfl (fun j => ?_))
  · refine (va_up_self _ _ _).trans (congrArg (fun f => (some (.inl (0, (4, .inl f))) : Option pm_C)) ?_)
    funext i
    show _ = w (va_up ld b v i)
    unfold va_up upd
    split <;> rfl
  · show (if j + 13 = 4 then _ else _) = _
    rw [if_neg (by omega)]
    rfl
theorem st_5 {k : Nat} {v : Option Nat} : pm_set (CM B R T n a ps wh pg ld kp cc cd tr be ou X) (g0 5) (.inl (3, (4, ra (va_up (fun i => (cd i).map bn) k (v.map bn))))) = (CM B R T n a ps wh pg ld kp cc (va_up cd k v) tr be ou X) := by
  unfold CM
  rw [pm_set_g0]
  refine congrArg (fun f => (((n + 13, f), X.1), X.2)) (CR_ext rfl rfl rfl rfl rfl ?_ rfl rfl rfl rfl rfl rfl rfl (fun j => ?_))
  · refine (va_up_self _ _ _).trans (congrArg (fun f => (some (.inl (3, (4, ra f))) : Option pm_C)) ?_)
    funext i
    show _ = (va_up cd k v i).map bn
    unfold va_up
    split <;> rfl
  · show (if j + 13 = 5 then _ else _) = _
    rw [if_neg (by omega)]
    rfl
theorem st_6 {l o : Nat} : pm_set (CM B R T n a ps wh pg ld kp cc cd tr be ou X) (g0 6) (.inr (2, [.ref (g0 7), .ref (g0 8), .int (w l), .int (w o)])) = (CM B R T n a ps wh pg ld kp cc cd (l, o, tr.2.2) be ou X) := by
  unfold CM
  rw [pm_set_g0]
  refine congrArg (fun f => (((n + 13, f), X.1), X.2)) (CR_ext rfl rfl rfl rfl rfl rfl ?_ rfl rfl rfl rfl rfl rfl (fun j => ?_))
  · rfl
  · show (if j + 13 = 6 then _ else _) = _
    rw [if_neg (by omega)]
    rfl
theorem st_7 {k : Nat} {v : Option Nat} : pm_set (CM B R T n a ps wh pg ld kp cc cd tr be ou X) (g0 7) (.inl (3, (4, ra (va_up (fun i => (tr.2.2.1 i).map bn) k (v.map bn))))) = (CM B R T n a ps wh pg ld kp cc cd (tr.1, tr.2.1, va_up tr.2.2.1 k v, tr.2.2.2) be ou X) := by
  unfold CM
  rw [pm_set_g0]
  refine congrArg (fun f => (((n + 13, f), X.1), X.2)) (CR_ext rfl rfl rfl rfl rfl rfl rfl ?_ rfl rfl rfl rfl rfl (fun j => ?_))
  · refine (va_up_self _ _ _).trans (congrArg (fun f => (some (.inl (3, (4, ra f))) : Option pm_C)) ?_)
    funext i
    show _ = (va_up tr.2.2.1 k v i).map bn
    unfold va_up
    split <;> rfl
  · show (if j + 13 = 7 then _ else _) = _
    rw [if_neg (by omega)]
    rfl
theorem st_8 {k v : Nat} : pm_set (CM B R T n a ps wh pg ld kp cc cd tr be ou X) (g0 8) (.inl (0, (4, .inl (upd (fun i => w (tr.2.2.2 i)) k (w v))))) = (CM B R T n a ps wh pg ld kp cc cd (tr.1, tr.2.1, tr.2.2.1, va_up tr.2.2.2 k v) be ou X) := by
  unfold CM
  rw [pm_set_g0]
  refine congrArg (fun f => (((n + 13, f), X.1), X.2)) (CR_ext rfl rfl rfl rfl rfl rfl rfl rfl ?_ rfl rfl rfl rfl (fun j => ?_))
  · refine (va_up_self _ _ _).trans (congrArg (fun f => (some (.inl (0, (4, .inl f))) : Option pm_C)) ?_)
    funext i
    show _ = w (va_up tr.2.2.2 k v i)
    unfold va_up upd
    split <;> rfl
  · show (if j + 13 = 8 then _ else _) = _
    rw [if_neg (by omega)]
    rfl
theorem st_9 {l o : Nat} : pm_set (CM B R T n a ps wh pg ld kp cc cd tr be ou X) (g0 9) (.inr (2, [.ref (g0 10), .ref (g0 11), .int (w l), .int (w o)])) = (CM B R T n a ps wh pg ld kp cc cd tr (l, o, be.2.2) ou X) := by
  unfold CM
  rw [pm_set_g0]
  refine congrArg (fun f => (((n + 13, f), X.1), X.2)) (CR_ext rfl rfl rfl rfl rfl rfl rfl rfl rfl ?_ rfl rfl rfl (fun j => ?_))
  · rfl
  · show (if j + 13 = 9 then _ else _) = _
    rw [if_neg (by omega)]
    rfl
theorem st_10 {k : Nat} {v : Option Nat} : pm_set (CM B R T n a ps wh pg ld kp cc cd tr be ou X) (g0 10) (.inl (3, (4, ra (va_up (fun i => (be.2.2.1 i).map bn) k (v.map bn))))) = (CM B R T n a ps wh pg ld kp cc cd tr (be.1, be.2.1, va_up be.2.2.1 k v, be.2.2.2) ou X) := by
  unfold CM
  rw [pm_set_g0]
  refine congrArg (fun f => (((n + 13, f), X.1), X.2)) (CR_ext rfl rfl rfl rfl rfl rfl rfl rfl rfl rfl ?_ rfl rfl (fun j => ?_))
  · refine (va_up_self _ _ _).trans (congrArg (fun f => (some (.inl (3, (4, ra f))) : Option pm_C)) ?_)
    funext i
    show _ = (va_up be.2.2.1 k v i).map bn
    unfold va_up
    split <;> rfl
  · show (if j + 13 = 10 then _ else _) = _
    rw [if_neg (by omega)]
    rfl
theorem st_11 {k v : Nat} : pm_set (CM B R T n a ps wh pg ld kp cc cd tr be ou X) (g0 11) (.inl (0, (4, .inl (upd (fun i => w (be.2.2.2 i)) k (w v))))) = (CM B R T n a ps wh pg ld kp cc cd tr (be.1, be.2.1, be.2.2.1, va_up be.2.2.2 k v) ou X) := by
  unfold CM
  rw [pm_set_g0]
  refine congrArg (fun f => (((n + 13, f), X.1), X.2)) (CR_ext rfl rfl rfl rfl rfl rfl rfl rfl rfl rfl rfl ?_ rfl (fun j => ?_))
  · refine (va_up_self _ _ _).trans (congrArg (fun f => (some (.inl (0, (4, .inl f))) : Option pm_C)) ?_)
    funext i
    show _ = w (va_up be.2.2.2 k v i)
    unfold va_up upd
    split <;> rfl
  · show (if j + 13 = 11 then _ else _) = _
    rw [if_neg (by omega)]
    rfl
theorem st_12 {v : Int64} : pm_set (CM B R T n a ps wh pg ld kp cc cd tr be ou X) (g0 12) (.inl (2, (1, .inr (.inl (vp_updL (fun i => if i = 0 then ou else 0) 0 v))))) = (CM B R T n a ps wh pg ld kp cc cd tr be v X) := by
  unfold CM
  rw [pm_set_g0]
  refine congrArg (fun f => (((n + 13, f), X.1), X.2)) (CR_ext rfl rfl rfl rfl rfl rfl rfl rfl rfl rfl rfl rfl ?_ (fun j => ?_))
  · refine (va_up_self _ _ _).trans (congrArg (fun f => (some (.inl (2, (1, .inr (.inl f)))) : Option pm_C)) ?_)
    funext i
    unfold vp_updL
    split
    · rfl
    · rename_i h9
      exact if_neg h9
  · show (if j + 13 = 12 then _ else _) = _
    rw [if_neg (by omega)]
    rfl
theorem st_b {k : Nat} {o : Option (Nat × Nat × Nat)} {q : Int64} (hk : k < n) : pm_set (CM B R T n a ps wh pg ld kp cc cd tr be ou X) (bn k) (.inr (1, [.int (w k), .int (w (a k).1), .int (w (a k).2.1), .int (w (a k).2.2.1), .int (w (a k).2.2.2), .int (pb o), .int (pr o), .int (pt o), .long q])) = (CM B R T n a (va_up ps k o) wh pg ld (va_up kp k q) cc cd tr be ou X) := by
  unfold CM bn
  rw [pm_set_g0]
  refine congrArg (fun f => (((n + 13, f), X.1), X.2)) (CR_ext ((va_up_ne _ _ (by omega)).trans rfl) ((va_up_ne _ _ (by omega)).trans rfl) ((va_up_ne _ _ (by omega)).trans rfl) ((va_up_ne _ _ (by omega)).trans rfl) ((va_up_ne _ _ (by omega)).trans rfl) ((va_up_ne _ _ (by omega)).trans rfl) ((va_up_ne _ _ (by omega)).trans rfl) ((va_up_ne _ _ (by omega)).trans rfl) ((va_up_ne _ _ (by omega)).trans rfl) ((va_up_ne _ _ (by omega)).trans rfl) ((va_up_ne _ _ (by omega)).trans rfl) ((va_up_ne _ _ (by omega)).trans rfl) ((va_up_ne _ _ (by omega)).trans rfl) (fun j => ?_))
  show (if j + 13 = k + 13 then _ else _) = (if j < n then (some (.inr (1, bxl a j (pb (va_up ps k o j)) (pr (va_up ps k o j)) (pt (va_up ps k o j)) (va_up kp k q j))) : Option pm_C) else none)
  by_cases h : j = k
  · subst h
    rw [if_pos rfl, if_pos hk, va_up_self, va_up_self]
    rfl
  · rw [if_neg (by omega), va_up_ne _ _ h, va_up_ne _ _ h]
    rfl
theorem st_2n {b r t : Nat} (hr : r < R) (ht : t < T) : pm_set (CM B R T n a ps wh pg ld kp cc cd tr be ou X) (g0 2) (.inl (3, (B * R * T, ra (va_up (fun i => (wh (i / T / R) (i / T % R) (i % T)).map bn) (ci R T b r t) none)))) = (CM B R T n a ps (up3 wh b r t none) pg ld kp cc cd tr be ou X) := st_2 (v := none) hr ht
theorem st_2s {b r t : Nat} {i : Nat} (hr : r < R) (ht : t < T) : pm_set (CM B R T n a ps wh pg ld kp cc cd tr be ou X) (g0 2) (.inl (3, (B * R * T, ra (va_up (fun i => (wh (i / T / R) (i / T % R) (i % T)).map bn) (ci R T b r t) (some (bn i)))))) = (CM B R T n a ps (up3 wh b r t (some i)) pg ld kp cc cd tr be ou X) := st_2 (v := some i) hr ht
theorem st_5n {k : Nat}  : pm_set (CM B R T n a ps wh pg ld kp cc cd tr be ou X) (g0 5) (.inl (3, (4, ra (va_up (fun i => (cd i).map bn) k none)))) = (CM B R T n a ps wh pg ld kp cc (va_up cd k none) tr be ou X) := st_5 (v := none) 
theorem st_5s {k : Nat} {i : Nat}  : pm_set (CM B R T n a ps wh pg ld kp cc cd tr be ou X) (g0 5) (.inl (3, (4, ra (va_up (fun i => (cd i).map bn) k (some (bn i)))))) = (CM B R T n a ps wh pg ld kp cc (va_up cd k (some i)) tr be ou X) := st_5 (v := some i) 
theorem st_7n {k : Nat}  : pm_set (CM B R T n a ps wh pg ld kp cc cd tr be ou X) (g0 7) (.inl (3, (4, ra (va_up (fun i => (tr.2.2.1 i).map bn) k none)))) = (CM B R T n a ps wh pg ld kp cc cd (tr.1, tr.2.1, va_up tr.2.2.1 k none, tr.2.2.2) be ou X) := st_7 (v := none) 
theorem st_7s {k : Nat} {i : Nat}  : pm_set (CM B R T n a ps wh pg ld kp cc cd tr be ou X) (g0 7) (.inl (3, (4, ra (va_up (fun i => (tr.2.2.1 i).map bn) k (some (bn i)))))) = (CM B R T n a ps wh pg ld kp cc cd (tr.1, tr.2.1, va_up tr.2.2.1 k (some i), tr.2.2.2) be ou X) := st_7 (v := some i) 
theorem st_10n {k : Nat}  : pm_set (CM B R T n a ps wh pg ld kp cc cd tr be ou X) (g0 10) (.inl (3, (4, ra (va_up (fun i => (be.2.2.1 i).map bn) k none)))) = (CM B R T n a ps wh pg ld kp cc cd tr (be.1, be.2.1, va_up be.2.2.1 k none, be.2.2.2) ou X) := st_10 (v := none) 
theorem st_10s {k : Nat} {i : Nat}  : pm_set (CM B R T n a ps wh pg ld kp cc cd tr be ou X) (g0 10) (.inl (3, (4, ra (va_up (fun i => (be.2.2.1 i).map bn) k (some (bn i)))))) = (CM B R T n a ps wh pg ld kp cc cd tr (be.1, be.2.1, va_up be.2.2.1 k (some i), be.2.2.2) ou X) := st_10 (v := some i) 
end CSET
theorem sq_n (M : pm_M) (c : Nat) : pm_sq M c .null = true := rfl
theorem sq_r (M : pm_M) (c q : Nat) : pm_sq M c (.ref q) = pm_obj M c (.ref q) := rfl
