/-! The reference's memory: th what was thrown; the rest as the class's; ap who is kept apart; my, mc, bs: what its fill works with. -/
def me (b r t : Nat) : Nat := 20 * b + 5 * r + t
def mcl (o : Option (Nat × Nat × Nat)) : Int32 := match o with
  | none => m1
  | some (b, r, t) => w (me b r t)
def mwh (o : Option Nat) : Nat := match o with
  | none => 0
  | some k => k + 1
theorem mcl_n : mcl none = m1 := rfl
theorem mcl_s (b r t : Nat) : mcl (some (b, r, t)) = w (me b r t) := rfl
theorem mwh_n : mwh none = 0 := rfl
theorem mwh_s (k : Nat) : mwh (some k) = k + 1 := rfl
theorem me_b {b r t : Nat} (hr : r < 4) (ht : t < 5) : me b r t / 20 = b := by unfold me; omega
theorem me_r {b r t : Nat} (hr : r < 4) (ht : t < 5) : me b r t / 5 % 4 = r := by unfold me; omega
theorem me_t {b r t : Nat} (ht : t < 5) : me b r t % 5 = t := by unfold me; omega
theorem me_lt {b r t : Nat} (hb : b < 4) (hr : r < 4) (ht : t < 5) : me b r t < 80 := by unfold me; omega
theorem me_20 {b r t : Nat} : me b r t + 20 = me (b + 1) r t := by unfold me; omega
theorem me_inj {b r t i : Nat} (hr : r < 4) (ht : t < 5) : (i / 20 = b ∧ i / 5 % 4 = r ∧ i % 5 = t) = (i = me b r t) := by
  unfold me
  exact propext ⟨fun h => by omega, fun h => by omega⟩
theorem up3_me {α : Type} (f : Nat → Nat → Nat → α) {b r t : Nat} (hr : r < 4) (ht : t < 5) (v : α) : (fun i => up3 f b r t v (i / 20) (i / 5 % 4) (i % 5)) = va_up (fun i => f (i / 20) (i / 5 % 4) (i % 5)) (me b r t) v := by
  funext i
  unfold up3 va_up
  simp only [me_inj hr ht]
def MR (th B R T n : Nat) (a : at_T) (ps : ps_T) (wh : wh_T) (pg : pg_T) (ld : Nat → Nat) (ap : Nat → Nat → Bool) (my : Nat → Nat) (mc : Nat) (bs : Nat → Nat) (k : Nat) : Option pm_C := match k with
  | 0 => none
  | 1 => some (.inr (3, [.int (w th), .int (w B), .int (w R), .int (w T), .int (w n), .ref (g1 2), .ref (g1 3), .ref (g1 4), .ref (g1 5), .ref (g1 6), .ref (g1 7), .ref (g1 8), .ref (g1 9), .ref (g1 10), .ref (g1 11), .int (w mc), .ref (g1 12)]))
  | 2 => some (.inl (0, (40, .inl (fun i => if i < n then w (a i).1 else w 0))))
  | 3 => some (.inl (0, (40, .inl (fun i => if i < n then w (a i).2.1 else w 0))))
  | 4 => some (.inl (0, (40, .inl (fun i => if i < n then w (a i).2.2.1 else w 0))))
  | 5 => some (.inl (0, (40, .inl (fun i => if i < n then w (a i).2.2.2 else w 0))))
  | 6 => some (.inl (0, (40, .inl (fun i => if i < 40 then mcl (ps i) else w 0))))
  | 7 => some (.inl (0, (80, .inl (fun i => w (mwh (wh (i / 20) (i / 5 % 4) (i % 5)))))))
  | 8 => some (.inl (1, (80, .inl (fun i => bi (pg (i / 20) (i / 5 % 4) (i % 5))))))
  | 9 => some (.inl (0, (4, .inl (fun i => w (ld i)))))
  | 10 => some (.inl (1, (1600, .inl (fun i => bi (ap (i / 40) (i % 40))))))
  | 11 => some (.inl (0, (4, .inl (fun i => w (my i)))))
  | 12 => some (.inl (0, (4, .inl (fun i => w (bs i)))))
  | _ + 13 => none
def MM (th B R T n : Nat) (a : at_T) (ps : ps_T) (wh : wh_T) (pg : pg_T) (ld : Nat → Nat) (ap : Nat → Nat → Bool) (my : Nat → Nat) (mc : Nat) (bs : Nat → Nat) (X : pm_A × (Nat × Nat)) : pm_M := ((X.1, (13, MR th B R T n a ps wh pg ld ap my mc bs)), X.2)
theorem MR_ext {f g : Nat → Option pm_C} (h0 : f 0 = g 0) (h1 : f 1 = g 1) (h2 : f 2 = g 2) (h3 : f 3 = g 3) (h4 : f 4 = g 4) (h5 : f 5 = g 5) (h6 : f 6 = g 6) (h7 : f 7 = g 7) (h8 : f 8 = g 8) (h9 : f 9 = g 9) (h10 : f 10 = g 10) (h11 : f 11 = g 11) (h12 : f 12 = g 12) (hb : ∀ j, f (j + 13) = g (j + 13)) : f = g := CR_ext h0 h1 h2 h3 h4 h5 h6 h7 h8 h9 h10 h11 h12 hb
section MGET
variable {th B R T n : Nat} {a : at_T} {ps : ps_T} {wh : wh_T} {pg : pg_T} {ld : Nat → Nat} {ap : Nat → Nat → Bool} {my : Nat → Nat} {mc : Nat} {bs : Nat → Nat} {X : pm_A × (Nat × Nat)}
theorem gm_1 : pm_get (MM th B R T n a ps wh pg ld ap my mc bs X) (g1 1) = some (.inr (3, [.int (w th), .int (w B), .int (w R), .int (w T), .int (w n), .ref (g1 2), .ref (g1 3), .ref (g1 4), .ref (g1 5), .ref (g1 6), .ref (g1 7), .ref (g1 8), .ref (g1 9), .ref (g1 10), .ref (g1 11), .int (w mc), .ref (g1 12)])) := pm_get_g1 _ _ _ _
theorem gm_2 : pm_get (MM th B R T n a ps wh pg ld ap my mc bs X) (g1 2) = some (.inl (0, (40, .inl (fun i => if i < n then w (a i).1 else w 0)))) := pm_get_g1 _ _ _ _
theorem gm_3 : pm_get (MM th B R T n a ps wh pg ld ap my mc bs X) (g1 3) = some (.inl (0, (40, .inl (fun i => if i < n then w (a i).2.1 else w 0)))) := pm_get_g1 _ _ _ _
theorem gm_4 : pm_get (MM th B R T n a ps wh pg ld ap my mc bs X) (g1 4) = some (.inl (0, (40, .inl (fun i => if i < n then w (a i).2.2.1 else w 0)))) := pm_get_g1 _ _ _ _
theorem gm_5 : pm_get (MM th B R T n a ps wh pg ld ap my mc bs X) (g1 5) = some (.inl (0, (40, .inl (fun i => if i < n then w (a i).2.2.2 else w 0)))) := pm_get_g1 _ _ _ _
theorem gm_6 : pm_get (MM th B R T n a ps wh pg ld ap my mc bs X) (g1 6) = some (.inl (0, (40, .inl (fun i => if i < 40 then mcl (ps i) else w 0)))) := pm_get_g1 _ _ _ _
theorem gm_7 : pm_get (MM th B R T n a ps wh pg ld ap my mc bs X) (g1 7) = some (.inl (0, (80, .inl (fun i => w (mwh (wh (i / 20) (i / 5 % 4) (i % 5))))))) := pm_get_g1 _ _ _ _
theorem gm_8 : pm_get (MM th B R T n a ps wh pg ld ap my mc bs X) (g1 8) = some (.inl (1, (80, .inl (fun i => bi (pg (i / 20) (i / 5 % 4) (i % 5)))))) := pm_get_g1 _ _ _ _
theorem gm_9 : pm_get (MM th B R T n a ps wh pg ld ap my mc bs X) (g1 9) = some (.inl (0, (4, .inl (fun i => w (ld i))))) := pm_get_g1 _ _ _ _
theorem gm_10 : pm_get (MM th B R T n a ps wh pg ld ap my mc bs X) (g1 10) = some (.inl (1, (1600, .inl (fun i => bi (ap (i / 40) (i % 40)))))) := pm_get_g1 _ _ _ _
theorem gm_11 : pm_get (MM th B R T n a ps wh pg ld ap my mc bs X) (g1 11) = some (.inl (0, (4, .inl (fun i => w (my i))))) := pm_get_g1 _ _ _ _
theorem gm_12 : pm_get (MM th B R T n a ps wh pg ld ap my mc bs X) (g1 12) = some (.inl (0, (4, .inl (fun i => w (bs i))))) := pm_get_g1 _ _ _ _
theorem om_1 : pm_obj (MM th B R T n a ps wh pg ld ap my mc bs X) 3 (.ref (g1 1)) = true := by
  unfold pm_obj
  dsimp only
  rw [gm_1]
  rfl
theorem sm_th {th' : Nat} : pm_set (MM th B R T n a ps wh pg ld ap my mc bs X) (g1 1) (.inr (3, [.int (w th'), .int (w B), .int (w R), .int (w T), .int (w n), .ref (g1 2), .ref (g1 3), .ref (g1 4), .ref (g1 5), .ref (g1 6), .ref (g1 7), .ref (g1 8), .ref (g1 9), .ref (g1 10), .ref (g1 11), .int (w mc), .ref (g1 12)])) = (MM th' B R T n a ps wh pg ld ap my mc bs X) := by
  unfold MM
  rw [pm_set_g1]
  refine congrArg (fun f => ((X.1, (13, f)), X.2)) (MR_ext rfl ?_ rfl rfl rfl rfl rfl rfl rfl rfl rfl rfl rfl (fun j => ?_))
  · rfl
  · show (if j + 13 = 1 then _ else _) = _
    rw [if_neg (by omega)]
    rfl
theorem sm_mc {mc' : Nat} : pm_set (MM th B R T n a ps wh pg ld ap my mc bs X) (g1 1) (.inr (3, [.int (w th), .int (w B), .int (w R), .int (w T), .int (w n), .ref (g1 2), .ref (g1 3), .ref (g1 4), .ref (g1 5), .ref (g1 6), .ref (g1 7), .ref (g1 8), .ref (g1 9), .ref (g1 10), .ref (g1 11), .int (w mc'), .ref (g1 12)])) = (MM th B R T n a ps wh pg ld ap my mc' bs X) := by
  unfold MM
  rw [pm_set_g1]
  refine congrArg (fun f => ((X.1, (13, f)), X.2)) (MR_ext rfl ?_ rfl rfl rfl rfl rfl rfl rfl rfl rfl rfl rfl (fun j => ?_))
  · rfl
  · show (if j + 13 = 1 then _ else _) = _
    rw [if_neg (by omega)]
    rfl
theorem sm_6s {k b r t : Nat} (hk : k < 40) : pm_set (MM th B R T n a ps wh pg ld ap my mc bs X) (g1 6) (.inl (0, (40, .inl (upd (fun i => if i < 40 then mcl (ps i) else w 0) (k) (w (me b r t)))))) = (MM th B R T n a (va_up ps k (some (b, r, t))) wh pg ld ap my mc bs X) := by
  unfold MM
  rw [pm_set_g1]
  refine congrArg (fun f => ((X.1, (13, f)), X.2)) (MR_ext rfl rfl rfl rfl rfl rfl ?_ rfl rfl rfl rfl rfl rfl (fun j => ?_))
  · refine (va_up_self _ _ _).trans (congrArg (fun f => (some (.inl (0, (40, .inl f))) : Option pm_C)) ?_)
    funext i
    show _ = if i < 40 then mcl (va_up ps k (some (b, r, t)) i) else w 0
    unfold upd va_up
    by_cases h : i = k
    · rw [if_pos h, if_pos (by omega), if_pos h]
      rfl
    · rw [if_neg h, if_neg h]
  · show (if j + 13 = 6 then _ else _) = _
    rw [if_neg (by omega)]
    rfl
theorem sm_6n {k : Nat} (hk : k < 40) : pm_set (MM th B R T n a ps wh pg ld ap my mc bs X) (g1 6) (.inl (0, (40, .inl (upd (fun i => if i < 40 then mcl (ps i) else w 0) (k) (m1))))) = (MM th B R T n a (va_up ps k none) wh pg ld ap my mc bs X) := by
  unfold MM
  rw [pm_set_g1]
  refine congrArg (fun f => ((X.1, (13, f)), X.2)) (MR_ext rfl rfl rfl rfl rfl rfl ?_ rfl rfl rfl rfl rfl rfl (fun j => ?_))
  · refine (va_up_self _ _ _).trans (congrArg (fun f => (some (.inl (0, (40, .inl f))) : Option pm_C)) ?_)
    funext i
    show _ = if i < 40 then mcl (va_up ps k none i) else w 0
    unfold upd va_up
    by_cases h : i = k
    · rw [if_pos h, if_pos (by omega), if_pos h]
      rfl
    · rw [if_neg h, if_neg h]
  · show (if j + 13 = 6 then _ else _) = _
    rw [if_neg (by omega)]
    rfl
theorem sm_7 {b r t : Nat} {v : Option Nat} (hr : r < 4) (ht : t < 5) : pm_set (MM th B R T n a ps wh pg ld ap my mc bs X) (g1 7) (.inl (0, (80, .inl (upd (fun i => w (mwh (wh (i / 20) (i / 5 % 4) (i % 5)))) (me b r t) (w (mwh v)))))) = (MM th B R T n a ps (up3 wh b r t v) pg ld ap my mc bs X) := by
  unfold MM
  rw [pm_set_g1]
  refine congrArg (fun f => ((X.1, (13, f)), X.2)) (MR_ext rfl rfl rfl rfl rfl rfl rfl ?_ rfl rfl rfl rfl rfl (fun j => ?_))
  · refine (va_up_self _ _ _).trans (congrArg (fun f => (some (.inl (0, (80, .inl f))) : Option pm_C)) ?_)
    show _ = fun i => w (mwh (up3 wh b r t v (i / 20) (i / 5 % 4) (i % 5)))
    have h := up3_me wh (b := b) hr ht v
    funext i
    rw [congrFun h i]
    unfold va_up upd
    split <;> rfl
  · show (if j + 13 = 7 then _ else _) = _
    rw [if_neg (by omega)]
    rfl
theorem sm_8 {b r t : Nat} {v : Bool} (hr : r < 4) (ht : t < 5) : pm_set (MM th B R T n a ps wh pg ld ap my mc bs X) (g1 8) (.inl (1, (80, .inl (upd (fun i => bi (pg (i / 20) (i / 5 % 4) (i % 5))) (me b r t) (bi v))))) = (MM th B R T n a ps wh (up3 pg b r t v) ld ap my mc bs X) := by
  unfold MM
  rw [pm_set_g1]
  refine congrArg (fun f => ((X.1, (13, f)), X.2)) (MR_ext rfl rfl rfl rfl rfl rfl rfl rfl ?_ rfl rfl rfl rfl (fun j => ?_))
  · refine (va_up_self _ _ _).trans (congrArg (fun f => (some (.inl (1, (80, .inl f))) : Option pm_C)) ?_)
    show _ = fun i => bi (up3 pg b r t v (i / 20) (i / 5 % 4) (i % 5))
    have h := up3_me pg (b := b) hr ht v
    funext i
    rw [congrFun h i]
    unfold va_up upd
    split <;> rfl
  · show (if j + 13 = 8 then _ else _) = _
    rw [if_neg (by omega)]
    rfl
theorem sm_9 {b v : Nat} : pm_set (MM th B R T n a ps wh pg ld ap my mc bs X) (g1 9) (.inl (0, (4, .inl (upd (fun i => w (ld i)) (b) (w v))))) = (MM th B R T n a ps wh pg (va_up ld b v) ap my mc bs X) := by
  unfold MM
  rw [pm_set_g1]
  refine congrArg (fun f => ((X.1, (13, f)), X.2)) (MR_ext rfl rfl rfl rfl rfl rfl rfl rfl rfl ?_ rfl rfl rfl (fun j => ?_))
  · refine (va_up_self _ _ _).trans (congrArg (fun f => (some (.inl (0, (4, .inl f))) : Option pm_C)) ?_)
    funext i
    show _ = w (va_up ld b v i)
    unfold va_up upd
    split <;> rfl
  · show (if j + 13 = 9 then _ else _) = _
    rw [if_neg (by omega)]
    rfl
theorem sm_10 {k j : Nat} {v : Bool} (hj : j < 40) : pm_set (MM th B R T n a ps wh pg ld ap my mc bs X) (g1 10) (.inl (1, (1600, .inl (upd (fun i => bi (ap (i / 40) (i % 40))) (40 * k + j) (bi v))))) = (MM th B R T n a ps wh pg ld (fun x y => if x = k ∧ y = j then v else ap x y) my mc bs X) := by
  unfold MM
  rw [pm_set_g1]
  refine congrArg (fun f => ((X.1, (13, f)), X.2)) (MR_ext rfl rfl rfl rfl rfl rfl rfl rfl rfl rfl ?_ rfl rfl (fun j => ?_))
  · refine (va_up_self _ _ _).trans (congrArg (fun f => (some (.inl (1, (1600, .inl f))) : Option pm_C)) ?_)
    funext i
    show _ = bi (if i / 40 = k ∧ i % 40 = j then v else ap (i / 40) (i % 40))
    unfold upd
    by_cases h : i = 40 * k + j
    · rw [if_pos h, if_pos (by omega)]
    · rw [if_neg h, if_neg (by omega)]
  · show (if j + 13 = 10 then _ else _) = _
    rw [if_neg (by omega)]
    rfl
theorem sm_11 {k v : Nat} : pm_set (MM th B R T n a ps wh pg ld ap my mc bs X) (g1 11) (.inl (0, (4, .inl (upd (fun i => w (my i)) (k) (w v))))) = (MM th B R T n a ps wh pg ld ap (va_up my k v) mc bs X) := by
  unfold MM
  rw [pm_set_g1]
  refine congrArg (fun f => ((X.1, (13, f)), X.2)) (MR_ext rfl rfl rfl rfl rfl rfl rfl rfl rfl rfl rfl ?_ rfl (fun j => ?_))
  · refine (va_up_self _ _ _).trans (congrArg (fun f => (some (.inl (0, (4, .inl f))) : Option pm_C)) ?_)
    funext i
    show _ = w (va_up my k v i)
    unfold va_up upd
    split <;> rfl
  · show (if j + 13 = 11 then _ else _) = _
    rw [if_neg (by omega)]
    rfl
theorem sm_12 {k v : Nat} : pm_set (MM th B R T n a ps wh pg ld ap my mc bs X) (g1 12) (.inl (0, (4, .inl (upd (fun i => w (bs i)) (k) (w v))))) = (MM th B R T n a ps wh pg ld ap my mc (va_up bs k v) X) := by
  unfold MM
  rw [pm_set_g1]
  refine congrArg (fun f => ((X.1, (13, f)), X.2)) (MR_ext rfl rfl rfl rfl rfl rfl rfl rfl rfl rfl rfl rfl ?_ (fun j => ?_))
  · refine (va_up_self _ _ _).trans (congrArg (fun f => (some (.inl (0, (4, .inl f))) : Option pm_C)) ?_)
    funext i
    show _ = w (va_up bs k v i)
    unfold va_up upd
    split <;> rfl
  · show (if j + 13 = 12 then _ else _) = _
    rw [if_neg (by omega)]
    rfl
theorem sm_7n {b r t : Nat} (hr : r < 4) (ht : t < 5) : pm_set (MM th B R T n a ps wh pg ld ap my mc bs X) (g1 7) (.inl (0, (80, .inl (upd (fun i => w (mwh (wh (i / 20) (i / 5 % 4) (i % 5)))) (me b r t) (w 0))))) = (MM th B R T n a ps (up3 wh b r t none) pg ld ap my mc bs X) := sm_7 (v := none) hr ht
theorem sm_7s {b r t k : Nat} (hr : r < 4) (ht : t < 5) : pm_set (MM th B R T n a ps wh pg ld ap my mc bs X) (g1 7) (.inl (0, (80, .inl (upd (fun i => w (mwh (wh (i / 20) (i / 5 % 4) (i % 5)))) (me b r t) (w (k + 1)))))) = (MM th B R T n a ps (up3 wh b r t (some k)) pg ld ap my mc bs X) := sm_7 (v := some k) hr ht
theorem sm_8f {b r t : Nat} (hr : r < 4) (ht : t < 5) : pm_set (MM th B R T n a ps wh pg ld ap my mc bs X) (g1 8) (.inl (1, (80, .inl (upd (fun i => bi (pg (i / 20) (i / 5 % 4) (i % 5))) (me b r t) (w 0))))) = (MM th B R T n a ps wh (up3 pg b r t false) ld ap my mc bs X) := sm_8 (v := false) hr ht
theorem sm_8t {b r t : Nat} (hr : r < 4) (ht : t < 5) : pm_set (MM th B R T n a ps wh pg ld ap my mc bs X) (g1 8) (.inl (1, (80, .inl (upd (fun i => bi (pg (i / 20) (i / 5 % 4) (i % 5))) (me b r t) (w 1))))) = (MM th B R T n a ps wh (up3 pg b r t true) ld ap my mc bs X) := sm_8 (v := true) hr ht
theorem sm_10f {k j : Nat} (hj : j < 40) : pm_set (MM th B R T n a ps wh pg ld ap my mc bs X) (g1 10) (.inl (1, (1600, .inl (upd (fun i => bi (ap (i / 40) (i % 40))) (40 * k + j) (w 0))))) = (MM th B R T n a ps wh pg ld (fun x y => if x = k ∧ y = j then false else ap x y) my mc bs X) := sm_10 (v := false) hj
theorem sm_10t {k j : Nat} (hj : j < 40) : pm_set (MM th B R T n a ps wh pg ld ap my mc bs X) (g1 10) (.inl (1, (1600, .inl (upd (fun i => bi (ap (i / 40) (i % 40))) (40 * k + j) (w 1))))) = (MM th B R T n a ps wh pg ld (fun x y => if x = k ∧ y = j then true else ap x y) my mc bs X) := sm_10 (v := true) hj
end MGET
theorem g1_ne1 (k : Nat) : ¬ g1 (k + 1) = 1 := pm_g1_ne1 k
