section M04
variable {p : Program} {l : Launch} {e : Env} {s : State} {m : MethodId} {args : Array Value} {below : List Frame} {meth : Method} {c : Code} {Q : State → Prop} {G : GT} {b : Nat}
/-! RoomRings$House.orders()I -/
abbrev RM_X3_orders : Room := { frames := 0, cells := 0, slots := 0, locals := 0 }
def f_X3_orders_b4 (K4 : Nat → Int32 → Int32 → HP → Option (Int32 × HP)) (a0 : Nat) (x1 : Int32) (x2 : Int32) (h : HP) : Option (Int32 × HP) :=
  (gI h a0 3 1).bind fun v1 =>
  if v1 < x2 then
    some (x1, h)
  else
    K4 a0 (x1 * x2) (x2 + 1) h
set_option maxRecDepth 100000 in
set_option maxHeartbeats 4000000 in
theorem w_X3_orders_b4 (X : CX RX3 cX3_orders 3 (some .int) p s m args meth c G b) {out : Int32 × HP} (Z : ZI p l e RM_X3_orders s m args below meth c cX3_orders G b False 0 0 Q out) {K4 : Nat → Int32 → Int32 → HP → Option (Int32 × HP)} (hK4 : ∀ (a0 : Nat) (x1 : Int32) (x2 : Int32) (h : HP), K4 a0 x1 x2 h = some out → ∀ (H : Heap) (locs : List Loc) (ls : Array Slot), ST G b False s h H locs → lv_has ls 3 [(0, .ref (b + a0)), (1, .int x1), (2, .int x2)] → W p l e RM_X3_orders s m args below meth c H locs 0 0 Q (F0 m 4 ls [])) : ∀ (a0 : Nat) (x1 : Int32) (x2 : Int32) (h : HP), f_X3_orders_b4 K4 a0 x1 x2 h = some out → ∀ (H : Heap) (locs : List Loc) (ls : Array Slot), ST G b False s h H locs → lv_has ls 3 [(0, .ref (b + a0)), (1, .int x1), (2, .int x2)] → W p l e RM_X3_orders s m args below meth c H locs 0 0 Q (F0 m 4 ls []) := by
  intro a0 x1 x2 h hf H locs ls S hl
  unfold f_X3_orders_b4 at hf
  have hx := X.1
  have hb := X.2.1
  refine lv_iload_n hx hb dX3_orders_4 rfl (lv_at hl 2 rfl) ?_
  refine lv_aload_n hx hb dX3_orders_5 rfl (lv_at hl 0 rfl) ?_
  obtain ⟨v1, e_v1, hf⟩ := ob hf
  refine r_getI X S fl_X3_28 e_v1 dX3_orders_6 ?_
  refine lv_icmp_gt (tgt := 22) hx hb dX3_orders_9 (by decide) (fun hc => ?_) (fun hc => ?_)
  · replace hf := ip hf hc
    refine lv_iload_n hx hb dX3_orders_22 rfl (lv_at hl 1 rfl) ?_
    obtain rfl := Option.some.inj hf
    exact Z _ _ _ _ dX3_orders_23 S
  · replace hf := im hf hc
    refine lv_iload_n hx hb dX3_orders_12 rfl (lv_at hl 1 rfl) ?_
    refine lv_iload_n hx hb dX3_orders_13 rfl (lv_at hl 2 rfl) ?_
    refine lv_imul hx hb dX3_orders_14 ?_
    refine lv_istore_n (lv' := [(1, .int (x1 * x2)), (0, .ref (b + a0)), (2, .int x2)]) hx hb dX3_orders_15 rfl hl (by decide) rfl (fun ls hl => ?_)
    refine lv_iinc (v := x2 + 1) (lv' := [(2, .int (x2 + 1)), (1, .int (x1 * x2)), (0, .ref (b + a0))]) hx hb dX3_orders_16 hl (k := 2) rfl rfl (by decide) rfl (fun ls hl => ?_)
    refine lv_goto (tgt := 4) hx hb dX3_orders_19 (by decide) ?_
    exact hK4 _ _ _ _ hf _ _ _ S (lv_sub hl [2, 1, 0] rfl)
def F_X3_orders_4  : Nat → Nat → Int32 → Int32 → HP → Option (Int32 × HP)
  | 0 => fun _ _ _ _ => none
  | n + 1 => fun a0 x1 x2 h => f_X3_orders_b4 (F_X3_orders_4  n) a0 x1 x2 h
theorem wl_X3_orders_4 (X : CX RX3 cX3_orders 3 (some .int) p s m args meth c G b) {out : Int32 × HP} (Z : ZI p l e RM_X3_orders s m args below meth c cX3_orders G b False 0 0 Q out)  : ∀ (n : Nat) (a0 : Nat) (x1 : Int32) (x2 : Int32) (h : HP), F_X3_orders_4  n a0 x1 x2 h = some out → ∀ (H : Heap) (locs : List Loc) (ls : Array Slot), ST G b False s h H locs → lv_has ls 3 [(0, .ref (b + a0)), (1, .int x1), (2, .int x2)] → W p l e RM_X3_orders s m args below meth c H locs 0 0 Q (F0 m 4 ls []) := by
  intro n
  induction n with
  | zero => intro a0 x1 x2 h hf; exact nn hf
  | succ n ih => exact w_X3_orders_b4 X Z ih
def f_X3_orders_e  (a0 : Nat) (h : HP) : Option (Int32 × HP) :=
  F_X3_orders_4  FU a0 1 2 h
set_option maxRecDepth 100000 in
set_option maxHeartbeats 4000000 in
theorem w_X3_orders_e (X : CX RX3 cX3_orders 3 (some .int) p s m args meth c G b) {out : Int32 × HP} (Z : ZI p l e RM_X3_orders s m args below meth c cX3_orders G b False 0 0 Q out)  : ∀ (a0 : Nat) (h : HP), f_X3_orders_e  a0 h = some out → ∀ (H : Heap) (locs : List Loc) (ls : Array Slot), ST G b False s h H locs → lv_has ls 3 [(0, .ref (b + a0))] → W p l e RM_X3_orders s m args below meth c H locs 0 0 Q (F0 m 0 ls []) := by
  intro a0 h hf H locs ls S hl
  unfold f_X3_orders_e at hf
  have hx := X.1
  have hb := X.2.1
  refine lv_iconst (v := 1) hx hb dX3_orders_0 (by decide) ?_
  refine lv_istore_n (lv' := [(1, .int 1), (0, .ref (b + a0))]) hx hb dX3_orders_1 rfl hl (by decide) rfl (fun ls hl => ?_)
  refine lv_iconst (v := 2) hx hb dX3_orders_2 (by decide) ?_
  refine lv_istore_n (lv' := [(2, .int 2), (1, .int 1), (0, .ref (b + a0))]) hx hb dX3_orders_3 rfl hl (by decide) rfl (fun ls hl => ?_)
  exact wl_X3_orders_4 X Z  FU _ _ _ _ hf _ _ _ S (lv_sub hl [2, 1, 0] rfl)
def f_X3_orders (a0 : Nat) (h : HP) : Option (Int32 × HP) := ck h a0 3 (f_X3_orders_e a0 h)
theorem o_X3_orders {a0 : Nat} {h : HP} {out : Int32 × HP} (hf : f_X3_orders a0 h = some out) : ∃ fs, h[a0]? = some (.inl (3, fs)) := (ck_spec hf).1
set_option maxRecDepth 100000 in
theorem c_X3_orders {l : Launch} {G : GT} {b : Nat} {a0 : Nat} {h : HP} {out : Int32 × HP} (hf : f_X3_orders a0 h = some out) : MT l G b False False yX3_orders cX3_orders 3 (some .int) RM_X3_orders [.ref (b + a0)] h (some (.int out.1)) out.2 0 0 := by
  refine met_of (by decide) (Nat.le_of_ble_eq_true rfl) ?_
  intro p e s m below meth c ls X hnm S hl
  have hl : lv_has ls 3 [(0, .ref (b + a0))] := hl
  replace hf := (ck_spec hf).2
  exact w_X3_orders_e X (z_i X) _ _ hf _ _ _ S hl
/-! RoomRings$House.member(II)I -/
abbrev RM_X3_member : Room := { frames := 1, cells := 0, slots := 0, locals := 21 }
def f_X3_member_b33 (K5 : Nat → Int32 → Int32 → Int32 → HP → Option (Int32 × HP)) (a0 : Nat) (x1 : Int32) (x3 : Int32) (x4 : Int32) (h : HP) : Option (Int32 × HP) :=
  K5 a0 x1 x3 (x4 + 1) h
set_option maxRecDepth 100000 in
set_option maxHeartbeats 4000000 in
theorem w_X3_member_b33 (X : CX RX3 cX3_member 5 (some .int) p s m args meth c G b) {out : Int32 × HP} (Z : ZI p l e RM_X3_member s m args below meth c cX3_member G b False 0 0 Q out) {K5 : Nat → Int32 → Int32 → Int32 → HP → Option (Int32 × HP)} (hK5 : ∀ (a0 : Nat) (x1 : Int32) (x3 : Int32) (x4 : Int32) (h : HP), K5 a0 x1 x3 x4 h = some out → ∀ (H : Heap) (locs : List Loc) (ls : Array Slot), ST G b False s h H locs → lv_has ls 5 [(0, .ref (b + a0)), (1, .int x1), (3, .int x3), (4, .int x4)] → W p l e RM_X3_member s m args below meth c H locs 0 0 Q (F0 m 5 ls [])) : ∀ (a0 : Nat) (x1 : Int32) (x3 : Int32) (x4 : Int32) (h : HP), f_X3_member_b33 K5 a0 x1 x3 x4 h = some out → ∀ (H : Heap) (locs : List Loc) (ls : Array Slot), ST G b False s h H locs → lv_has ls 5 [(0, .ref (b + a0)), (1, .int x1), (3, .int x3), (4, .int x4)] → W p l e RM_X3_member s m args below meth c H locs 0 0 Q (F0 m 33 ls []) := by
  intro a0 x1 x3 x4 h hf H locs ls S hl
  unfold f_X3_member_b33 at hf
  have hx := X.1
  have hb := X.2.1
  refine lv_iinc (v := x4 + 1) (lv' := [(4, .int (x4 + 1)), (0, .ref (b + a0)), (1, .int x1), (3, .int x3)]) hx hb dX3_member_33 hl (k := 3) rfl rfl (by decide) rfl (fun ls hl => ?_)
  refine lv_goto (tgt := 5) hx hb dX3_member_36 (by decide) ?_
  exact hK5 _ _ _ _ _ hf _ _ _ S (lv_sub hl [1, 2, 3, 0] rfl)
def f_X3_member_b5 (K5 : Nat → Int32 → Int32 → Int32 → HP → Option (Int32 × HP)) (a0 : Nat) (x1 : Int32) (x3 : Int32) (x4 : Int32) (h : HP) : Option (Int32 × HP) :=
  (gI h a0 3 1).bind fun v1 =>
  if v1 ≤ x4 then
    some ((-1), h)
  else
    (f_X8_holds x1 x4 h).bind fun q2 =>
    if q2.1 = 0 then
      f_X3_member_b33 K5 a0 x1 x3 x4 q2.2
    else
      if x3 = 0 then
        some (x4, q2.2)
      else
        f_X3_member_b33 K5 a0 x1 (x3 + (-1)) x4 q2.2
set_option maxRecDepth 100000 in
set_option maxHeartbeats 4000000 in
theorem w_X3_member_b5 (X : CX RX3 cX3_member 5 (some .int) p s m args meth c G b) {out : Int32 × HP} (Z : ZI p l e RM_X3_member s m args below meth c cX3_member G b False 0 0 Q out) {K5 : Nat → Int32 → Int32 → Int32 → HP → Option (Int32 × HP)} (hK5 : ∀ (a0 : Nat) (x1 : Int32) (x3 : Int32) (x4 : Int32) (h : HP), K5 a0 x1 x3 x4 h = some out → ∀ (H : Heap) (locs : List Loc) (ls : Array Slot), ST G b False s h H locs → lv_has ls 5 [(0, .ref (b + a0)), (1, .int x1), (3, .int x3), (4, .int x4)] → W p l e RM_X3_member s m args below meth c H locs 0 0 Q (F0 m 5 ls [])) : ∀ (a0 : Nat) (x1 : Int32) (x3 : Int32) (x4 : Int32) (h : HP), f_X3_member_b5 K5 a0 x1 x3 x4 h = some out → ∀ (H : Heap) (locs : List Loc) (ls : Array Slot), ST G b False s h H locs → lv_has ls 5 [(0, .ref (b + a0)), (1, .int x1), (3, .int x3), (4, .int x4)] → W p l e RM_X3_member s m args below meth c H locs 0 0 Q (F0 m 5 ls []) := by
  intro a0 x1 x3 x4 h hf H locs ls S hl
  unfold f_X3_member_b5 at hf
  have hx := X.1
  have hb := X.2.1
  refine lv_iload hx hb dX3_member_5 (lv_at hl 3 rfl) ?_
  refine lv_aload_n hx hb dX3_member_7 rfl (lv_at hl 0 rfl) ?_
  obtain ⟨v1, e_v1, hf⟩ := ob hf
  refine r_getI X S fl_X3_28 e_v1 dX3_member_8 ?_
  refine lv_icmp_ge (tgt := 39) hx hb dX3_member_11 (by decide) (fun hc => ?_) (fun hc => ?_)
  · replace hf := ip hf hc
    refine lv_iconst (v := (-1)) hx hb dX3_member_39 (by decide) ?_
    obtain rfl := Option.some.inj hf
    exact Z _ _ _ _ dX3_member_40 S
  · replace hf := im hf hc
    refine lv_iload_n hx hb dX3_member_14 rfl (lv_at hl 1 rfl) ?_
    refine lv_iload hx hb dX3_member_15 (lv_at hl 3 rfl) ?_
    obtain ⟨q2, e_q2, hf⟩ := ob hf
    refine r_callSN X S hl.1 (As := [.int x1, .int x4]) (rest := []) (c_X8_holds e_q2) my_X8_holds ms_X8_holds nl_X3_55 ⟨rfl, rfl, Nat.le_of_ble_eq_true rfl, Nat.le_of_ble_eq_true rfl⟩ rfl rfl (Nat.le_of_ble_eq_true rfl) dX3_member_17 ⟨Nat.le_of_ble_eq_true rfl, Nat.le_of_ble_eq_true rfl⟩ (fun H locs S => ?_)
    refine W.eq (g2 := F0 m 20 ls [.int q2.1]) rfl ?_
    refine lv_if_eq (tgt := 33) hx hb dX3_member_20 (by decide) (fun hc => ?_) (fun hc => ?_)
    · replace hf := ip hf hc
      exact w_X3_member_b33 X Z hK5 _ _ _ _ _ hf _ _ _ S (lv_sub hl [0, 1, 2, 3] rfl)
    · replace hf := im hf hc
      refine lv_iload_n hx hb dX3_member_23 rfl (lv_at hl 2 rfl) ?_
      refine lv_if_ne (tgt := 30) hx hb dX3_member_24 (by decide) (fun hc => ?_) (fun hc => ?_)
      · replace hf := im hf hc
        refine lv_iinc (v := x3 + (-1)) (lv' := [(3, .int (x3 + (-1))), (0, .ref (b + a0)), (1, .int x1), (4, .int x4)]) hx hb dX3_member_30 hl (k := 2) rfl rfl (by decide) rfl (fun ls hl => ?_)
        exact w_X3_member_b33 X Z hK5 _ _ _ _ _ hf _ _ _ S (lv_sub hl [1, 2, 0, 3] rfl)
      · replace hf := ip hf hc
        refine lv_iload hx hb dX3_member_27 (lv_at hl 3 rfl) ?_
        obtain rfl := Option.some.inj hf
        exact Z _ _ _ _ dX3_member_29 S
def F_X3_member_5  : Nat → Nat → Int32 → Int32 → Int32 → HP → Option (Int32 × HP)
  | 0 => fun _ _ _ _ _ => none
  | n + 1 => fun a0 x1 x3 x4 h => f_X3_member_b5 (F_X3_member_5  n) a0 x1 x3 x4 h
theorem wl_X3_member_5 (X : CX RX3 cX3_member 5 (some .int) p s m args meth c G b) {out : Int32 × HP} (Z : ZI p l e RM_X3_member s m args below meth c cX3_member G b False 0 0 Q out)  : ∀ (n : Nat) (a0 : Nat) (x1 : Int32) (x3 : Int32) (x4 : Int32) (h : HP), F_X3_member_5  n a0 x1 x3 x4 h = some out → ∀ (H : Heap) (locs : List Loc) (ls : Array Slot), ST G b False s h H locs → lv_has ls 5 [(0, .ref (b + a0)), (1, .int x1), (3, .int x3), (4, .int x4)] → W p l e RM_X3_member s m args below meth c H locs 0 0 Q (F0 m 5 ls []) := by
  intro n
  induction n with
  | zero => intro a0 x1 x3 x4 h hf; exact nn hf
  | succ n ih => exact w_X3_member_b5 X Z ih
def f_X3_member_e  (a0 : Nat) (x1 : Int32) (x2 : Int32) (h : HP) : Option (Int32 × HP) :=
  F_X3_member_5  FU a0 x1 x2 0 h
set_option maxRecDepth 100000 in
set_option maxHeartbeats 4000000 in
theorem w_X3_member_e (X : CX RX3 cX3_member 5 (some .int) p s m args meth c G b) {out : Int32 × HP} (Z : ZI p l e RM_X3_member s m args below meth c cX3_member G b False 0 0 Q out)  : ∀ (a0 : Nat) (x1 : Int32) (x2 : Int32) (h : HP), f_X3_member_e  a0 x1 x2 h = some out → ∀ (H : Heap) (locs : List Loc) (ls : Array Slot), ST G b False s h H locs → lv_has ls 5 [(0, .ref (b + a0)), (1, .int x1), (2, .int x2)] → W p l e RM_X3_member s m args below meth c H locs 0 0 Q (F0 m 0 ls []) := by
  intro a0 x1 x2 h hf H locs ls S hl
  unfold f_X3_member_e at hf
  have hx := X.1
  have hb := X.2.1
  refine lv_iload_n hx hb dX3_member_0 rfl (lv_at hl 2 rfl) ?_
  refine lv_istore_n (lv' := [(3, .int x2), (0, .ref (b + a0)), (1, .int x1), (2, .int x2)]) hx hb dX3_member_1 rfl hl (by decide) rfl (fun ls hl => ?_)
  refine lv_iconst (v := 0) hx hb dX3_member_2 (by decide) ?_
  refine lv_istore (lv' := [(4, .int 0), (3, .int x2), (0, .ref (b + a0)), (1, .int x1), (2, .int x2)]) hx hb dX3_member_3 hl (by decide) rfl (fun ls hl => ?_)
  exact wl_X3_member_5 X Z  FU _ _ _ _ _ hf _ _ _ S (lv_sub hl [2, 3, 1, 0] rfl)
def f_X3_member (a0 : Nat) (x1 : Int32) (x2 : Int32) (h : HP) : Option (Int32 × HP) := ck h a0 3 (f_X3_member_e a0 x1 x2 h)
theorem o_X3_member {a0 : Nat} {x1 : Int32} {x2 : Int32} {h : HP} {out : Int32 × HP} (hf : f_X3_member a0 x1 x2 h = some out) : ∃ fs, h[a0]? = some (.inl (3, fs)) := (ck_spec hf).1
set_option maxRecDepth 100000 in
theorem c_X3_member {l : Launch} {G : GT} {b : Nat} {a0 : Nat} {x1 : Int32} {x2 : Int32} {h : HP} {out : Int32 × HP} (hf : f_X3_member a0 x1 x2 h = some out) : MT l G b False False yX3_member cX3_member 5 (some .int) RM_X3_member [.ref (b + a0), .int x1, .int x2] h (some (.int out.1)) out.2 0 0 := by
  refine met_of (by decide) (Nat.le_of_ble_eq_true rfl) ?_
  intro p e s m below meth c ls X hnm S hl
  have hl : lv_has ls 5 [(0, .ref (b + a0)), (1, .int x1), (2, .int x2)] := hl
  replace hf := (ck_spec hf).2
  exact w_X3_member_e X (z_i X) _ _ _ _ hf _ _ _ S hl
/-! RoomRings$House.orderBy(I)V -/
abbrev RM_X3_orderBy : Room := { frames := 2, cells := 0, slots := 0, locals := 45 }
def f_X3_orderBy_b13 (K13 : Nat → Int32 → Int32 → Int32 → HP → Option (HP)) (a0 : Nat) (x2 : Int32) (x3 : Int32) (x4 : Int32) (h : HP) : Option (HP) :=
  (gI h a0 3 1).bind fun v1 =>
  if v1 ≤ x4 then
    some h
  else
    (gI h a0 3 1).bind fun v2 =>
    if (v2 - x4) = 0 then none else
    (f_X3_member a0 x3 (x2 - x2 / (v2 - x4) * (v2 - x4)) h).bind fun q3 =>
    if (v2 - x4) = 0 then none else
    (gR q3.2 a0 3 5).bind fun r4 =>
    (f_X8_put r4 x4 q3.1 q3.2).bind fun h5 =>
    (f_X8_without x3 q3.1 h5).bind fun q6 =>
    K13 a0 (x2 / (v2 - x4)) q6.1 (x4 + 1) q6.2
set_option maxRecDepth 100000 in
set_option maxHeartbeats 4000000 in
theorem w_X3_orderBy_b13 (X : CX RX3 cX3_orderBy 7 none p s m args meth c G b) {out : HP} (Z : ZV p l e RM_X3_orderBy s m args below meth c cX3_orderBy G b False 0 0 Q out) {K13 : Nat → Int32 → Int32 → Int32 → HP → Option (HP)} (hK13 : ∀ (a0 : Nat) (x2 : Int32) (x3 : Int32) (x4 : Int32) (h : HP), K13 a0 x2 x3 x4 h = some out → ∀ (H : Heap) (locs : List Loc) (ls : Array Slot), ST G b False s h H locs → lv_has ls 7 [(0, .ref (b + a0)), (2, .int x2), (3, .int x3), (4, .int x4)] → W p l e RM_X3_orderBy s m args below meth c H locs 0 0 Q (F0 m 13 ls [])) : ∀ (a0 : Nat) (x2 : Int32) (x3 : Int32) (x4 : Int32) (h : HP), f_X3_orderBy_b13 K13 a0 x2 x3 x4 h = some out → ∀ (H : Heap) (locs : List Loc) (ls : Array Slot), ST G b False s h H locs → lv_has ls 7 [(0, .ref (b + a0)), (2, .int x2), (3, .int x3), (4, .int x4)] → W p l e RM_X3_orderBy s m args below meth c H locs 0 0 Q (F0 m 13 ls []) := by
  intro a0 x2 x3 x4 h hf H locs ls S hl
  unfold f_X3_orderBy_b13 at hf
  have hx := X.1
  have hb := X.2.1
  refine lv_iload hx hb dX3_orderBy_13 (lv_at hl 3 rfl) ?_
  refine lv_aload_n hx hb dX3_orderBy_15 rfl (lv_at hl 0 rfl) ?_
  obtain ⟨v1, e_v1, hf⟩ := ob hf
  refine r_getI X S fl_X3_28 e_v1 dX3_orderBy_16 ?_
  refine lv_icmp_ge (tgt := 71) hx hb dX3_orderBy_19 (by decide) (fun hc => ?_) (fun hc => ?_)
  · replace hf := ip hf hc
    obtain rfl := Option.some.inj hf
    exact Z _ _ _ _ dX3_orderBy_71 S
  · replace hf := im hf hc
    refine lv_aload_n hx hb dX3_orderBy_22 rfl (lv_at hl 0 rfl) ?_
    obtain ⟨v2, e_v2, hf⟩ := ob hf
    refine r_getI X S fl_X3_28 e_v2 dX3_orderBy_23 ?_
    refine lv_iload hx hb dX3_orderBy_26 (lv_at hl 3 rfl) ?_
    refine lv_isub hx hb dX3_orderBy_28 ?_
    refine lv_istore (lv' := [(5, .int (v2 - x4)), (0, .ref (b + a0)), (2, .int x2), (3, .int x3), (4, .int x4)]) hx hb dX3_orderBy_29 hl (by decide) rfl (fun ls hl => ?_)
    refine lv_aload_n hx hb dX3_orderBy_31 rfl (lv_at hl 1 rfl) ?_
    refine lv_iload_n hx hb dX3_orderBy_32 rfl (lv_at hl 3 rfl) ?_
    refine lv_iload_n hx hb dX3_orderBy_33 rfl (lv_at hl 2 rfl) ?_
    refine lv_iload hx hb dX3_orderBy_34 (lv_at hl 0 rfl) ?_
    obtain ⟨hne, hf⟩ := ign hf
    refine lv_irem hx hb dX3_orderBy_36 hne ?_
    obtain ⟨q3, e_q3, hf⟩ := ob hf
    refine r_callV X S hl.1 (As := [.int x3, .int (x2 - x2 / (v2 - x4) * (v2 - x4))]) (rest := []) (c_X3_member e_q3) my_X3_member mv_X3_member ml_X3_82 rfl (o_X3_member e_q3) ⟨rfl, rfl, Nat.le_of_ble_eq_true rfl, Nat.le_of_ble_eq_true rfl⟩ rfl rfl (Nat.le_of_ble_eq_true rfl) dX3_orderBy_37 ⟨Nat.le_of_ble_eq_true rfl, Nat.le_of_ble_eq_true rfl⟩ (fun H locs S => ?_)
    refine W.eq (g2 := F0 m 40 ls [.int q3.1]) rfl ?_
    refine lv_istore (lv' := [(6, .int q3.1), (5, .int (v2 - x4)), (0, .ref (b + a0)), (2, .int x2), (3, .int x3), (4, .int x4)]) hx hb dX3_orderBy_40 hl (by decide) rfl (fun ls hl => ?_)
    refine lv_iload_n hx hb dX3_orderBy_42 rfl (lv_at hl 3 rfl) ?_
    refine lv_iload hx hb dX3_orderBy_43 (lv_at hl 1 rfl) ?_
    obtain ⟨hne, hf⟩ := ign hf
    refine lv_idiv hx hb dX3_orderBy_45 hne ?_
    refine lv_istore_n (lv' := [(2, .int (x2 / (v2 - x4))), (6, .int q3.1), (5, .int (v2 - x4)), (0, .ref (b + a0)), (3, .int x3), (4, .int x4)]) hx hb dX3_orderBy_46 rfl hl (by decide) rfl (fun ls hl => ?_)
    refine lv_aload_n hx hb dX3_orderBy_47 rfl (lv_at hl 3 rfl) ?_
    obtain ⟨r4, e_r4, hf⟩ := ob hf
    refine r_getR X S fl_X3_21 e_r4 dX3_orderBy_48 ?_
    refine lv_iload hx hb dX3_orderBy_51 (lv_at hl 5 rfl) ?_
    refine lv_iload hx hb dX3_orderBy_53 (lv_at hl 1 rfl) ?_
    obtain ⟨h5, e_h5, hf⟩ := ob hf
    refine r_callSN X S hl.1 (As := [.ref (b + r4), .int x4, .int q3.1]) (rest := []) (c_X8_put e_h5) my_X8_put ms_X8_put nl_X3_37 ⟨rfl, rfl, Nat.le_of_ble_eq_true rfl, Nat.le_of_ble_eq_true rfl⟩ rfl rfl (Nat.le_of_ble_eq_true rfl) dX3_orderBy_55 ⟨Nat.le_of_ble_eq_true rfl, Nat.le_of_ble_eq_true rfl⟩ (fun H locs S => ?_)
    refine W.eq (g2 := F0 m 58 ls []) rfl ?_
    refine lv_iload_n hx hb dX3_orderBy_58 rfl (lv_at hl 4 rfl) ?_
    refine lv_iload hx hb dX3_orderBy_59 (lv_at hl 1 rfl) ?_
    obtain ⟨q6, e_q6, hf⟩ := ob hf
    refine r_callSN X S hl.1 (As := [.int x3, .int q3.1]) (rest := []) (c_X8_without e_q6) my_X8_without ms_X8_without nl_X3_85 ⟨rfl, rfl, Nat.le_of_ble_eq_true rfl, Nat.le_of_ble_eq_true rfl⟩ rfl rfl (Nat.le_of_ble_eq_true rfl) dX3_orderBy_61 ⟨Nat.le_of_ble_eq_true rfl, Nat.le_of_ble_eq_true rfl⟩ (fun H locs S => ?_)
    refine W.eq (g2 := F0 m 64 ls [.int q6.1]) rfl ?_
    refine lv_istore_n (lv' := [(3, .int q6.1), (2, .int (x2 / (v2 - x4))), (6, .int q3.1), (5, .int (v2 - x4)), (0, .ref (b + a0)), (4, .int x4)]) hx hb dX3_orderBy_64 rfl hl (by decide) rfl (fun ls hl => ?_)
    refine lv_iinc (v := x4 + 1) (lv' := [(4, .int (x4 + 1)), (3, .int q6.1), (2, .int (x2 / (v2 - x4))), (6, .int q3.1), (5, .int (v2 - x4)), (0, .ref (b + a0))]) hx hb dX3_orderBy_65 hl (k := 5) rfl rfl (by decide) rfl (fun ls hl => ?_)
    refine lv_goto (tgt := 13) hx hb dX3_orderBy_68 (by decide) ?_
    exact hK13 _ _ _ _ _ hf _ _ _ S (lv_sub hl [5, 2, 1, 0] rfl)
def F_X3_orderBy_13  : Nat → Nat → Int32 → Int32 → Int32 → HP → Option (HP)
  | 0 => fun _ _ _ _ _ => none
  | n + 1 => fun a0 x2 x3 x4 h => f_X3_orderBy_b13 (F_X3_orderBy_13  n) a0 x2 x3 x4 h
theorem wl_X3_orderBy_13 (X : CX RX3 cX3_orderBy 7 none p s m args meth c G b) {out : HP} (Z : ZV p l e RM_X3_orderBy s m args below meth c cX3_orderBy G b False 0 0 Q out)  : ∀ (n : Nat) (a0 : Nat) (x2 : Int32) (x3 : Int32) (x4 : Int32) (h : HP), F_X3_orderBy_13  n a0 x2 x3 x4 h = some out → ∀ (H : Heap) (locs : List Loc) (ls : Array Slot), ST G b False s h H locs → lv_has ls 7 [(0, .ref (b + a0)), (2, .int x2), (3, .int x3), (4, .int x4)] → W p l e RM_X3_orderBy s m args below meth c H locs 0 0 Q (F0 m 13 ls []) := by
  intro n
  induction n with
  | zero => intro a0 x2 x3 x4 h hf; exact nn hf
  | succ n ih => exact w_X3_orderBy_b13 X Z ih
def f_X3_orderBy_e  (a0 : Nat) (x1 : Int32) (h : HP) : Option (HP) :=
  (gI h a0 3 1).bind fun v1 =>
  (f_X8_firstOnes v1 h).bind fun q2 =>
  F_X3_orderBy_13  FU a0 x1 q2.1 0 q2.2
set_option maxRecDepth 100000 in
set_option maxHeartbeats 4000000 in
theorem w_X3_orderBy_e (X : CX RX3 cX3_orderBy 7 none p s m args meth c G b) {out : HP} (Z : ZV p l e RM_X3_orderBy s m args below meth c cX3_orderBy G b False 0 0 Q out)  : ∀ (a0 : Nat) (x1 : Int32) (h : HP), f_X3_orderBy_e  a0 x1 h = some out → ∀ (H : Heap) (locs : List Loc) (ls : Array Slot), ST G b False s h H locs → lv_has ls 7 [(0, .ref (b + a0)), (1, .int x1)] → W p l e RM_X3_orderBy s m args below meth c H locs 0 0 Q (F0 m 0 ls []) := by
  intro a0 x1 h hf H locs ls S hl
  unfold f_X3_orderBy_e at hf
  have hx := X.1
  have hb := X.2.1
  refine lv_iload_n hx hb dX3_orderBy_0 rfl (lv_at hl 1 rfl) ?_
  refine lv_istore_n (lv' := [(2, .int x1), (0, .ref (b + a0)), (1, .int x1)]) hx hb dX3_orderBy_1 rfl hl (by decide) rfl (fun ls hl => ?_)
  refine lv_aload_n hx hb dX3_orderBy_2 rfl (lv_at hl 1 rfl) ?_
  obtain ⟨v1, e_v1, hf⟩ := ob hf
  refine r_getI X S fl_X3_28 e_v1 dX3_orderBy_3 ?_
  obtain ⟨q2, e_q2, hf⟩ := ob hf
  refine r_callSN X S hl.1 (As := [.int v1]) (rest := []) (c_X8_firstOnes e_q2) my_X8_firstOnes ms_X8_firstOnes nl_X3_62 ⟨rfl, rfl, Nat.le_of_ble_eq_true rfl, Nat.le_of_ble_eq_true rfl⟩ rfl rfl (Nat.le_of_ble_eq_true rfl) dX3_orderBy_6 ⟨Nat.le_of_ble_eq_true rfl, Nat.le_of_ble_eq_true rfl⟩ (fun H locs S => ?_)
  refine W.eq (g2 := F0 m 9 ls [.int q2.1]) rfl ?_
  refine lv_istore_n (lv' := [(3, .int q2.1), (2, .int x1), (0, .ref (b + a0)), (1, .int x1)]) hx hb dX3_orderBy_9 rfl hl (by decide) rfl (fun ls hl => ?_)
  refine lv_iconst (v := 0) hx hb dX3_orderBy_10 (by decide) ?_
  refine lv_istore (lv' := [(4, .int 0), (3, .int q2.1), (2, .int x1), (0, .ref (b + a0)), (1, .int x1)]) hx hb dX3_orderBy_11 hl (by decide) rfl (fun ls hl => ?_)
  exact wl_X3_orderBy_13 X Z  FU _ _ _ _ _ hf _ _ _ S (lv_sub hl [3, 2, 1, 0] rfl)
def f_X3_orderBy (a0 : Nat) (x1 : Int32) (h : HP) : Option (HP) := ck h a0 3 (f_X3_orderBy_e a0 x1 h)
theorem o_X3_orderBy {a0 : Nat} {x1 : Int32} {h : HP} {out : HP} (hf : f_X3_orderBy a0 x1 h = some out) : ∃ fs, h[a0]? = some (.inl (3, fs)) := (ck_spec hf).1
set_option maxRecDepth 100000 in
theorem c_X3_orderBy {l : Launch} {G : GT} {b : Nat} {a0 : Nat} {x1 : Int32} {h : HP} {out : HP} (hf : f_X3_orderBy a0 x1 h = some out) : MT l G b False False yX3_orderBy cX3_orderBy 7 none RM_X3_orderBy [.ref (b + a0), .int x1] h none out 0 0 := by
  refine met_of (by decide) (Nat.le_of_ble_eq_true rfl) ?_
  intro p e s m below meth c ls X hnm S hl
  have hl : lv_has ls 7 [(0, .ref (b + a0)), (1, .int x1)] := hl
  replace hf := (ck_spec hf).2
  exact w_X3_orderBy_e X (z_v X) _ _ _ hf _ _ _ S hl
/-! RoomRings$Image.<init>()V -/
abbrev RM_X4_init : Room := { frames := 2, cells := 5, slots := 72, locals := 32 }
def f_X4_init_e  (a0 : Nat) (h : HP) : Option (HP) :=
  (f_X3_init (List.length h) (hpush h (.inl (3, [.inl 0, .inl 0, .inr none, .inr none, .inr none, .inr none])))).bind fun h1 =>
  (pR h1 a0 4 2 (List.length h)).bind fun h2 =>
  some h2
set_option maxRecDepth 100000 in
set_option maxHeartbeats 4000000 in
theorem w_X4_init_e (X : CX RX4 cX4_init 1 none p s m args meth c G b) (hnm : meth.name = "<init>") {out : HP} (Z : ZV p l e RM_X4_init s m args below meth c cX4_init G b True 5 72 Q out)  : ∀ (a0 : Nat) (h : HP), f_X4_init_e  a0 h = some out → ∀ (H : Heap) (locs : List Loc) (ls : Array Slot), ST G b True s h H locs → lv_has ls 1 [(0, .ref (b + a0))] → W p l e RM_X4_init s m args below meth c H locs 0 0 Q (F0 m 0 ls []) := by
  intro a0 h hf H locs ls S hl
  unfold f_X4_init_e at hf
  have hx := X.1
  have hb := X.2.1
  refine lv_aload_n hx hb dX4_init_0 rfl (lv_at hl 0 rfl) ?_
  refine W.objInit hx hb X.2.2.2.1 (X.2.2.2.2.1 _ ml_X4_1) (X.2.2.2.2.1 _ oi_i) (X.2.2.2.2.1 _ oi_c) rfl (by rw [X.2.2.1]; exact hl.1) rfl dX4_init_1 (Nat.le_of_ble_eq_true rfl) (Nat.le_of_ble_eq_true rfl) ?_
  refine W.eq (g2 := F0 m 4 ls []) rfl ?_
  refine lv_aload_n hx hb dX4_init_4 rfl (lv_at hl 0 rfl) ?_
  refine r_new X S nw_X4_7 (Nat.le_of_ble_eq_true rfl) (Nat.le_of_ble_eq_true rfl) dX4_init_5 (fun H locs S => ?_)
  refine W.widen (k := 1) (n := 6) (Nat.le_of_ble_eq_true rfl) (Nat.le_of_ble_eq_true rfl) ?_
  refine lv_dup hx hb dX4_init_8 rfl ?_
  obtain ⟨h1, e_h1, hf⟩ := ob hf
  refine r_callIN X S hl.1 (As := []) (rest := [.ref (b + (List.length h)), .ref (b + a0)]) (c_X3_init e_h1) my_X3_init rfl mi_X3_init nl_X4_9 ⟨rfl, rfl, Nat.le_of_ble_eq_true rfl, Nat.le_of_ble_eq_true rfl⟩ rfl rfl (Nat.le_of_ble_eq_true rfl) dX4_init_9 ⟨Nat.le_of_ble_eq_true rfl, Nat.le_of_ble_eq_true rfl⟩ (fun H locs S => ?_)
  refine W.eq (g2 := F0 m 12 ls [.ref (b + (List.length h)), .ref (b + a0)]) rfl ?_
  refine W.widen (k := 5) (n := 72) (Nat.le_of_ble_eq_true rfl) (Nat.le_of_ble_eq_true rfl) ?_
  obtain ⟨h2, e_h2, hf⟩ := ob hf
  refine r_put X S fp_X4_10 (fun _ => hnm) rfl rfl rfl e_h2 dX4_init_12 (fun H locs S => ?_)
  obtain rfl := Option.some.inj hf
  exact Z _ _ _ _ dX4_init_15 S
def f_X4_init (a0 : Nat) (h : HP) : Option (HP) := f_X4_init_e a0 h
set_option maxRecDepth 100000 in
theorem c_X4_init {l : Launch} {G : GT} {b : Nat} {a0 : Nat} {h : HP} {out : HP} (hf : f_X4_init a0 h = some out) : MT l G b True True yX4_init cX4_init 1 none RM_X4_init [.ref (b + a0)] h none out 5 72 := by
  refine met_of (by decide) (Nat.le_of_ble_eq_true rfl) ?_
  intro p e s m below meth c ls X hnm S hl
  have hl : lv_has ls 1 [(0, .ref (b + a0))] := hl
  exact w_X4_init_e X hnm (z_v X) _ _ hf _ _ _ S hl
/-! RoomRings$Image.store(LRoomRings$House;I)V -/
abbrev RM_X4_store : Room := { frames := 2, cells := 0, slots := 0, locals := 39 }
def f_X4_store_e  (a0 : Nat) (a1 : Nat) (x2 : Int32) (h : HP) : Option (HP) :=
  (gR h a0 4 2).bind fun r1 =>
  (f_X3_copy r1 a1 h).bind fun h2 =>
  (pI h2 a0 4 1 x2).bind fun h3 =>
  (pI h3 a0 4 0 1).bind fun h4 =>
  some h4
set_option maxRecDepth 100000 in
set_option maxHeartbeats 4000000 in
theorem w_X4_store_e (X : CX RX4 cX4_store 3 none p s m args meth c G b) {out : HP} (Z : ZV p l e RM_X4_store s m args below meth c cX4_store G b False 0 0 Q out)  : ∀ (a0 : Nat) (a1 : Nat) (x2 : Int32) (h : HP), f_X4_store_e  a0 a1 x2 h = some out → ∀ (H : Heap) (locs : List Loc) (ls : Array Slot), ST G b False s h H locs → lv_has ls 3 [(0, .ref (b + a0)), (1, .ref (b + a1)), (2, .int x2)] → W p l e RM_X4_store s m args below meth c H locs 0 0 Q (F0 m 0 ls []) := by
  intro a0 a1 x2 h hf H locs ls S hl
  unfold f_X4_store_e at hf
  have hx := X.1
  have hb := X.2.1
  refine lv_aload_n hx hb dX4_store_0 rfl (lv_at hl 0 rfl) ?_
  obtain ⟨r1, e_r1, hf⟩ := ob hf
  refine r_getR X S fl_X4_10 e_r1 dX4_store_1 ?_
  refine lv_aload_n hx hb dX4_store_4 rfl (lv_at hl 1 rfl) ?_
  obtain ⟨h2, e_h2, hf⟩ := ob hf
  refine r_callV X S hl.1 (As := [.ref (b + a1)]) (rest := []) (c_X3_copy e_h2) my_X3_copy mv_X3_copy ml_X4_16 rfl (o_X3_copy e_h2) ⟨rfl, rfl, Nat.le_of_ble_eq_true rfl, Nat.le_of_ble_eq_true rfl⟩ rfl rfl (Nat.le_of_ble_eq_true rfl) dX4_store_5 ⟨Nat.le_of_ble_eq_true rfl, Nat.le_of_ble_eq_true rfl⟩ (fun H locs S => ?_)
  refine W.eq (g2 := F0 m 8 ls []) rfl ?_
  refine lv_aload_n hx hb dX4_store_8 rfl (lv_at hl 0 rfl) ?_
  refine lv_iload_n hx hb dX4_store_9 rfl (lv_at hl 2 rfl) ?_
  obtain ⟨h3, e_h3, hf⟩ := ob hf
  refine r_put X S fp_X4_20 (fun h9 => by cases h9) rfl rfl rfl e_h3 dX4_store_10 (fun H locs S => ?_)
  refine lv_aload_n hx hb dX4_store_13 rfl (lv_at hl 0 rfl) ?_
  refine lv_iconst (v := 1) hx hb dX4_store_14 (by decide) ?_
  obtain ⟨h4, e_h4, hf⟩ := ob hf
  refine r_put X S fp_X4_24 (fun h9 => by cases h9) rfl rfl rfl e_h4 dX4_store_15 (fun H locs S => ?_)
  obtain rfl := Option.some.inj hf
  exact Z _ _ _ _ dX4_store_18 S
def f_X4_store (a0 : Nat) (a1 : Nat) (x2 : Int32) (h : HP) : Option (HP) := ck h a0 4 (f_X4_store_e a0 a1 x2 h)
theorem o_X4_store {a0 : Nat} {a1 : Nat} {x2 : Int32} {h : HP} {out : HP} (hf : f_X4_store a0 a1 x2 h = some out) : ∃ fs, h[a0]? = some (.inl (4, fs)) := (ck_spec hf).1
set_option maxRecDepth 100000 in
theorem c_X4_store {l : Launch} {G : GT} {b : Nat} {a0 : Nat} {a1 : Nat} {x2 : Int32} {h : HP} {out : HP} (hf : f_X4_store a0 a1 x2 h = some out) : MT l G b False False yX4_store cX4_store 3 none RM_X4_store [.ref (b + a0), .ref (b + a1), .int x2] h none out 0 0 := by
  refine met_of (by decide) (Nat.le_of_ble_eq_true rfl) ?_
  intro p e s m below meth c ls X hnm S hl
  have hl : lv_has ls 3 [(0, .ref (b + a0)), (1, .ref (b + a1)), (2, .int x2)] := hl
  replace hf := (ck_spec hf).2
  exact w_X4_store_e X (z_v X) _ _ _ _ hf _ _ _ S hl
/-! RoomRings$Image.drop()V -/
abbrev RM_X4_drop : Room := { frames := 0, cells := 0, slots := 0, locals := 0 }
def f_X4_drop_e  (a0 : Nat) (h : HP) : Option (HP) :=
  (pI h a0 4 0 0).bind fun h1 =>
  some h1
set_option maxRecDepth 100000 in
set_option maxHeartbeats 4000000 in
theorem w_X4_drop_e (X : CX RX4 cX4_drop 1 none p s m args meth c G b) {out : HP} (Z : ZV p l e RM_X4_drop s m args below meth c cX4_drop G b False 0 0 Q out)  : ∀ (a0 : Nat) (h : HP), f_X4_drop_e  a0 h = some out → ∀ (H : Heap) (locs : List Loc) (ls : Array Slot), ST G b False s h H locs → lv_has ls 1 [(0, .ref (b + a0))] → W p l e RM_X4_drop s m args below meth c H locs 0 0 Q (F0 m 0 ls []) := by
  intro a0 h hf H locs ls S hl
  unfold f_X4_drop_e at hf
  have hx := X.1
  have hb := X.2.1
  refine lv_aload_n hx hb dX4_drop_0 rfl (lv_at hl 0 rfl) ?_
  refine lv_iconst (v := 0) hx hb dX4_drop_1 (by decide) ?_
  obtain ⟨h1, e_h1, hf⟩ := ob hf
  refine r_put X S fp_X4_24 (fun h9 => by cases h9) rfl rfl rfl e_h1 dX4_drop_2 (fun H locs S => ?_)
  obtain rfl := Option.some.inj hf
  exact Z _ _ _ _ dX4_drop_5 S
def f_X4_drop (a0 : Nat) (h : HP) : Option (HP) := ck h a0 4 (f_X4_drop_e a0 h)
theorem o_X4_drop {a0 : Nat} {h : HP} {out : HP} (hf : f_X4_drop a0 h = some out) : ∃ fs, h[a0]? = some (.inl (4, fs)) := (ck_spec hf).1
set_option maxRecDepth 100000 in
theorem c_X4_drop {l : Launch} {G : GT} {b : Nat} {a0 : Nat} {h : HP} {out : HP} (hf : f_X4_drop a0 h = some out) : MT l G b False False yX4_drop cX4_drop 1 none RM_X4_drop [.ref (b + a0)] h none out 0 0 := by
  refine met_of (by decide) (Nat.le_of_ble_eq_true rfl) ?_
  intro p e s m below meth c ls X hnm S hl
  have hl : lv_has ls 1 [(0, .ref (b + a0))] := hl
  replace hf := (ck_spec hf).2
  exact w_X4_drop_e X (z_v X) _ _ hf _ _ _ S hl
/-! RoomRings$Notebook.<init>()V -/
abbrev RM_X5_init : Room := { frames := 1, cells := 4, slots := 52, locals := 12 }
def f_X5_init_e  (a0 : Nat) (h : HP) : Option (HP) :=
  (pR (hpush h (.inr (.inl (6, fun _ => 0)))) a0 5 2 (List.length h)).bind fun h1 =>
  (pR (hpush h1 (.inr (.inl (6, fun _ => 0)))) a0 5 3 (List.length h1)).bind fun h2 =>
  (pR (hpush h2 (.inr (.inl (20, fun _ => 0)))) a0 5 4 (List.length h2)).bind fun h3 =>
  (pR (hpush h3 (.inr (.inl (20, fun _ => 0)))) a0 5 5 (List.length h3)).bind fun h4 =>
  some h4
set_option maxRecDepth 100000 in
set_option maxHeartbeats 4000000 in
theorem w_X5_init_e (X : CX RX5 cX5_init 1 none p s m args meth c G b) (hnm : meth.name = "<init>") {out : HP} (Z : ZV p l e RM_X5_init s m args below meth c cX5_init G b True 4 52 Q out)  : ∀ (a0 : Nat) (h : HP), f_X5_init_e  a0 h = some out → ∀ (H : Heap) (locs : List Loc) (ls : Array Slot), ST G b True s h H locs → lv_has ls 1 [(0, .ref (b + a0))] → W p l e RM_X5_init s m args below meth c H locs 0 0 Q (F0 m 0 ls []) := by
  intro a0 h hf H locs ls S hl
  unfold f_X5_init_e at hf
  have hx := X.1
  have hb := X.2.1
  refine lv_aload_n hx hb dX5_init_0 rfl (lv_at hl 0 rfl) ?_
  refine W.objInit hx hb X.2.2.2.1 (X.2.2.2.2.1 _ ml_X5_3) (X.2.2.2.2.1 _ oi_i) (X.2.2.2.2.1 _ oi_c) rfl (by rw [X.2.2.1]; exact hl.1) rfl dX5_init_1 (Nat.le_of_ble_eq_true rfl) (Nat.le_of_ble_eq_true rfl) ?_
  refine W.eq (g2 := F0 m 4 ls []) rfl ?_
  refine lv_aload_n hx hb dX5_init_4 rfl (lv_at hl 0 rfl) ?_
  refine lv_bipush (v := 6) hx hb dX5_init_5 (by decide) ?_
  refine r_newI (N := 6) X S ac_int (by decide) (by decide) (by decide) (Nat.le_of_ble_eq_true rfl) (Nat.le_of_ble_eq_true rfl) dX5_init_7 (fun H locs S => ?_)
  refine W.widen (k := 1) (n := 6) (Nat.le_of_ble_eq_true rfl) (Nat.le_of_ble_eq_true rfl) ?_
  obtain ⟨h1, e_h1, hf⟩ := ob hf
  refine r_put X S fp_X5_9 (fun _ => hnm) rfl rfl rfl e_h1 dX5_init_9 (fun H locs S => ?_)
  refine lv_aload_n hx hb dX5_init_12 rfl (lv_at hl 0 rfl) ?_
  refine lv_bipush (v := 6) hx hb dX5_init_13 (by decide) ?_
  refine r_newI (N := 6) X S ac_int (by decide) (by decide) (by decide) (Nat.le_of_ble_eq_true rfl) (Nat.le_of_ble_eq_true rfl) dX5_init_15 (fun H locs S => ?_)
  refine W.widen (k := 2) (n := 12) (Nat.le_of_ble_eq_true rfl) (Nat.le_of_ble_eq_true rfl) ?_
  obtain ⟨h2, e_h2, hf⟩ := ob hf
  refine r_put X S fp_X5_15 (fun _ => hnm) rfl rfl rfl e_h2 dX5_init_17 (fun H locs S => ?_)
  refine lv_aload_n hx hb dX5_init_20 rfl (lv_at hl 0 rfl) ?_
  refine lv_bipush (v := 20) hx hb dX5_init_21 (by decide) ?_
  refine r_newI (N := 20) X S ac_int (by decide) (by decide) (by decide) (Nat.le_of_ble_eq_true rfl) (Nat.le_of_ble_eq_true rfl) dX5_init_23 (fun H locs S => ?_)
  refine W.widen (k := 3) (n := 32) (Nat.le_of_ble_eq_true rfl) (Nat.le_of_ble_eq_true rfl) ?_
  obtain ⟨h3, e_h3, hf⟩ := ob hf
  refine r_put X S fp_X5_18 (fun _ => hnm) rfl rfl rfl e_h3 dX5_init_25 (fun H locs S => ?_)
  refine lv_aload_n hx hb dX5_init_28 rfl (lv_at hl 0 rfl) ?_
  refine lv_bipush (v := 20) hx hb dX5_init_29 (by decide) ?_
  refine r_newI (N := 20) X S ac_int (by decide) (by decide) (by decide) (Nat.le_of_ble_eq_true rfl) (Nat.le_of_ble_eq_true rfl) dX5_init_31 (fun H locs S => ?_)
  refine W.widen (k := 4) (n := 52) (Nat.le_of_ble_eq_true rfl) (Nat.le_of_ble_eq_true rfl) ?_
  obtain ⟨h4, e_h4, hf⟩ := ob hf
  refine r_put X S fp_X5_21 (fun _ => hnm) rfl rfl rfl e_h4 dX5_init_33 (fun H locs S => ?_)
  obtain rfl := Option.some.inj hf
  exact Z _ _ _ _ dX5_init_36 S
def f_X5_init (a0 : Nat) (h : HP) : Option (HP) := f_X5_init_e a0 h
set_option maxRecDepth 100000 in
theorem c_X5_init {l : Launch} {G : GT} {b : Nat} {a0 : Nat} {h : HP} {out : HP} (hf : f_X5_init a0 h = some out) : MT l G b True True yX5_init cX5_init 1 none RM_X5_init [.ref (b + a0)] h none out 4 52 := by
  refine met_of (by decide) (Nat.le_of_ble_eq_true rfl) ?_
  intro p e s m below meth c ls X hnm S hl
  have hl : lv_has ls 1 [(0, .ref (b + a0))] := hl
  exact w_X5_init_e X hnm (z_v X) _ _ hf _ _ _ S hl
/-! RoomRings$Notebook.clear()V -/
abbrev RM_X5_clear : Room := { frames := 0, cells := 0, slots := 0, locals := 0 }
def f_X5_clear_e  (a0 : Nat) (h : HP) : Option (HP) :=
  (pI h a0 5 0 0).bind fun h1 =>
  (pI h1 a0 5 1 0).bind fun h2 =>
  some h2
set_option maxRecDepth 100000 in
set_option maxHeartbeats 4000000 in
theorem w_X5_clear_e (X : CX RX5 cX5_clear 1 none p s m args meth c G b) {out : HP} (Z : ZV p l e RM_X5_clear s m args below meth c cX5_clear G b False 0 0 Q out)  : ∀ (a0 : Nat) (h : HP), f_X5_clear_e  a0 h = some out → ∀ (H : Heap) (locs : List Loc) (ls : Array Slot), ST G b False s h H locs → lv_has ls 1 [(0, .ref (b + a0))] → W p l e RM_X5_clear s m args below meth c H locs 0 0 Q (F0 m 0 ls []) := by
  intro a0 h hf H locs ls S hl
  unfold f_X5_clear_e at hf
  have hx := X.1
  have hb := X.2.1
  refine lv_aload_n hx hb dX5_clear_0 rfl (lv_at hl 0 rfl) ?_
  refine lv_iconst (v := 0) hx hb dX5_clear_1 (by decide) ?_
  obtain ⟨h1, e_h1, hf⟩ := ob hf
  refine r_put X S fp_X5_24 (fun h9 => by cases h9) rfl rfl rfl e_h1 dX5_clear_2 (fun H locs S => ?_)
  refine lv_aload_n hx hb dX5_clear_5 rfl (lv_at hl 0 rfl) ?_
  refine lv_iconst (v := 0) hx hb dX5_clear_6 (by decide) ?_
  obtain ⟨h2, e_h2, hf⟩ := ob hf
  refine r_put X S fp_X5_28 (fun h9 => by cases h9) rfl rfl rfl e_h2 dX5_clear_7 (fun H locs S => ?_)
  obtain rfl := Option.some.inj hf
  exact Z _ _ _ _ dX5_clear_10 S
def f_X5_clear (a0 : Nat) (h : HP) : Option (HP) := ck h a0 5 (f_X5_clear_e a0 h)
theorem o_X5_clear {a0 : Nat} {h : HP} {out : HP} (hf : f_X5_clear a0 h = some out) : ∃ fs, h[a0]? = some (.inl (5, fs)) := (ck_spec hf).1
set_option maxRecDepth 100000 in
theorem c_X5_clear {l : Launch} {G : GT} {b : Nat} {a0 : Nat} {h : HP} {out : HP} (hf : f_X5_clear a0 h = some out) : MT l G b False False yX5_clear cX5_clear 1 none RM_X5_clear [.ref (b + a0)] h none out 0 0 := by
  refine met_of (by decide) (Nat.le_of_ble_eq_true rfl) ?_
  intro p e s m below meth c ls X hnm S hl
  have hl : lv_has ls 1 [(0, .ref (b + a0))] := hl
  replace hf := (ck_spec hf).2
  exact w_X5_clear_e X (z_v X) _ _ hf _ _ _ S hl
/-! RoomRings$Notebook.addSeen(IZ)I -/
abbrev RM_X5_addSeen : Room := { frames := 1, cells := 0, slots := 0, locals := 22 }
def f_X5_addSeen_b41  (a0 : Nat) (s0 : Nat) (s1 : Int32) (s2 : Int32) (h : HP) : Option (Int32 × HP) :=
  (f_X8_put s0 s1 s2 h).bind fun h1 =>
  (gI h1 a0 5 0).bind fun v2 =>
  (pI h1 a0 5 0 (v2 + 1)).bind fun h3 =>
  (gI h3 a0 5 0).bind fun v4 =>
  some (v4, h3)
set_option maxRecDepth 100000 in
set_option maxHeartbeats 4000000 in
theorem w_X5_addSeen_b41 (X : CX RX5 cX5_addSeen 3 (some .int) p s m args meth c G b) {out : Int32 × HP} (Z : ZI p l e RM_X5_addSeen s m args below meth c cX5_addSeen G b False 0 0 Q out)  : ∀ (a0 : Nat) (s0 : Nat) (s1 : Int32) (s2 : Int32) (h : HP), f_X5_addSeen_b41  a0 s0 s1 s2 h = some out → ∀ (H : Heap) (locs : List Loc) (ls : Array Slot), ST G b False s h H locs → lv_has ls 3 [(0, .ref (b + a0))] → W p l e RM_X5_addSeen s m args below meth c H locs 0 0 Q (F0 m 41 ls [.int s2, .int s1, .ref (b + s0)]) := by
  intro a0 s0 s1 s2 h hf H locs ls S hl
  unfold f_X5_addSeen_b41 at hf
  have hx := X.1
  have hb := X.2.1
  obtain ⟨h1, e_h1, hf⟩ := ob hf
  refine r_callSN X S hl.1 (As := [.ref (b + s0), .int s1, .int s2]) (rest := []) (c_X8_put e_h1) my_X8_put ms_X8_put nl_X5_32 ⟨rfl, rfl, Nat.le_of_ble_eq_true rfl, Nat.le_of_ble_eq_true rfl⟩ rfl rfl (Nat.le_of_ble_eq_true rfl) dX5_addSeen_41 ⟨Nat.le_of_ble_eq_true rfl, Nat.le_of_ble_eq_true rfl⟩ (fun H locs S => ?_)
  refine W.eq (g2 := F0 m 44 ls []) rfl ?_
  refine lv_aload_n hx hb dX5_addSeen_44 rfl (lv_at hl 0 rfl) ?_
  refine lv_dup hx hb dX5_addSeen_45 rfl ?_
  obtain ⟨v2, e_v2, hf⟩ := ob hf
  refine r_getI X S fl_X5_24 e_v2 dX5_addSeen_46 ?_
  refine lv_iconst (v := 1) hx hb dX5_addSeen_49 (by decide) ?_
  refine lv_iadd hx hb dX5_addSeen_50 ?_
  obtain ⟨h3, e_h3, hf⟩ := ob hf
  refine r_put X S fp_X5_24 (fun h9 => by cases h9) rfl rfl rfl e_h3 dX5_addSeen_51 (fun H locs S => ?_)
  refine lv_aload_n hx hb dX5_addSeen_54 rfl (lv_at hl 0 rfl) ?_
  obtain ⟨v4, e_v4, hf⟩ := ob hf
  refine r_getI X S fl_X5_24 e_v4 dX5_addSeen_55 ?_
  obtain rfl := Option.some.inj hf
  exact Z _ _ _ _ dX5_addSeen_58 S
def f_X5_addSeen_e  (a0 : Nat) (x1 : Int32) (x2 : Int32) (h : HP) : Option (Int32 × HP) :=
  (gI h a0 5 0).bind fun v1 =>
  if v1 < 6 then
    (gR h a0 5 2).bind fun r2 =>
    (gI h a0 5 0).bind fun v3 =>
    (f_X8_put r2 v3 x1 h).bind fun h4 =>
    (gR h4 a0 5 3).bind fun r5 =>
    (gI h4 a0 5 0).bind fun v6 =>
    if x2 = 0 then
      f_X5_addSeen_b41  a0 r5 v6 0 h4
    else
      f_X5_addSeen_b41  a0 r5 v6 1 h4
  else
    some ((-1000000004), h)
set_option maxRecDepth 100000 in
set_option maxHeartbeats 4000000 in
theorem w_X5_addSeen_e (X : CX RX5 cX5_addSeen 3 (some .int) p s m args meth c G b) {out : Int32 × HP} (Z : ZI p l e RM_X5_addSeen s m args below meth c cX5_addSeen G b False 0 0 Q out)  : ∀ (a0 : Nat) (x1 : Int32) (x2 : Int32) (h : HP), f_X5_addSeen_e  a0 x1 x2 h = some out → ∀ (H : Heap) (locs : List Loc) (ls : Array Slot), ST G b False s h H locs → lv_has ls 3 [(0, .ref (b + a0)), (1, .int x1), (2, .int x2)] → W p l e RM_X5_addSeen s m args below meth c H locs 0 0 Q (F0 m 0 ls []) := by
  intro a0 x1 x2 h hf H locs ls S hl
  unfold f_X5_addSeen_e at hf
  have hx := X.1
  have hb := X.2.1
  refine lv_aload_n hx hb dX5_addSeen_0 rfl (lv_at hl 0 rfl) ?_
  obtain ⟨v1, e_v1, hf⟩ := ob hf
  refine r_getI X S fl_X5_24 e_v1 dX5_addSeen_1 ?_
  refine lv_bipush (v := 6) hx hb dX5_addSeen_4 (by decide) ?_
  refine lv_icmp_lt (tgt := 12) hx hb dX5_addSeen_6 (by decide) (fun hc => ?_) (fun hc => ?_)
  · replace hf := ip hf hc
    refine lv_aload_n hx hb dX5_addSeen_12 rfl (lv_at hl 0 rfl) ?_
    obtain ⟨r2, e_r2, hf⟩ := ob hf
    refine r_getR X S fl_X5_9 e_r2 dX5_addSeen_13 ?_
    refine lv_aload_n hx hb dX5_addSeen_16 rfl (lv_at hl 0 rfl) ?_
    obtain ⟨v3, e_v3, hf⟩ := ob hf
    refine r_getI X S fl_X5_24 e_v3 dX5_addSeen_17 ?_
    refine lv_iload_n hx hb dX5_addSeen_20 rfl (lv_at hl 1 rfl) ?_
    obtain ⟨h4, e_h4, hf⟩ := ob hf
    refine r_callSN X S hl.1 (As := [.ref (b + r2), .int v3, .int x1]) (rest := []) (c_X8_put e_h4) my_X8_put ms_X8_put nl_X5_32 ⟨rfl, rfl, Nat.le_of_ble_eq_true rfl, Nat.le_of_ble_eq_true rfl⟩ rfl rfl (Nat.le_of_ble_eq_true rfl) dX5_addSeen_21 ⟨Nat.le_of_ble_eq_true rfl, Nat.le_of_ble_eq_true rfl⟩ (fun H locs S => ?_)
    refine W.eq (g2 := F0 m 24 ls []) rfl ?_
    refine lv_aload_n hx hb dX5_addSeen_24 rfl (lv_at hl 0 rfl) ?_
    obtain ⟨r5, e_r5, hf⟩ := ob hf
    refine r_getR X S fl_X5_15 e_r5 dX5_addSeen_25 ?_
    refine lv_aload_n hx hb dX5_addSeen_28 rfl (lv_at hl 0 rfl) ?_
    obtain ⟨v6, e_v6, hf⟩ := ob hf
    refine r_getI X S fl_X5_24 e_v6 dX5_addSeen_29 ?_
    refine lv_iload_n hx hb dX5_addSeen_32 rfl (lv_at hl 2 rfl) ?_
    refine lv_if_eq (tgt := 40) hx hb dX5_addSeen_33 (by decide) (fun hc => ?_) (fun hc => ?_)
    · replace hf := ip hf hc
      refine lv_iconst (v := 0) hx hb dX5_addSeen_40 (by decide) ?_
      exact w_X5_addSeen_b41 X Z  _ _ _ _ _ hf _ _ _ S (lv_sub hl [0] rfl)
    · replace hf := im hf hc
      refine lv_iconst (v := 1) hx hb dX5_addSeen_36 (by decide) ?_
      refine lv_goto (tgt := 41) hx hb dX5_addSeen_37 (by decide) ?_
      exact w_X5_addSeen_b41 X Z  _ _ _ _ _ hf _ _ _ S (lv_sub hl [0] rfl)
  · replace hf := im hf hc
    refine lv_ldc (v := (-1000000004)) hx hb X.2.2.2.1 (X.2.2.2.2.1 _ cn_X5_31) dX5_addSeen_9 ?_
    obtain rfl := Option.some.inj hf
    exact Z _ _ _ _ dX5_addSeen_11 S
def f_X5_addSeen (a0 : Nat) (x1 : Int32) (x2 : Int32) (h : HP) : Option (Int32 × HP) := ck h a0 5 (f_X5_addSeen_e a0 x1 x2 h)
theorem o_X5_addSeen {a0 : Nat} {x1 : Int32} {x2 : Int32} {h : HP} {out : Int32 × HP} (hf : f_X5_addSeen a0 x1 x2 h = some out) : ∃ fs, h[a0]? = some (.inl (5, fs)) := (ck_spec hf).1
set_option maxRecDepth 100000 in
theorem c_X5_addSeen {l : Launch} {G : GT} {b : Nat} {a0 : Nat} {x1 : Int32} {x2 : Int32} {h : HP} {out : Int32 × HP} (hf : f_X5_addSeen a0 x1 x2 h = some out) : MT l G b False False yX5_addSeen cX5_addSeen 3 (some .int) RM_X5_addSeen [.ref (b + a0), .int x1, .int x2] h (some (.int out.1)) out.2 0 0 := by
  refine met_of (by decide) (Nat.le_of_ble_eq_true rfl) ?_
  intro p e s m below meth c ls X hnm S hl
  have hl : lv_has ls 3 [(0, .ref (b + a0)), (1, .int x1), (2, .int x2)] := hl
  replace hf := (ck_spec hf).2
  exact w_X5_addSeen_e X (z_i X) _ _ _ _ hf _ _ _ S hl
/-! RoomRings$Notebook.addEntry(II)I -/
abbrev RM_X5_addEntry : Room := { frames := 1, cells := 0, slots := 0, locals := 22 }
def f_X5_addEntry_e  (a0 : Nat) (x1 : Int32) (x2 : Int32) (h : HP) : Option (Int32 × HP) :=
  (gI h a0 5 1).bind fun v1 =>
  if v1 < 20 then
    (gR h a0 5 4).bind fun r2 =>
    (gI h a0 5 1).bind fun v3 =>
    (f_X8_put r2 v3 x1 h).bind fun h4 =>
    (gR h4 a0 5 5).bind fun r5 =>
    (gI h4 a0 5 1).bind fun v6 =>
    (f_X8_put r5 v6 x2 h4).bind fun h7 =>
    (gI h7 a0 5 1).bind fun v8 =>
    (pI h7 a0 5 1 (v8 + 1)).bind fun h9 =>
    (gI h9 a0 5 1).bind fun v10 =>
    some (v10, h9)
  else
    some ((-1000000004), h)
set_option maxRecDepth 100000 in
set_option maxHeartbeats 4000000 in
theorem w_X5_addEntry_e (X : CX RX5 cX5_addEntry 3 (some .int) p s m args meth c G b) {out : Int32 × HP} (Z : ZI p l e RM_X5_addEntry s m args below meth c cX5_addEntry G b False 0 0 Q out)  : ∀ (a0 : Nat) (x1 : Int32) (x2 : Int32) (h : HP), f_X5_addEntry_e  a0 x1 x2 h = some out → ∀ (H : Heap) (locs : List Loc) (ls : Array Slot), ST G b False s h H locs → lv_has ls 3 [(0, .ref (b + a0)), (1, .int x1), (2, .int x2)] → W p l e RM_X5_addEntry s m args below meth c H locs 0 0 Q (F0 m 0 ls []) := by
  intro a0 x1 x2 h hf H locs ls S hl
  unfold f_X5_addEntry_e at hf
  have hx := X.1
  have hb := X.2.1
  refine lv_aload_n hx hb dX5_addEntry_0 rfl (lv_at hl 0 rfl) ?_
  obtain ⟨v1, e_v1, hf⟩ := ob hf
  refine r_getI X S fl_X5_28 e_v1 dX5_addEntry_1 ?_
  refine lv_bipush (v := 20) hx hb dX5_addEntry_4 (by decide) ?_
  refine lv_icmp_lt (tgt := 12) hx hb dX5_addEntry_6 (by decide) (fun hc => ?_) (fun hc => ?_)
  · replace hf := ip hf hc
    refine lv_aload_n hx hb dX5_addEntry_12 rfl (lv_at hl 0 rfl) ?_
    obtain ⟨r2, e_r2, hf⟩ := ob hf
    refine r_getR X S fl_X5_18 e_r2 dX5_addEntry_13 ?_
    refine lv_aload_n hx hb dX5_addEntry_16 rfl (lv_at hl 0 rfl) ?_
    obtain ⟨v3, e_v3, hf⟩ := ob hf
    refine r_getI X S fl_X5_28 e_v3 dX5_addEntry_17 ?_
    refine lv_iload_n hx hb dX5_addEntry_20 rfl (lv_at hl 1 rfl) ?_
    obtain ⟨h4, e_h4, hf⟩ := ob hf
    refine r_callSN X S hl.1 (As := [.ref (b + r2), .int v3, .int x1]) (rest := []) (c_X8_put e_h4) my_X8_put ms_X8_put nl_X5_32 ⟨rfl, rfl, Nat.le_of_ble_eq_true rfl, Nat.le_of_ble_eq_true rfl⟩ rfl rfl (Nat.le_of_ble_eq_true rfl) dX5_addEntry_21 ⟨Nat.le_of_ble_eq_true rfl, Nat.le_of_ble_eq_true rfl⟩ (fun H locs S => ?_)
    refine W.eq (g2 := F0 m 24 ls []) rfl ?_
    refine lv_aload_n hx hb dX5_addEntry_24 rfl (lv_at hl 0 rfl) ?_
    obtain ⟨r5, e_r5, hf⟩ := ob hf
    refine r_getR X S fl_X5_21 e_r5 dX5_addEntry_25 ?_
    refine lv_aload_n hx hb dX5_addEntry_28 rfl (lv_at hl 0 rfl) ?_
    obtain ⟨v6, e_v6, hf⟩ := ob hf
    refine r_getI X S fl_X5_28 e_v6 dX5_addEntry_29 ?_
    refine lv_iload_n hx hb dX5_addEntry_32 rfl (lv_at hl 2 rfl) ?_
    obtain ⟨h7, e_h7, hf⟩ := ob hf
    refine r_callSN X S hl.1 (As := [.ref (b + r5), .int v6, .int x2]) (rest := []) (c_X8_put e_h7) my_X8_put ms_X8_put nl_X5_32 ⟨rfl, rfl, Nat.le_of_ble_eq_true rfl, Nat.le_of_ble_eq_true rfl⟩ rfl rfl (Nat.le_of_ble_eq_true rfl) dX5_addEntry_33 ⟨Nat.le_of_ble_eq_true rfl, Nat.le_of_ble_eq_true rfl⟩ (fun H locs S => ?_)
    refine W.eq (g2 := F0 m 36 ls []) rfl ?_
    refine lv_aload_n hx hb dX5_addEntry_36 rfl (lv_at hl 0 rfl) ?_
    refine lv_dup hx hb dX5_addEntry_37 rfl ?_
    obtain ⟨v8, e_v8, hf⟩ := ob hf
    refine r_getI X S fl_X5_28 e_v8 dX5_addEntry_38 ?_
    refine lv_iconst (v := 1) hx hb dX5_addEntry_41 (by decide) ?_
    refine lv_iadd hx hb dX5_addEntry_42 ?_
    obtain ⟨h9, e_h9, hf⟩ := ob hf
    refine r_put X S fp_X5_28 (fun h9 => by cases h9) rfl rfl rfl e_h9 dX5_addEntry_43 (fun H locs S => ?_)
    refine lv_aload_n hx hb dX5_addEntry_46 rfl (lv_at hl 0 rfl) ?_
    obtain ⟨v10, e_v10, hf⟩ := ob hf
    refine r_getI X S fl_X5_28 e_v10 dX5_addEntry_47 ?_
    obtain rfl := Option.some.inj hf
    exact Z _ _ _ _ dX5_addEntry_50 S
  · replace hf := im hf hc
    refine lv_ldc (v := (-1000000004)) hx hb X.2.2.2.1 (X.2.2.2.2.1 _ cn_X5_31) dX5_addEntry_9 ?_
    obtain rfl := Option.some.inj hf
    exact Z _ _ _ _ dX5_addEntry_11 S
def f_X5_addEntry (a0 : Nat) (x1 : Int32) (x2 : Int32) (h : HP) : Option (Int32 × HP) := ck h a0 5 (f_X5_addEntry_e a0 x1 x2 h)
theorem o_X5_addEntry {a0 : Nat} {x1 : Int32} {x2 : Int32} {h : HP} {out : Int32 × HP} (hf : f_X5_addEntry a0 x1 x2 h = some out) : ∃ fs, h[a0]? = some (.inl (5, fs)) := (ck_spec hf).1
set_option maxRecDepth 100000 in
theorem c_X5_addEntry {l : Launch} {G : GT} {b : Nat} {a0 : Nat} {x1 : Int32} {x2 : Int32} {h : HP} {out : Int32 × HP} (hf : f_X5_addEntry a0 x1 x2 h = some out) : MT l G b False False yX5_addEntry cX5_addEntry 3 (some .int) RM_X5_addEntry [.ref (b + a0), .int x1, .int x2] h (some (.int out.1)) out.2 0 0 := by
  refine met_of (by decide) (Nat.le_of_ble_eq_true rfl) ?_
  intro p e s m below meth c ls X hnm S hl
  have hl : lv_has ls 3 [(0, .ref (b + a0)), (1, .int x1), (2, .int x2)] := hl
  replace hf := (ck_spec hf).2
  exact w_X5_addEntry_e X (z_i X) _ _ _ _ hf _ _ _ S hl
/-! RoomRings$Notebook.fits(I)Z -/
abbrev RM_X5_fits : Room := { frames := 1, cells := 0, slots := 0, locals := 21 }
def f_X5_fits_b46 (K2 : Nat → Int32 → Int32 → HP → Option (Int32 × HP)) (a0 : Nat) (x1 : Int32) (x2 : Int32) (s0 : Int32) (s1 : Int32) (h : HP) : Option (Int32 × HP) :=
  if s0 = s1 then
    K2 a0 x1 (x2 + 1) h
  else
    some (0, h)
set_option maxRecDepth 100000 in
set_option maxHeartbeats 4000000 in
theorem w_X5_fits_b46 (X : CX RX5 cX5_fits 4 (some .boolean) p s m args meth c G b) {out : Int32 × HP} (Z : ZZ p l e RM_X5_fits s m args below meth c cX5_fits G b False 0 0 Q out) {K2 : Nat → Int32 → Int32 → HP → Option (Int32 × HP)} (hK2 : ∀ (a0 : Nat) (x1 : Int32) (x2 : Int32) (h : HP), K2 a0 x1 x2 h = some out → ∀ (H : Heap) (locs : List Loc) (ls : Array Slot), ST G b False s h H locs → lv_has ls 4 [(0, .ref (b + a0)), (1, .int x1), (2, .int x2)] → W p l e RM_X5_fits s m args below meth c H locs 0 0 Q (F0 m 2 ls [])) : ∀ (a0 : Nat) (x1 : Int32) (x2 : Int32) (s0 : Int32) (s1 : Int32) (h : HP), f_X5_fits_b46 K2 a0 x1 x2 s0 s1 h = some out → ∀ (H : Heap) (locs : List Loc) (ls : Array Slot), ST G b False s h H locs → lv_has ls 4 [(0, .ref (b + a0)), (1, .int x1), (2, .int x2)] → W p l e RM_X5_fits s m args below meth c H locs 0 0 Q (F0 m 46 ls [.int s1, .int s0]) := by
  intro a0 x1 x2 s0 s1 h hf H locs ls S hl
  unfold f_X5_fits_b46 at hf
  have hx := X.1
  have hb := X.2.1
  refine lv_icmp_eq (tgt := 51) hx hb dX5_fits_46 (by decide) (fun hc => ?_) (fun hc => ?_)
  · replace hf := ip hf hc
    refine lv_iinc (v := x2 + 1) (lv' := [(2, .int (x2 + 1)), (0, .ref (b + a0)), (1, .int x1)]) hx hb dX5_fits_51 hl (k := 2) rfl rfl (by decide) rfl (fun ls hl => ?_)
    refine lv_goto (tgt := 2) hx hb dX5_fits_54 (by decide) ?_
    exact hK2 _ _ _ _ hf _ _ _ S (lv_sub hl [1, 2, 0] rfl)
  · replace hf := im hf hc
    refine lv_iconst (v := 0) hx hb dX5_fits_49 (by decide) ?_
    obtain rfl := Option.some.inj hf
    exact Z _ _ _ _ dX5_fits_50 S (Or.inl rfl)
def f_X5_fits_b27 (K2 : Nat → Int32 → Int32 → HP → Option (Int32 × HP)) (a0 : Nat) (x1 : Int32) (x2 : Int32) (s0 : Int32) (h : HP) : Option (Int32 × HP) :=
  (gR h a0 5 3).bind fun r1 =>
  (f_X8_at r1 x2 h).bind fun q2 =>
  if q2.1 = 1 then
    f_X5_fits_b46 K2 a0 x1 x2 s0 1 q2.2
  else
    f_X5_fits_b46 K2 a0 x1 x2 s0 0 q2.2
set_option maxRecDepth 100000 in
set_option maxHeartbeats 4000000 in
theorem w_X5_fits_b27 (X : CX RX5 cX5_fits 4 (some .boolean) p s m args meth c G b) {out : Int32 × HP} (Z : ZZ p l e RM_X5_fits s m args below meth c cX5_fits G b False 0 0 Q out) {K2 : Nat → Int32 → Int32 → HP → Option (Int32 × HP)} (hK2 : ∀ (a0 : Nat) (x1 : Int32) (x2 : Int32) (h : HP), K2 a0 x1 x2 h = some out → ∀ (H : Heap) (locs : List Loc) (ls : Array Slot), ST G b False s h H locs → lv_has ls 4 [(0, .ref (b + a0)), (1, .int x1), (2, .int x2)] → W p l e RM_X5_fits s m args below meth c H locs 0 0 Q (F0 m 2 ls [])) : ∀ (a0 : Nat) (x1 : Int32) (x2 : Int32) (s0 : Int32) (h : HP), f_X5_fits_b27 K2 a0 x1 x2 s0 h = some out → ∀ (H : Heap) (locs : List Loc) (ls : Array Slot), ST G b False s h H locs → lv_has ls 4 [(0, .ref (b + a0)), (1, .int x1), (2, .int x2)] → W p l e RM_X5_fits s m args below meth c H locs 0 0 Q (F0 m 27 ls [.int s0]) := by
  intro a0 x1 x2 s0 h hf H locs ls S hl
  unfold f_X5_fits_b27 at hf
  have hx := X.1
  have hb := X.2.1
  refine lv_istore_n (lv' := [(3, .int s0), (0, .ref (b + a0)), (1, .int x1), (2, .int x2)]) hx hb dX5_fits_27 rfl hl (by decide) rfl (fun ls hl => ?_)
  refine lv_iload_n hx hb dX5_fits_28 rfl (lv_at hl 0 rfl) ?_
  refine lv_aload_n hx hb dX5_fits_29 rfl (lv_at hl 1 rfl) ?_
  obtain ⟨r1, e_r1, hf⟩ := ob hf
  refine r_getR X S fl_X5_15 e_r1 dX5_fits_30 ?_
  refine lv_iload_n hx hb dX5_fits_33 rfl (lv_at hl 3 rfl) ?_
  obtain ⟨q2, e_q2, hf⟩ := ob hf
  refine r_callSN X S hl.1 (As := [.ref (b + r1), .int x2]) (rest := [.int s0]) (c_X8_at e_q2) my_X8_at ms_X8_at nl_X5_50 ⟨rfl, rfl, Nat.le_of_ble_eq_true rfl, Nat.le_of_ble_eq_true rfl⟩ rfl rfl (Nat.le_of_ble_eq_true rfl) dX5_fits_34 ⟨Nat.le_of_ble_eq_true rfl, Nat.le_of_ble_eq_true rfl⟩ (fun H locs S => ?_)
  refine W.eq (g2 := F0 m 37 ls [.int q2.1, .int s0]) rfl ?_
  refine lv_iconst (v := 1) hx hb dX5_fits_37 (by decide) ?_
  refine lv_icmp_ne (tgt := 45) hx hb dX5_fits_38 (by decide) (fun hc => ?_) (fun hc => ?_)
  · replace hf := im hf hc
    refine lv_iconst (v := 0) hx hb dX5_fits_45 (by decide) ?_
    exact w_X5_fits_b46 X Z hK2 _ _ _ _ _ _ hf _ _ _ S (lv_sub hl [1, 2, 3] rfl)
  · replace hf := ip hf hc
    refine lv_iconst (v := 1) hx hb dX5_fits_41 (by decide) ?_
    refine lv_goto (tgt := 46) hx hb dX5_fits_42 (by decide) ?_
    exact w_X5_fits_b46 X Z hK2 _ _ _ _ _ _ hf _ _ _ S (lv_sub hl [1, 2, 3] rfl)
def f_X5_fits_b2 (K2 : Nat → Int32 → Int32 → HP → Option (Int32 × HP)) (a0 : Nat) (x1 : Int32) (x2 : Int32) (h : HP) : Option (Int32 × HP) :=
  (gI h a0 5 0).bind fun v1 =>
  if v1 ≤ x2 then
    some (1, h)
  else
    (gR h a0 5 2).bind fun r2 =>
    (f_X8_at r2 x2 h).bind fun q3 =>
    if q3.1 = x1 then
      f_X5_fits_b27 K2 a0 x1 x2 1 q3.2
    else
      f_X5_fits_b27 K2 a0 x1 x2 0 q3.2
set_option maxRecDepth 100000 in
set_option maxHeartbeats 4000000 in
theorem w_X5_fits_b2 (X : CX RX5 cX5_fits 4 (some .boolean) p s m args meth c G b) {out : Int32 × HP} (Z : ZZ p l e RM_X5_fits s m args below meth c cX5_fits G b False 0 0 Q out) {K2 : Nat → Int32 → Int32 → HP → Option (Int32 × HP)} (hK2 : ∀ (a0 : Nat) (x1 : Int32) (x2 : Int32) (h : HP), K2 a0 x1 x2 h = some out → ∀ (H : Heap) (locs : List Loc) (ls : Array Slot), ST G b False s h H locs → lv_has ls 4 [(0, .ref (b + a0)), (1, .int x1), (2, .int x2)] → W p l e RM_X5_fits s m args below meth c H locs 0 0 Q (F0 m 2 ls [])) : ∀ (a0 : Nat) (x1 : Int32) (x2 : Int32) (h : HP), f_X5_fits_b2 K2 a0 x1 x2 h = some out → ∀ (H : Heap) (locs : List Loc) (ls : Array Slot), ST G b False s h H locs → lv_has ls 4 [(0, .ref (b + a0)), (1, .int x1), (2, .int x2)] → W p l e RM_X5_fits s m args below meth c H locs 0 0 Q (F0 m 2 ls []) := by
  intro a0 x1 x2 h hf H locs ls S hl
  unfold f_X5_fits_b2 at hf
  have hx := X.1
  have hb := X.2.1
  refine lv_iload_n hx hb dX5_fits_2 rfl (lv_at hl 2 rfl) ?_
  refine lv_aload_n hx hb dX5_fits_3 rfl (lv_at hl 0 rfl) ?_
  obtain ⟨v1, e_v1, hf⟩ := ob hf
  refine r_getI X S fl_X5_24 e_v1 dX5_fits_4 ?_
  refine lv_icmp_ge (tgt := 57) hx hb dX5_fits_7 (by decide) (fun hc => ?_) (fun hc => ?_)
  · replace hf := ip hf hc
    refine lv_iconst (v := 1) hx hb dX5_fits_57 (by decide) ?_
    obtain rfl := Option.some.inj hf
    exact Z _ _ _ _ dX5_fits_58 S (Or.inr rfl)
  · replace hf := im hf hc
    refine lv_aload_n hx hb dX5_fits_10 rfl (lv_at hl 0 rfl) ?_
    obtain ⟨r2, e_r2, hf⟩ := ob hf
    refine r_getR X S fl_X5_9 e_r2 dX5_fits_11 ?_
    refine lv_iload_n hx hb dX5_fits_14 rfl (lv_at hl 2 rfl) ?_
    obtain ⟨q3, e_q3, hf⟩ := ob hf
    refine r_callSN X S hl.1 (As := [.ref (b + r2), .int x2]) (rest := []) (c_X8_at e_q3) my_X8_at ms_X8_at nl_X5_50 ⟨rfl, rfl, Nat.le_of_ble_eq_true rfl, Nat.le_of_ble_eq_true rfl⟩ rfl rfl (Nat.le_of_ble_eq_true rfl) dX5_fits_15 ⟨Nat.le_of_ble_eq_true rfl, Nat.le_of_ble_eq_true rfl⟩ (fun H locs S => ?_)
    refine W.eq (g2 := F0 m 18 ls [.int q3.1]) rfl ?_
    refine lv_iload_n hx hb dX5_fits_18 rfl (lv_at hl 1 rfl) ?_
    refine lv_icmp_ne (tgt := 26) hx hb dX5_fits_19 (by decide) (fun hc => ?_) (fun hc => ?_)
    · replace hf := im hf hc
      refine lv_iconst (v := 0) hx hb dX5_fits_26 (by decide) ?_
      exact w_X5_fits_b27 X Z hK2 _ _ _ _ _ hf _ _ _ S (lv_sub hl [0, 1, 2] rfl)
    · replace hf := ip hf hc
      refine lv_iconst (v := 1) hx hb dX5_fits_22 (by decide) ?_
      refine lv_goto (tgt := 27) hx hb dX5_fits_23 (by decide) ?_
      exact w_X5_fits_b27 X Z hK2 _ _ _ _ _ hf _ _ _ S (lv_sub hl [0, 1, 2] rfl)
def F_X5_fits_2  : Nat → Nat → Int32 → Int32 → HP → Option (Int32 × HP)
  | 0 => fun _ _ _ _ => none
  | n + 1 => fun a0 x1 x2 h => f_X5_fits_b2 (F_X5_fits_2  n) a0 x1 x2 h
theorem wl_X5_fits_2 (X : CX RX5 cX5_fits 4 (some .boolean) p s m args meth c G b) {out : Int32 × HP} (Z : ZZ p l e RM_X5_fits s m args below meth c cX5_fits G b False 0 0 Q out)  : ∀ (n : Nat) (a0 : Nat) (x1 : Int32) (x2 : Int32) (h : HP), F_X5_fits_2  n a0 x1 x2 h = some out → ∀ (H : Heap) (locs : List Loc) (ls : Array Slot), ST G b False s h H locs → lv_has ls 4 [(0, .ref (b + a0)), (1, .int x1), (2, .int x2)] → W p l e RM_X5_fits s m args below meth c H locs 0 0 Q (F0 m 2 ls []) := by
  intro n
  induction n with
  | zero => intro a0 x1 x2 h hf; exact nn hf
  | succ n ih => exact w_X5_fits_b2 X Z ih
def f_X5_fits_e  (a0 : Nat) (x1 : Int32) (h : HP) : Option (Int32 × HP) :=
  F_X5_fits_2  FU a0 x1 0 h
set_option maxRecDepth 100000 in
set_option maxHeartbeats 4000000 in
theorem w_X5_fits_e (X : CX RX5 cX5_fits 4 (some .boolean) p s m args meth c G b) {out : Int32 × HP} (Z : ZZ p l e RM_X5_fits s m args below meth c cX5_fits G b False 0 0 Q out)  : ∀ (a0 : Nat) (x1 : Int32) (h : HP), f_X5_fits_e  a0 x1 h = some out → ∀ (H : Heap) (locs : List Loc) (ls : Array Slot), ST G b False s h H locs → lv_has ls 4 [(0, .ref (b + a0)), (1, .int x1)] → W p l e RM_X5_fits s m args below meth c H locs 0 0 Q (F0 m 0 ls []) := by
  intro a0 x1 h hf H locs ls S hl
  unfold f_X5_fits_e at hf
  have hx := X.1
  have hb := X.2.1
  refine lv_iconst (v := 0) hx hb dX5_fits_0 (by decide) ?_
  refine lv_istore_n (lv' := [(2, .int 0), (0, .ref (b + a0)), (1, .int x1)]) hx hb dX5_fits_1 rfl hl (by decide) rfl (fun ls hl => ?_)
  exact wl_X5_fits_2 X Z  FU _ _ _ _ hf _ _ _ S (lv_sub hl [1, 2, 0] rfl)
def f_X5_fits (a0 : Nat) (x1 : Int32) (h : HP) : Option (Int32 × HP) := ck h a0 5 (f_X5_fits_e a0 x1 h)
theorem o_X5_fits {a0 : Nat} {x1 : Int32} {h : HP} {out : Int32 × HP} (hf : f_X5_fits a0 x1 h = some out) : ∃ fs, h[a0]? = some (.inl (5, fs)) := (ck_spec hf).1
set_option maxRecDepth 100000 in
theorem c_X5_fits {l : Launch} {G : GT} {b : Nat} {a0 : Nat} {x1 : Int32} {h : HP} {out : Int32 × HP} (hf : f_X5_fits a0 x1 h = some out) : MT l G b False False yX5_fits cX5_fits 4 (some .boolean) RM_X5_fits [.ref (b + a0), .int x1] h (some (.int out.1)) out.2 0 0 := by
  refine met_of (by decide) (Nat.le_of_ble_eq_true rfl) ?_
  intro p e s m below meth c ls X hnm S hl
  have hl : lv_has ls 4 [(0, .ref (b + a0)), (1, .int x1)] := hl
  replace hf := (ck_spec hf).2
  exact w_X5_fits_e X (z_zz X) _ _ _ hf _ _ _ S hl
/-! RoomRings$Notebook.fitting(LRoomRings$Dealing;I)I -/
abbrev RM_X5_fitting : Room := { frames := 2, cells := 0, slots := 0, locals := 44 }
def f_X5_fitting_b31 (K5 : Nat → Nat → Int32 → Int32 → Int32 → HP → Option (Int32 × HP)) (a0 : Nat) (a1 : Nat) (x2 : Int32) (x3 : Int32) (x4 : Int32) (h : HP) : Option (Int32 × HP) :=
  K5 a0 a1 x2 x3 (x4 + 1) h
set_option maxRecDepth 100000 in
set_option maxHeartbeats 4000000 in
theorem w_X5_fitting_b31 (X : CX RX5 cX5_fitting 5 (some .int) p s m args meth c G b) {out : Int32 × HP} (Z : ZI p l e RM_X5_fitting s m args below meth c cX5_fitting G b False 0 0 Q out) {K5 : Nat → Nat → Int32 → Int32 → Int32 → HP → Option (Int32 × HP)} (hK5 : ∀ (a0 : Nat) (a1 : Nat) (x2 : Int32) (x3 : Int32) (x4 : Int32) (h : HP), K5 a0 a1 x2 x3 x4 h = some out → ∀ (H : Heap) (locs : List Loc) (ls : Array Slot), ST G b False s h H locs → lv_has ls 5 [(0, .ref (b + a0)), (1, .ref (b + a1)), (2, .int x2), (3, .int x3), (4, .int x4)] → W p l e RM_X5_fitting s m args below meth c H locs 0 0 Q (F0 m 5 ls [])) : ∀ (a0 : Nat) (a1 : Nat) (x2 : Int32) (x3 : Int32) (x4 : Int32) (h : HP), f_X5_fitting_b31 K5 a0 a1 x2 x3 x4 h = some out → ∀ (H : Heap) (locs : List Loc) (ls : Array Slot), ST G b False s h H locs → lv_has ls 5 [(0, .ref (b + a0)), (1, .ref (b + a1)), (2, .int x2), (3, .int x3), (4, .int x4)] → W p l e RM_X5_fitting s m args below meth c H locs 0 0 Q (F0 m 31 ls []) := by
  intro a0 a1 x2 x3 x4 h hf H locs ls S hl
  unfold f_X5_fitting_b31 at hf
  have hx := X.1
  have hb := X.2.1
  refine lv_iinc (v := x4 + 1) (lv' := [(4, .int (x4 + 1)), (0, .ref (b + a0)), (1, .ref (b + a1)), (2, .int x2), (3, .int x3)]) hx hb dX5_fitting_31 hl (k := 4) rfl rfl (by decide) rfl (fun ls hl => ?_)
  refine lv_goto (tgt := 5) hx hb dX5_fitting_34 (by decide) ?_
  exact hK5 _ _ _ _ _ _ hf _ _ _ S (lv_sub hl [1, 2, 3, 4, 0] rfl)
def f_X5_fitting_b5 (K5 : Nat → Nat → Int32 → Int32 → Int32 → HP → Option (Int32 × HP)) (a0 : Nat) (a1 : Nat) (x2 : Int32) (x3 : Int32) (x4 : Int32) (h : HP) : Option (Int32 × HP) :=
  if x2 ≤ x4 then
    some (x3, h)
  else
    (f_X1_roomOf a1 x4 h).bind fun q1 =>
    (f_X5_fits a0 q1.1 q1.2).bind fun q2 =>
    if q2.1 = 0 then
      f_X5_fitting_b31 K5 a0 a1 x2 x3 x4 q2.2
    else
      (f_X8_with x3 x4 q2.2).bind fun q3 =>
      f_X5_fitting_b31 K5 a0 a1 x2 q3.1 x4 q3.2
set_option maxRecDepth 100000 in
set_option maxHeartbeats 4000000 in
theorem w_X5_fitting_b5 (X : CX RX5 cX5_fitting 5 (some .int) p s m args meth c G b) {out : Int32 × HP} (Z : ZI p l e RM_X5_fitting s m args below meth c cX5_fitting G b False 0 0 Q out) {K5 : Nat → Nat → Int32 → Int32 → Int32 → HP → Option (Int32 × HP)} (hK5 : ∀ (a0 : Nat) (a1 : Nat) (x2 : Int32) (x3 : Int32) (x4 : Int32) (h : HP), K5 a0 a1 x2 x3 x4 h = some out → ∀ (H : Heap) (locs : List Loc) (ls : Array Slot), ST G b False s h H locs → lv_has ls 5 [(0, .ref (b + a0)), (1, .ref (b + a1)), (2, .int x2), (3, .int x3), (4, .int x4)] → W p l e RM_X5_fitting s m args below meth c H locs 0 0 Q (F0 m 5 ls [])) : ∀ (a0 : Nat) (a1 : Nat) (x2 : Int32) (x3 : Int32) (x4 : Int32) (h : HP), f_X5_fitting_b5 K5 a0 a1 x2 x3 x4 h = some out → ∀ (H : Heap) (locs : List Loc) (ls : Array Slot), ST G b False s h H locs → lv_has ls 5 [(0, .ref (b + a0)), (1, .ref (b + a1)), (2, .int x2), (3, .int x3), (4, .int x4)] → W p l e RM_X5_fitting s m args below meth c H locs 0 0 Q (F0 m 5 ls []) := by
  intro a0 a1 x2 x3 x4 h hf H locs ls S hl
  unfold f_X5_fitting_b5 at hf
  have hx := X.1
  have hb := X.2.1
  refine lv_iload hx hb dX5_fitting_5 (lv_at hl 4 rfl) ?_
  refine lv_iload_n hx hb dX5_fitting_7 rfl (lv_at hl 2 rfl) ?_
  refine lv_icmp_ge (tgt := 37) hx hb dX5_fitting_8 (by decide) (fun hc => ?_) (fun hc => ?_)
  · replace hf := ip hf hc
    refine lv_iload_n hx hb dX5_fitting_37 rfl (lv_at hl 3 rfl) ?_
    obtain rfl := Option.some.inj hf
    exact Z _ _ _ _ dX5_fitting_38 S
  · replace hf := im hf hc
    refine lv_aload_n hx hb dX5_fitting_11 rfl (lv_at hl 0 rfl) ?_
    refine lv_aload_n hx hb dX5_fitting_12 rfl (lv_at hl 1 rfl) ?_
    refine lv_iload hx hb dX5_fitting_13 (lv_at hl 4 rfl) ?_
    obtain ⟨q1, e_q1, hf⟩ := ob hf
    refine r_callV X S hl.1 (As := [.int x4]) (rest := [.ref (b + a0)]) (c_X1_roomOf e_q1) my_X1_roomOf mv_X1_roomOf ml_X5_36 rfl (o_X1_roomOf e_q1) ⟨rfl, rfl, Nat.le_of_ble_eq_true rfl, Nat.le_of_ble_eq_true rfl⟩ rfl rfl (Nat.le_of_ble_eq_true rfl) dX5_fitting_15 ⟨Nat.le_of_ble_eq_true rfl, Nat.le_of_ble_eq_true rfl⟩ (fun H locs S => ?_)
    refine W.eq (g2 := F0 m 18 ls [.int q1.1, .ref (b + a0)]) rfl ?_
    obtain ⟨q2, e_q2, hf⟩ := ob hf
    refine r_callV X S hl.1 (As := [.int q1.1]) (rest := []) (c_X5_fits e_q2) my_X5_fits mv_X5_fits ml_X5_42 rfl (o_X5_fits e_q2) ⟨rfl, rfl, Nat.le_of_ble_eq_true rfl, Nat.le_of_ble_eq_true rfl⟩ rfl rfl (Nat.le_of_ble_eq_true rfl) dX5_fitting_18 ⟨Nat.le_of_ble_eq_true rfl, Nat.le_of_ble_eq_true rfl⟩ (fun H locs S => ?_)
    refine W.eq (g2 := F0 m 21 ls [.int q2.1]) rfl ?_
    refine lv_if_eq (tgt := 31) hx hb dX5_fitting_21 (by decide) (fun hc => ?_) (fun hc => ?_)
    · replace hf := ip hf hc
      exact w_X5_fitting_b31 X Z hK5 _ _ _ _ _ _ hf _ _ _ S (lv_sub hl [0, 1, 2, 3, 4] rfl)
    · replace hf := im hf hc
      refine lv_iload_n hx hb dX5_fitting_24 rfl (lv_at hl 3 rfl) ?_
      refine lv_iload hx hb dX5_fitting_25 (lv_at hl 4 rfl) ?_
      obtain ⟨q3, e_q3, hf⟩ := ob hf
      refine r_callSN X S hl.1 (As := [.int x3, .int x4]) (rest := []) (c_X8_with e_q3) my_X8_with ms_X8_with nl_X5_46 ⟨rfl, rfl, Nat.le_of_ble_eq_true rfl, Nat.le_of_ble_eq_true rfl⟩ rfl rfl (Nat.le_of_ble_eq_true rfl) dX5_fitting_27 ⟨Nat.le_of_ble_eq_true rfl, Nat.le_of_ble_eq_true rfl⟩ (fun H locs S => ?_)
      refine W.eq (g2 := F0 m 30 ls [.int q3.1]) rfl ?_
      refine lv_istore_n (lv' := [(3, .int q3.1), (0, .ref (b + a0)), (1, .ref (b + a1)), (2, .int x2), (4, .int x4)]) hx hb dX5_fitting_30 rfl hl (by decide) rfl (fun ls hl => ?_)
      exact w_X5_fitting_b31 X Z hK5 _ _ _ _ _ _ hf _ _ _ S (lv_sub hl [1, 2, 3, 0, 4] rfl)
def F_X5_fitting_5  : Nat → Nat → Nat → Int32 → Int32 → Int32 → HP → Option (Int32 × HP)
  | 0 => fun _ _ _ _ _ _ => none
  | n + 1 => fun a0 a1 x2 x3 x4 h => f_X5_fitting_b5 (F_X5_fitting_5  n) a0 a1 x2 x3 x4 h
theorem wl_X5_fitting_5 (X : CX RX5 cX5_fitting 5 (some .int) p s m args meth c G b) {out : Int32 × HP} (Z : ZI p l e RM_X5_fitting s m args below meth c cX5_fitting G b False 0 0 Q out)  : ∀ (n : Nat) (a0 : Nat) (a1 : Nat) (x2 : Int32) (x3 : Int32) (x4 : Int32) (h : HP), F_X5_fitting_5  n a0 a1 x2 x3 x4 h = some out → ∀ (H : Heap) (locs : List Loc) (ls : Array Slot), ST G b False s h H locs → lv_has ls 5 [(0, .ref (b + a0)), (1, .ref (b + a1)), (2, .int x2), (3, .int x3), (4, .int x4)] → W p l e RM_X5_fitting s m args below meth c H locs 0 0 Q (F0 m 5 ls []) := by
  intro n
  induction n with
  | zero => intro a0 a1 x2 x3 x4 h hf; exact nn hf
  | succ n ih => exact w_X5_fitting_b5 X Z ih
def f_X5_fitting_e  (a0 : Nat) (a1 : Nat) (x2 : Int32) (h : HP) : Option (Int32 × HP) :=
  F_X5_fitting_5  FU a0 a1 x2 0 0 h
set_option maxRecDepth 100000 in
set_option maxHeartbeats 4000000 in
theorem w_X5_fitting_e (X : CX RX5 cX5_fitting 5 (some .int) p s m args meth c G b) {out : Int32 × HP} (Z : ZI p l e RM_X5_fitting s m args below meth c cX5_fitting G b False 0 0 Q out)  : ∀ (a0 : Nat) (a1 : Nat) (x2 : Int32) (h : HP), f_X5_fitting_e  a0 a1 x2 h = some out → ∀ (H : Heap) (locs : List Loc) (ls : Array Slot), ST G b False s h H locs → lv_has ls 5 [(0, .ref (b + a0)), (1, .ref (b + a1)), (2, .int x2)] → W p l e RM_X5_fitting s m args below meth c H locs 0 0 Q (F0 m 0 ls []) := by
  intro a0 a1 x2 h hf H locs ls S hl
  unfold f_X5_fitting_e at hf
  have hx := X.1
  have hb := X.2.1
  refine lv_iconst (v := 0) hx hb dX5_fitting_0 (by decide) ?_
  refine lv_istore_n (lv' := [(3, .int 0), (0, .ref (b + a0)), (1, .ref (b + a1)), (2, .int x2)]) hx hb dX5_fitting_1 rfl hl (by decide) rfl (fun ls hl => ?_)
  refine lv_iconst (v := 0) hx hb dX5_fitting_2 (by decide) ?_
  refine lv_istore (lv' := [(4, .int 0), (3, .int 0), (0, .ref (b + a0)), (1, .ref (b + a1)), (2, .int x2)]) hx hb dX5_fitting_3 hl (by decide) rfl (fun ls hl => ?_)
  exact wl_X5_fitting_5 X Z  FU _ _ _ _ _ _ hf _ _ _ S (lv_sub hl [2, 3, 4, 1, 0] rfl)
def f_X5_fitting (a0 : Nat) (a1 : Nat) (x2 : Int32) (h : HP) : Option (Int32 × HP) := ck h a0 5 (f_X5_fitting_e a0 a1 x2 h)
theorem o_X5_fitting {a0 : Nat} {a1 : Nat} {x2 : Int32} {h : HP} {out : Int32 × HP} (hf : f_X5_fitting a0 a1 x2 h = some out) : ∃ fs, h[a0]? = some (.inl (5, fs)) := (ck_spec hf).1
set_option maxRecDepth 100000 in
theorem c_X5_fitting {l : Launch} {G : GT} {b : Nat} {a0 : Nat} {a1 : Nat} {x2 : Int32} {h : HP} {out : Int32 × HP} (hf : f_X5_fitting a0 a1 x2 h = some out) : MT l G b False False yX5_fitting cX5_fitting 5 (some .int) RM_X5_fitting [.ref (b + a0), .ref (b + a1), .int x2] h (some (.int out.1)) out.2 0 0 := by
  refine met_of (by decide) (Nat.le_of_ble_eq_true rfl) ?_
  intro p e s m below meth c ls X hnm S hl
  have hl : lv_has ls 5 [(0, .ref (b + a0)), (1, .ref (b + a1)), (2, .int x2)] := hl
  replace hf := (ck_spec hf).2
  exact w_X5_fitting_e X (z_i X) _ _ _ _ hf _ _ _ S hl
/-! RoomRings$Notebook.firstWrong(LRoomRings$Dealing;)I -/
abbrev RM_X5_firstWrong : Room := { frames := 2, cells := 0, slots := 0, locals := 42 }
def f_X5_firstWrong_b2 (K2 : Nat → Nat → Int32 → HP → Option (Int32 × HP)) (a0 : Nat) (a1 : Nat) (x2 : Int32) (h : HP) : Option (Int32 × HP) :=
  (gI h a0 5 1).bind fun v1 =>
  if v1 ≤ x2 then
    some ((-1), h)
  else
    (gR h a0 5 4).bind fun r2 =>
    (f_X8_at r2 x2 h).bind fun q3 =>
    (f_X1_roomOf a1 q3.1 q3.2).bind fun q4 =>
    (gR q4.2 a0 5 5).bind fun r5 =>
    (f_X8_at r5 x2 q4.2).bind fun q6 =>
    if q4.1 = q6.1 then
      K2 a0 a1 (x2 + 1) q6.2
    else
      some (x2, q6.2)
set_option maxRecDepth 100000 in
set_option maxHeartbeats 4000000 in
theorem w_X5_firstWrong_b2 (X : CX RX5 cX5_firstWrong 3 (some .int) p s m args meth c G b) {out : Int32 × HP} (Z : ZI p l e RM_X5_firstWrong s m args below meth c cX5_firstWrong G b False 0 0 Q out) {K2 : Nat → Nat → Int32 → HP → Option (Int32 × HP)} (hK2 : ∀ (a0 : Nat) (a1 : Nat) (x2 : Int32) (h : HP), K2 a0 a1 x2 h = some out → ∀ (H : Heap) (locs : List Loc) (ls : Array Slot), ST G b False s h H locs → lv_has ls 3 [(0, .ref (b + a0)), (1, .ref (b + a1)), (2, .int x2)] → W p l e RM_X5_firstWrong s m args below meth c H locs 0 0 Q (F0 m 2 ls [])) : ∀ (a0 : Nat) (a1 : Nat) (x2 : Int32) (h : HP), f_X5_firstWrong_b2 K2 a0 a1 x2 h = some out → ∀ (H : Heap) (locs : List Loc) (ls : Array Slot), ST G b False s h H locs → lv_has ls 3 [(0, .ref (b + a0)), (1, .ref (b + a1)), (2, .int x2)] → W p l e RM_X5_firstWrong s m args below meth c H locs 0 0 Q (F0 m 2 ls []) := by
  intro a0 a1 x2 h hf H locs ls S hl
  unfold f_X5_firstWrong_b2 at hf
  have hx := X.1
  have hb := X.2.1
  refine lv_iload_n hx hb dX5_firstWrong_2 rfl (lv_at hl 2 rfl) ?_
  refine lv_aload_n hx hb dX5_firstWrong_3 rfl (lv_at hl 0 rfl) ?_
  obtain ⟨v1, e_v1, hf⟩ := ob hf
  refine r_getI X S fl_X5_28 e_v1 dX5_firstWrong_4 ?_
  refine lv_icmp_ge (tgt := 41) hx hb dX5_firstWrong_7 (by decide) (fun hc => ?_) (fun hc => ?_)
  · replace hf := ip hf hc
    refine lv_iconst (v := (-1)) hx hb dX5_firstWrong_41 (by decide) ?_
    obtain rfl := Option.some.inj hf
    exact Z _ _ _ _ dX5_firstWrong_42 S
  · replace hf := im hf hc
    refine lv_aload_n hx hb dX5_firstWrong_10 rfl (lv_at hl 1 rfl) ?_
    refine lv_aload_n hx hb dX5_firstWrong_11 rfl (lv_at hl 0 rfl) ?_
    obtain ⟨r2, e_r2, hf⟩ := ob hf
    refine r_getR X S fl_X5_18 e_r2 dX5_firstWrong_12 ?_
    refine lv_iload_n hx hb dX5_firstWrong_15 rfl (lv_at hl 2 rfl) ?_
    obtain ⟨q3, e_q3, hf⟩ := ob hf
    refine r_callSN X S hl.1 (As := [.ref (b + r2), .int x2]) (rest := [.ref (b + a1)]) (c_X8_at e_q3) my_X8_at ms_X8_at nl_X5_50 ⟨rfl, rfl, Nat.le_of_ble_eq_true rfl, Nat.le_of_ble_eq_true rfl⟩ rfl rfl (Nat.le_of_ble_eq_true rfl) dX5_firstWrong_16 ⟨Nat.le_of_ble_eq_true rfl, Nat.le_of_ble_eq_true rfl⟩ (fun H locs S => ?_)
    refine W.eq (g2 := F0 m 19 ls [.int q3.1, .ref (b + a1)]) rfl ?_
    obtain ⟨q4, e_q4, hf⟩ := ob hf
    refine r_callV X S hl.1 (As := [.int q3.1]) (rest := []) (c_X1_roomOf e_q4) my_X1_roomOf mv_X1_roomOf ml_X5_36 rfl (o_X1_roomOf e_q4) ⟨rfl, rfl, Nat.le_of_ble_eq_true rfl, Nat.le_of_ble_eq_true rfl⟩ rfl rfl (Nat.le_of_ble_eq_true rfl) dX5_firstWrong_19 ⟨Nat.le_of_ble_eq_true rfl, Nat.le_of_ble_eq_true rfl⟩ (fun H locs S => ?_)
    refine W.eq (g2 := F0 m 22 ls [.int q4.1]) rfl ?_
    refine lv_aload_n hx hb dX5_firstWrong_22 rfl (lv_at hl 0 rfl) ?_
    obtain ⟨r5, e_r5, hf⟩ := ob hf
    refine r_getR X S fl_X5_21 e_r5 dX5_firstWrong_23 ?_
    refine lv_iload_n hx hb dX5_firstWrong_26 rfl (lv_at hl 2 rfl) ?_
    obtain ⟨q6, e_q6, hf⟩ := ob hf
    refine r_callSN X S hl.1 (As := [.ref (b + r5), .int x2]) (rest := [.int q4.1]) (c_X8_at e_q6) my_X8_at ms_X8_at nl_X5_50 ⟨rfl, rfl, Nat.le_of_ble_eq_true rfl, Nat.le_of_ble_eq_true rfl⟩ rfl rfl (Nat.le_of_ble_eq_true rfl) dX5_firstWrong_27 ⟨Nat.le_of_ble_eq_true rfl, Nat.le_of_ble_eq_true rfl⟩ (fun H locs S => ?_)
    refine W.eq (g2 := F0 m 30 ls [.int q6.1, .int q4.1]) rfl ?_
    refine lv_icmp_eq (tgt := 35) hx hb dX5_firstWrong_30 (by decide) (fun hc => ?_) (fun hc => ?_)
    · replace hf := ip hf hc
      refine lv_iinc (v := x2 + 1) (lv' := [(2, .int (x2 + 1)), (0, .ref (b + a0)), (1, .ref (b + a1))]) hx hb dX5_firstWrong_35 hl (k := 2) rfl rfl (by decide) rfl (fun ls hl => ?_)
      refine lv_goto (tgt := 2) hx hb dX5_firstWrong_38 (by decide) ?_
      exact hK2 _ _ _ _ hf _ _ _ S (lv_sub hl [1, 2, 0] rfl)
    · replace hf := im hf hc
      refine lv_iload_n hx hb dX5_firstWrong_33 rfl (lv_at hl 2 rfl) ?_
      obtain rfl := Option.some.inj hf
      exact Z _ _ _ _ dX5_firstWrong_34 S
def F_X5_firstWrong_2  : Nat → Nat → Nat → Int32 → HP → Option (Int32 × HP)
  | 0 => fun _ _ _ _ => none
  | n + 1 => fun a0 a1 x2 h => f_X5_firstWrong_b2 (F_X5_firstWrong_2  n) a0 a1 x2 h
theorem wl_X5_firstWrong_2 (X : CX RX5 cX5_firstWrong 3 (some .int) p s m args meth c G b) {out : Int32 × HP} (Z : ZI p l e RM_X5_firstWrong s m args below meth c cX5_firstWrong G b False 0 0 Q out)  : ∀ (n : Nat) (a0 : Nat) (a1 : Nat) (x2 : Int32) (h : HP), F_X5_firstWrong_2  n a0 a1 x2 h = some out → ∀ (H : Heap) (locs : List Loc) (ls : Array Slot), ST G b False s h H locs → lv_has ls 3 [(0, .ref (b + a0)), (1, .ref (b + a1)), (2, .int x2)] → W p l e RM_X5_firstWrong s m args below meth c H locs 0 0 Q (F0 m 2 ls []) := by
  intro n
  induction n with
  | zero => intro a0 a1 x2 h hf; exact nn hf
  | succ n ih => exact w_X5_firstWrong_b2 X Z ih
def f_X5_firstWrong_e  (a0 : Nat) (a1 : Nat) (h : HP) : Option (Int32 × HP) :=
  F_X5_firstWrong_2  FU a0 a1 0 h
set_option maxRecDepth 100000 in
set_option maxHeartbeats 4000000 in
theorem w_X5_firstWrong_e (X : CX RX5 cX5_firstWrong 3 (some .int) p s m args meth c G b) {out : Int32 × HP} (Z : ZI p l e RM_X5_firstWrong s m args below meth c cX5_firstWrong G b False 0 0 Q out)  : ∀ (a0 : Nat) (a1 : Nat) (h : HP), f_X5_firstWrong_e  a0 a1 h = some out → ∀ (H : Heap) (locs : List Loc) (ls : Array Slot), ST G b False s h H locs → lv_has ls 3 [(0, .ref (b + a0)), (1, .ref (b + a1))] → W p l e RM_X5_firstWrong s m args below meth c H locs 0 0 Q (F0 m 0 ls []) := by
  intro a0 a1 h hf H locs ls S hl
  unfold f_X5_firstWrong_e at hf
  have hx := X.1
  have hb := X.2.1
  refine lv_iconst (v := 0) hx hb dX5_firstWrong_0 (by decide) ?_
  refine lv_istore_n (lv' := [(2, .int 0), (0, .ref (b + a0)), (1, .ref (b + a1))]) hx hb dX5_firstWrong_1 rfl hl (by decide) rfl (fun ls hl => ?_)
  exact wl_X5_firstWrong_2 X Z  FU _ _ _ _ hf _ _ _ S (lv_sub hl [1, 2, 0] rfl)
def f_X5_firstWrong (a0 : Nat) (a1 : Nat) (h : HP) : Option (Int32 × HP) := ck h a0 5 (f_X5_firstWrong_e a0 a1 h)
theorem o_X5_firstWrong {a0 : Nat} {a1 : Nat} {h : HP} {out : Int32 × HP} (hf : f_X5_firstWrong a0 a1 h = some out) : ∃ fs, h[a0]? = some (.inl (5, fs)) := (ck_spec hf).1
set_option maxRecDepth 100000 in
theorem c_X5_firstWrong {l : Launch} {G : GT} {b : Nat} {a0 : Nat} {a1 : Nat} {h : HP} {out : Int32 × HP} (hf : f_X5_firstWrong a0 a1 h = some out) : MT l G b False False yX5_firstWrong cX5_firstWrong 3 (some .int) RM_X5_firstWrong [.ref (b + a0), .ref (b + a1)] h (some (.int out.1)) out.2 0 0 := by
  refine met_of (by decide) (Nat.le_of_ble_eq_true rfl) ?_
  intro p e s m below meth c ls X hnm S hl
  have hl : lv_has ls 3 [(0, .ref (b + a0)), (1, .ref (b + a1))] := hl
  replace hf := (ck_spec hf).2
  exact w_X5_firstWrong_e X (z_i X) _ _ _ hf _ _ _ S hl
end M04
