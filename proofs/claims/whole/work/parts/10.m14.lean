section M14
variable {p : Program} {l : Launch} {e : Env} {s : State} {m : MethodId} {args : Array Value} {below : List Frame} {meth : Method} {c : Code} {Q : State → Prop} {G : GT} {b : Nat}
/-! RoomRingsModel.firstByLots(I)I -/
abbrev RM_X9_firstByLots : Room := { frames := 1, cells := 0, slots := 0, locals := 21 }
def f_X9_firstByLots_b2 (K2 : Nat → Int32 → Int32 → HP → Option (Int32 × HP)) (a0 : Nat) (x1 : Int32) (x2 : Int32) (h : HP) : Option (Int32 × HP) :=
  (gI h a0 9 2).bind fun v1 =>
  if v1 ≤ x2 then
    some ((-1), h)
  else
    (gI h a0 9 25).bind fun v2 =>
    (gR h a0 9 0).bind fun r3 =>
    (ald h r3 ((x1 + 60) + x2)).bind fun v4 =>
    (f_X9_has v2 v4 h).bind fun q5 =>
    if q5.1 = 0 then
      K2 a0 x1 (x2 + 1) q5.2
    else
      (gR q5.2 a0 9 0).bind fun r6 =>
      (ald q5.2 r6 ((x1 + 60) + x2)).bind fun v7 =>
      some (v7, q5.2)
set_option maxRecDepth 100000 in
set_option maxHeartbeats 4000000 in
theorem w_X9_firstByLots_b2 (X : CX RX9 cX9_firstByLots 3 (some .int) p s m args meth c G b) {out : Int32 × HP} (Z : ZI p l e RM_X9_firstByLots s m args below meth c cX9_firstByLots G b False 0 0 Q out) {K2 : Nat → Int32 → Int32 → HP → Option (Int32 × HP)} (hK2 : ∀ (a0 : Nat) (x1 : Int32) (x2 : Int32) (h : HP), K2 a0 x1 x2 h = some out → ∀ (H : Heap) (locs : List Loc) (ls : Array Slot), ST G b False s h H locs → lv_has ls 3 [(0, .ref (b + a0)), (1, .int x1), (2, .int x2)] → W p l e RM_X9_firstByLots s m args below meth c H locs 0 0 Q (F0 m 2 ls [])) : ∀ (a0 : Nat) (x1 : Int32) (x2 : Int32) (h : HP), f_X9_firstByLots_b2 K2 a0 x1 x2 h = some out → ∀ (H : Heap) (locs : List Loc) (ls : Array Slot), ST G b False s h H locs → lv_has ls 3 [(0, .ref (b + a0)), (1, .int x1), (2, .int x2)] → W p l e RM_X9_firstByLots s m args below meth c H locs 0 0 Q (F0 m 2 ls []) := by
  intro a0 x1 x2 h hf H locs ls S hl
  unfold f_X9_firstByLots_b2 at hf
  have hx := X.1
  have hb := X.2.1
  refine lv_iload_n hx hb dX9_firstByLots_2 rfl (lv_at hl 2 rfl) ?_
  refine lv_aload_n hx hb dX9_firstByLots_3 rfl (lv_at hl 0 rfl) ?_
  obtain ⟨v1, e_v1, hf⟩ := ob hf
  refine r_getI X S fl_X9_51 e_v1 dX9_firstByLots_4 ?_
  refine lv_icmp_ge (tgt := 49) hx hb dX9_firstByLots_7 (by decide) (fun hc => ?_) (fun hc => ?_)
  · replace hf := ip hf hc
    refine lv_iconst (v := (-1)) hx hb dX9_firstByLots_49 (by decide) ?_
    obtain rfl := Option.some.inj hf
    exact Z _ _ _ _ dX9_firstByLots_50 S
  · replace hf := im hf hc
    refine lv_aload_n hx hb dX9_firstByLots_10 rfl (lv_at hl 0 rfl) ?_
    obtain ⟨v2, e_v2, hf⟩ := ob hf
    refine r_getI X S fl_X9_138 e_v2 dX9_firstByLots_11 ?_
    refine lv_aload_n hx hb dX9_firstByLots_14 rfl (lv_at hl 0 rfl) ?_
    obtain ⟨r3, e_r3, hf⟩ := ob hf
    refine r_getR X S fl_X9_7 e_r3 dX9_firstByLots_15 ?_
    refine lv_iload_n hx hb dX9_firstByLots_18 rfl (lv_at hl 1 rfl) ?_
    refine lv_bipush (v := 60) hx hb dX9_firstByLots_19 (by decide) ?_
    refine lv_iadd hx hb dX9_firstByLots_21 ?_
    refine lv_iload_n hx hb dX9_firstByLots_22 rfl (lv_at hl 2 rfl) ?_
    refine lv_iadd hx hb dX9_firstByLots_23 ?_
    obtain ⟨v4, e_v4, hf⟩ := ob hf
    refine r_ald X S e_v4 dX9_firstByLots_24 ?_
    obtain ⟨q5, e_q5, hf⟩ := ob hf
    refine r_callS X S hl.1 (As := [.int v2, .int v4]) (rest := []) (c_X9_has e_q5) my_X9_has ms_X9_has ml_X9_134 ⟨rfl, rfl, Nat.le_of_ble_eq_true rfl, Nat.le_of_ble_eq_true rfl⟩ rfl rfl (Nat.le_of_ble_eq_true rfl) dX9_firstByLots_25 ⟨Nat.le_of_ble_eq_true rfl, Nat.le_of_ble_eq_true rfl⟩ (fun H locs S => ?_)
    refine W.eq (g2 := F0 m 28 ls [.int q5.1]) rfl ?_
    refine lv_if_eq (tgt := 43) hx hb dX9_firstByLots_28 (by decide) (fun hc => ?_) (fun hc => ?_)
    · replace hf := ip hf hc
      refine lv_iinc (v := x2 + 1) (lv' := [(2, .int (x2 + 1)), (0, .ref (b + a0)), (1, .int x1)]) hx hb dX9_firstByLots_43 hl (k := 2) rfl rfl (by decide) rfl (fun ls hl => ?_)
      refine lv_goto (tgt := 2) hx hb dX9_firstByLots_46 (by decide) ?_
      exact hK2 _ _ _ _ hf _ _ _ S (lv_sub hl [1, 2, 0] rfl)
    · replace hf := im hf hc
      refine lv_aload_n hx hb dX9_firstByLots_31 rfl (lv_at hl 0 rfl) ?_
      obtain ⟨r6, e_r6, hf⟩ := ob hf
      refine r_getR X S fl_X9_7 e_r6 dX9_firstByLots_32 ?_
      refine lv_iload_n hx hb dX9_firstByLots_35 rfl (lv_at hl 1 rfl) ?_
      refine lv_bipush (v := 60) hx hb dX9_firstByLots_36 (by decide) ?_
      refine lv_iadd hx hb dX9_firstByLots_38 ?_
      refine lv_iload_n hx hb dX9_firstByLots_39 rfl (lv_at hl 2 rfl) ?_
      refine lv_iadd hx hb dX9_firstByLots_40 ?_
      obtain ⟨v7, e_v7, hf⟩ := ob hf
      refine r_ald X S e_v7 dX9_firstByLots_41 ?_
      obtain rfl := Option.some.inj hf
      exact Z _ _ _ _ dX9_firstByLots_42 S
def F_X9_firstByLots_2  : Nat → Nat → Int32 → Int32 → HP → Option (Int32 × HP)
  | 0 => fun _ _ _ _ => none
  | n + 1 => fun a0 x1 x2 h => f_X9_firstByLots_b2 (F_X9_firstByLots_2  n) a0 x1 x2 h
theorem wl_X9_firstByLots_2 (X : CX RX9 cX9_firstByLots 3 (some .int) p s m args meth c G b) {out : Int32 × HP} (Z : ZI p l e RM_X9_firstByLots s m args below meth c cX9_firstByLots G b False 0 0 Q out)  : ∀ (n : Nat) (a0 : Nat) (x1 : Int32) (x2 : Int32) (h : HP), F_X9_firstByLots_2  n a0 x1 x2 h = some out → ∀ (H : Heap) (locs : List Loc) (ls : Array Slot), ST G b False s h H locs → lv_has ls 3 [(0, .ref (b + a0)), (1, .int x1), (2, .int x2)] → W p l e RM_X9_firstByLots s m args below meth c H locs 0 0 Q (F0 m 2 ls []) := by
  intro n
  induction n with
  | zero => intro a0 x1 x2 h hf; exact nn hf
  | succ n ih => exact w_X9_firstByLots_b2 X Z ih
def f_X9_firstByLots_e  (a0 : Nat) (x1 : Int32) (h : HP) : Option (Int32 × HP) :=
  F_X9_firstByLots_2  FU a0 x1 0 h
set_option maxRecDepth 100000 in
set_option maxHeartbeats 4000000 in
theorem w_X9_firstByLots_e (X : CX RX9 cX9_firstByLots 3 (some .int) p s m args meth c G b) {out : Int32 × HP} (Z : ZI p l e RM_X9_firstByLots s m args below meth c cX9_firstByLots G b False 0 0 Q out)  : ∀ (a0 : Nat) (x1 : Int32) (h : HP), f_X9_firstByLots_e  a0 x1 h = some out → ∀ (H : Heap) (locs : List Loc) (ls : Array Slot), ST G b False s h H locs → lv_has ls 3 [(0, .ref (b + a0)), (1, .int x1)] → W p l e RM_X9_firstByLots s m args below meth c H locs 0 0 Q (F0 m 0 ls []) := by
  intro a0 x1 h hf H locs ls S hl
  unfold f_X9_firstByLots_e at hf
  have hx := X.1
  have hb := X.2.1
  refine lv_iconst (v := 0) hx hb dX9_firstByLots_0 (by decide) ?_
  refine lv_istore_n (lv' := [(2, .int 0), (0, .ref (b + a0)), (1, .int x1)]) hx hb dX9_firstByLots_1 rfl hl (by decide) rfl (fun ls hl => ?_)
  exact wl_X9_firstByLots_2 X Z  FU _ _ _ _ hf _ _ _ S (lv_sub hl [1, 2, 0] rfl)
def f_X9_firstByLots (a0 : Nat) (x1 : Int32) (h : HP) : Option (Int32 × HP) := ck h a0 9 (f_X9_firstByLots_e a0 x1 h)
theorem o_X9_firstByLots {a0 : Nat} {x1 : Int32} {h : HP} {out : Int32 × HP} (hf : f_X9_firstByLots a0 x1 h = some out) : ∃ fs, h[a0]? = some (.inl (9, fs)) := (ck_spec hf).1
set_option maxRecDepth 100000 in
theorem c_X9_firstByLots {l : Launch} {G : GT} {b : Nat} {a0 : Nat} {x1 : Int32} {h : HP} {out : Int32 × HP} (hf : f_X9_firstByLots a0 x1 h = some out) : MT l G b False False yX9_firstByLots cX9_firstByLots 3 (some .int) RM_X9_firstByLots [.ref (b + a0), .int x1] h (some (.int out.1)) out.2 0 0 := by
  refine met_of (by decide) (Nat.le_of_ble_eq_true rfl) ?_
  intro p e s m below meth c ls X hnm S hl
  have hl : lv_has ls 3 [(0, .ref (b + a0)), (1, .int x1)] := hl
  replace hf := (ck_spec hf).2
  exact w_X9_firstByLots_e X (z_i X) _ _ _ hf _ _ _ S hl
/-! RoomRingsModel.pointsAt(II)I -/
abbrev RM_X9_pointsAt : Room := { frames := 2, cells := 0, slots := 0, locals := 43 }
def f_X9_pointsAt_b36  (s0 : Int32) (h : HP) : Option (Int32 × HP) :=
  some (s0, h)
set_option maxRecDepth 100000 in
set_option maxHeartbeats 4000000 in
theorem w_X9_pointsAt_b36 (X : CX RX9 cX9_pointsAt 4 (some .int) p s m args meth c G b) {out : Int32 × HP} (Z : ZI p l e RM_X9_pointsAt s m args below meth c cX9_pointsAt G b False 0 0 Q out)  : ∀ (s0 : Int32) (h : HP), f_X9_pointsAt_b36  s0 h = some out → ∀ (H : Heap) (locs : List Loc) (ls : Array Slot), ST G b False s h H locs → lv_has ls 4 [] → W p l e RM_X9_pointsAt s m args below meth c H locs 0 0 Q (F0 m 36 ls [.int s0]) := by
  intro s0 h hf H locs ls S hl
  unfold f_X9_pointsAt_b36 at hf
  have hx := X.1
  have hb := X.2.1
  obtain rfl := Option.some.inj hf
  exact Z _ _ _ _ dX9_pointsAt_36 S
def f_X9_pointsAt_b31  (a0 : Nat) (x1 : Int32) (h : HP) : Option (Int32 × HP) :=
  (f_X9_firstByLots a0 x1 h).bind fun q1 =>
  f_X9_pointsAt_b36  q1.1 q1.2
set_option maxRecDepth 100000 in
set_option maxHeartbeats 4000000 in
theorem w_X9_pointsAt_b31 (X : CX RX9 cX9_pointsAt 4 (some .int) p s m args meth c G b) {out : Int32 × HP} (Z : ZI p l e RM_X9_pointsAt s m args below meth c cX9_pointsAt G b False 0 0 Q out)  : ∀ (a0 : Nat) (x1 : Int32) (h : HP), f_X9_pointsAt_b31  a0 x1 h = some out → ∀ (H : Heap) (locs : List Loc) (ls : Array Slot), ST G b False s h H locs → lv_has ls 4 [(0, .ref (b + a0)), (1, .int x1)] → W p l e RM_X9_pointsAt s m args below meth c H locs 0 0 Q (F0 m 31 ls []) := by
  intro a0 x1 h hf H locs ls S hl
  unfold f_X9_pointsAt_b31 at hf
  have hx := X.1
  have hb := X.2.1
  refine lv_aload_n hx hb dX9_pointsAt_31 rfl (lv_at hl 0 rfl) ?_
  refine lv_iload_n hx hb dX9_pointsAt_32 rfl (lv_at hl 1 rfl) ?_
  obtain ⟨q1, e_q1, hf⟩ := ob hf
  refine r_callV X S hl.1 (As := [.int x1]) (rest := []) (c_X9_firstByLots e_q1) my_X9_firstByLots mv_X9_firstByLots ml_X9_141 rfl (o_X9_firstByLots e_q1) ⟨rfl, rfl, Nat.le_of_ble_eq_true rfl, Nat.le_of_ble_eq_true rfl⟩ rfl rfl (Nat.le_of_ble_eq_true rfl) dX9_pointsAt_33 ⟨Nat.le_of_ble_eq_true rfl, Nat.le_of_ble_eq_true rfl⟩ (fun H locs S => ?_)
  refine W.eq (g2 := F0 m 36 ls [.int q1.1]) rfl ?_
  exact w_X9_pointsAt_b36 X Z  _ _ hf _ _ _ S (lv_sub hl [] rfl)
def f_X9_pointsAt_e  (a0 : Nat) (x1 : Int32) (x2 : Int32) (h : HP) : Option (Int32 × HP) :=
  (gI h a0 9 2).bind fun v1 =>
  (f_X9_sitterIn a0 x1 v1 x2 h).bind fun q2 =>
  if q2.1 = (-1) then
    f_X9_pointsAt_b31  a0 x1 q2.2
  else
    (gI q2.2 a0 9 25).bind fun v3 =>
    (f_X9_has v3 q2.1 q2.2).bind fun q4 =>
    if q4.1 = 0 then
      f_X9_pointsAt_b31  a0 x1 q4.2
    else
      f_X9_pointsAt_b36  q2.1 q4.2
set_option maxRecDepth 100000 in
set_option maxHeartbeats 4000000 in
theorem w_X9_pointsAt_e (X : CX RX9 cX9_pointsAt 4 (some .int) p s m args meth c G b) {out : Int32 × HP} (Z : ZI p l e RM_X9_pointsAt s m args below meth c cX9_pointsAt G b False 0 0 Q out)  : ∀ (a0 : Nat) (x1 : Int32) (x2 : Int32) (h : HP), f_X9_pointsAt_e  a0 x1 x2 h = some out → ∀ (H : Heap) (locs : List Loc) (ls : Array Slot), ST G b False s h H locs → lv_has ls 4 [(0, .ref (b + a0)), (1, .int x1), (2, .int x2)] → W p l e RM_X9_pointsAt s m args below meth c H locs 0 0 Q (F0 m 0 ls []) := by
  intro a0 x1 x2 h hf H locs ls S hl
  unfold f_X9_pointsAt_e at hf
  have hx := X.1
  have hb := X.2.1
  refine lv_aload_n hx hb dX9_pointsAt_0 rfl (lv_at hl 0 rfl) ?_
  refine lv_iload_n hx hb dX9_pointsAt_1 rfl (lv_at hl 1 rfl) ?_
  refine lv_aload_n hx hb dX9_pointsAt_2 rfl (lv_at hl 0 rfl) ?_
  obtain ⟨v1, e_v1, hf⟩ := ob hf
  refine r_getI X S fl_X9_51 e_v1 dX9_pointsAt_3 ?_
  refine lv_iload_n hx hb dX9_pointsAt_6 rfl (lv_at hl 2 rfl) ?_
  obtain ⟨q2, e_q2, hf⟩ := ob hf
  refine r_callV X S hl.1 (As := [.int x1, .int v1, .int x2]) (rest := []) (c_X9_sitterIn e_q2) my_X9_sitterIn mv_X9_sitterIn ml_X9_104 rfl (o_X9_sitterIn e_q2) ⟨rfl, rfl, Nat.le_of_ble_eq_true rfl, Nat.le_of_ble_eq_true rfl⟩ rfl rfl (Nat.le_of_ble_eq_true rfl) dX9_pointsAt_7 ⟨Nat.le_of_ble_eq_true rfl, Nat.le_of_ble_eq_true rfl⟩ (fun H locs S => ?_)
  refine W.eq (g2 := F0 m 10 ls [.int q2.1]) rfl ?_
  refine lv_istore_n (lv' := [(3, .int q2.1), (0, .ref (b + a0)), (1, .int x1), (2, .int x2)]) hx hb dX9_pointsAt_10 rfl hl (by decide) rfl (fun ls hl => ?_)
  refine lv_iload_n hx hb dX9_pointsAt_11 rfl (lv_at hl 0 rfl) ?_
  refine lv_iconst (v := (-1)) hx hb dX9_pointsAt_12 (by decide) ?_
  refine lv_icmp_eq (tgt := 31) hx hb dX9_pointsAt_13 (by decide) (fun hc => ?_) (fun hc => ?_)
  · replace hf := ip hf hc
    exact w_X9_pointsAt_b31 X Z  _ _ _ hf _ _ _ S (lv_sub hl [1, 2] rfl)
  · replace hf := im hf hc
    refine lv_aload_n hx hb dX9_pointsAt_16 rfl (lv_at hl 1 rfl) ?_
    obtain ⟨v3, e_v3, hf⟩ := ob hf
    refine r_getI X S fl_X9_138 e_v3 dX9_pointsAt_17 ?_
    refine lv_iload_n hx hb dX9_pointsAt_20 rfl (lv_at hl 0 rfl) ?_
    obtain ⟨q4, e_q4, hf⟩ := ob hf
    refine r_callS X S hl.1 (As := [.int v3, .int q2.1]) (rest := []) (c_X9_has e_q4) my_X9_has ms_X9_has ml_X9_134 ⟨rfl, rfl, Nat.le_of_ble_eq_true rfl, Nat.le_of_ble_eq_true rfl⟩ rfl rfl (Nat.le_of_ble_eq_true rfl) dX9_pointsAt_21 ⟨Nat.le_of_ble_eq_true rfl, Nat.le_of_ble_eq_true rfl⟩ (fun H locs S => ?_)
    refine W.eq (g2 := F0 m 24 ls [.int q4.1]) rfl ?_
    refine lv_if_eq (tgt := 31) hx hb dX9_pointsAt_24 (by decide) (fun hc => ?_) (fun hc => ?_)
    · replace hf := ip hf hc
      exact w_X9_pointsAt_b31 X Z  _ _ _ hf _ _ _ S (lv_sub hl [1, 2] rfl)
    · replace hf := im hf hc
      refine lv_iload_n hx hb dX9_pointsAt_27 rfl (lv_at hl 0 rfl) ?_
      refine lv_goto (tgt := 36) hx hb dX9_pointsAt_28 (by decide) ?_
      exact w_X9_pointsAt_b36 X Z  _ _ hf _ _ _ S (lv_sub hl [] rfl)
def f_X9_pointsAt (a0 : Nat) (x1 : Int32) (x2 : Int32) (h : HP) : Option (Int32 × HP) := ck h a0 9 (f_X9_pointsAt_e a0 x1 x2 h)
theorem o_X9_pointsAt {a0 : Nat} {x1 : Int32} {x2 : Int32} {h : HP} {out : Int32 × HP} (hf : f_X9_pointsAt a0 x1 x2 h = some out) : ∃ fs, h[a0]? = some (.inl (9, fs)) := (ck_spec hf).1
set_option maxRecDepth 100000 in
theorem c_X9_pointsAt {l : Launch} {G : GT} {b : Nat} {a0 : Nat} {x1 : Int32} {x2 : Int32} {h : HP} {out : Int32 × HP} (hf : f_X9_pointsAt a0 x1 x2 h = some out) : MT l G b False False yX9_pointsAt cX9_pointsAt 4 (some .int) RM_X9_pointsAt [.ref (b + a0), .int x1, .int x2] h (some (.int out.1)) out.2 0 0 := by
  refine met_of (by decide) (Nat.le_of_ble_eq_true rfl) ?_
  intro p e s m below meth c ls X hnm S hl
  have hl : lv_has ls 4 [(0, .ref (b + a0)), (1, .int x1), (2, .int x2)] := hl
  replace hf := (ck_spec hf).2
  exact w_X9_pointsAt_e X (z_i X) _ _ _ _ hf _ _ _ S hl
/-! RoomRingsModel.next(II)I -/
abbrev RM_X9_next : Room := { frames := 3, cells := 0, slots := 0, locals := 66 }
def f_X9_next_e  (a0 : Nat) (x1 : Int32) (x2 : Int32) (h : HP) : Option (Int32 × HP) :=
  (gI h a0 9 26).bind fun v1 =>
  (f_X9_mostOf a0 x1 x2 v1 h).bind fun q2 =>
  (f_X9_pointsAt a0 x1 q2.1 q2.2).bind fun q3 =>
  some (q3.1, q3.2)
set_option maxRecDepth 100000 in
set_option maxHeartbeats 4000000 in
theorem w_X9_next_e (X : CX RX9 cX9_next 3 (some .int) p s m args meth c G b) {out : Int32 × HP} (Z : ZI p l e RM_X9_next s m args below meth c cX9_next G b False 0 0 Q out)  : ∀ (a0 : Nat) (x1 : Int32) (x2 : Int32) (h : HP), f_X9_next_e  a0 x1 x2 h = some out → ∀ (H : Heap) (locs : List Loc) (ls : Array Slot), ST G b False s h H locs → lv_has ls 3 [(0, .ref (b + a0)), (1, .int x1), (2, .int x2)] → W p l e RM_X9_next s m args below meth c H locs 0 0 Q (F0 m 0 ls []) := by
  intro a0 x1 x2 h hf H locs ls S hl
  unfold f_X9_next_e at hf
  have hx := X.1
  have hb := X.2.1
  refine lv_aload_n hx hb dX9_next_0 rfl (lv_at hl 0 rfl) ?_
  refine lv_iload_n hx hb dX9_next_1 rfl (lv_at hl 1 rfl) ?_
  refine lv_aload_n hx hb dX9_next_2 rfl (lv_at hl 0 rfl) ?_
  refine lv_iload_n hx hb dX9_next_3 rfl (lv_at hl 1 rfl) ?_
  refine lv_iload_n hx hb dX9_next_4 rfl (lv_at hl 2 rfl) ?_
  refine lv_aload_n hx hb dX9_next_5 rfl (lv_at hl 0 rfl) ?_
  obtain ⟨v1, e_v1, hf⟩ := ob hf
  refine r_getI X S fl_X9_145 e_v1 dX9_next_6 ?_
  obtain ⟨q2, e_q2, hf⟩ := ob hf
  refine r_callV X S hl.1 (As := [.int x1, .int x2, .int v1]) (rest := [.int x1, .ref (b + a0)]) (c_X9_mostOf e_q2) my_X9_mostOf mv_X9_mostOf ml_X9_148 rfl (o_X9_mostOf e_q2) ⟨rfl, rfl, Nat.le_of_ble_eq_true rfl, Nat.le_of_ble_eq_true rfl⟩ rfl rfl (Nat.le_of_ble_eq_true rfl) dX9_next_9 ⟨Nat.le_of_ble_eq_true rfl, Nat.le_of_ble_eq_true rfl⟩ (fun H locs S => ?_)
  refine W.eq (g2 := F0 m 12 ls [.int q2.1, .int x1, .ref (b + a0)]) rfl ?_
  obtain ⟨q3, e_q3, hf⟩ := ob hf
  refine r_callV X S hl.1 (As := [.int x1, .int q2.1]) (rest := []) (c_X9_pointsAt e_q3) my_X9_pointsAt mv_X9_pointsAt ml_X9_151 rfl (o_X9_pointsAt e_q3) ⟨rfl, rfl, Nat.le_of_ble_eq_true rfl, Nat.le_of_ble_eq_true rfl⟩ rfl rfl (Nat.le_of_ble_eq_true rfl) dX9_next_12 ⟨Nat.le_of_ble_eq_true rfl, Nat.le_of_ble_eq_true rfl⟩ (fun H locs S => ?_)
  refine W.eq (g2 := F0 m 15 ls [.int q3.1]) rfl ?_
  obtain rfl := Option.some.inj hf
  exact Z _ _ _ _ dX9_next_15 S
def f_X9_next (a0 : Nat) (x1 : Int32) (x2 : Int32) (h : HP) : Option (Int32 × HP) := ck h a0 9 (f_X9_next_e a0 x1 x2 h)
theorem o_X9_next {a0 : Nat} {x1 : Int32} {x2 : Int32} {h : HP} {out : Int32 × HP} (hf : f_X9_next a0 x1 x2 h = some out) : ∃ fs, h[a0]? = some (.inl (9, fs)) := (ck_spec hf).1
set_option maxRecDepth 100000 in
theorem c_X9_next {l : Launch} {G : GT} {b : Nat} {a0 : Nat} {x1 : Int32} {x2 : Int32} {h : HP} {out : Int32 × HP} (hf : f_X9_next a0 x1 x2 h = some out) : MT l G b False False yX9_next cX9_next 3 (some .int) RM_X9_next [.ref (b + a0), .int x1, .int x2] h (some (.int out.1)) out.2 0 0 := by
  refine met_of (by decide) (Nat.le_of_ble_eq_true rfl) ?_
  intro p e s m below meth c ls X hnm S hl
  have hl : lv_has ls 3 [(0, .ref (b + a0)), (1, .int x1), (2, .int x2)] := hl
  replace hf := (ck_spec hf).2
  exact w_X9_next_e X (z_i X) _ _ _ _ hf _ _ _ S hl
/-! RoomRingsModel.dropThoseWithout(I)V -/
abbrev RM_X9_dropThoseWithout : Room := { frames := 2, cells := 0, slots := 0, locals := 51 }
def f_X9_dropThoseWithout_b77 (K7 : Nat → Int32 → Int32 → Int32 → HP → Option (HP)) (a0 : Nat) (x1 : Int32) (x2 : Int32) (x3 : Int32) (h : HP) : Option (HP) :=
  K7 a0 x1 x2 (x3 + 1) h
set_option maxRecDepth 100000 in
set_option maxHeartbeats 4000000 in
theorem w_X9_dropThoseWithout_b77 (X : CX RX9 cX9_dropThoseWithout 4 none p s m args meth c G b) {out : HP} (Z : ZV p l e RM_X9_dropThoseWithout s m args below meth c cX9_dropThoseWithout G b False 0 0 Q out) {K7 : Nat → Int32 → Int32 → Int32 → HP → Option (HP)} (hK7 : ∀ (a0 : Nat) (x1 : Int32) (x2 : Int32) (x3 : Int32) (h : HP), K7 a0 x1 x2 x3 h = some out → ∀ (H : Heap) (locs : List Loc) (ls : Array Slot), ST G b False s h H locs → lv_has ls 4 [(0, .ref (b + a0)), (1, .int x1), (2, .int x2), (3, .int x3)] → W p l e RM_X9_dropThoseWithout s m args below meth c H locs 0 0 Q (F0 m 7 ls [])) : ∀ (a0 : Nat) (x1 : Int32) (x2 : Int32) (x3 : Int32) (h : HP), f_X9_dropThoseWithout_b77 K7 a0 x1 x2 x3 h = some out → ∀ (H : Heap) (locs : List Loc) (ls : Array Slot), ST G b False s h H locs → lv_has ls 4 [(0, .ref (b + a0)), (1, .int x1), (2, .int x2), (3, .int x3)] → W p l e RM_X9_dropThoseWithout s m args below meth c H locs 0 0 Q (F0 m 77 ls []) := by
  intro a0 x1 x2 x3 h hf H locs ls S hl
  unfold f_X9_dropThoseWithout_b77 at hf
  have hx := X.1
  have hb := X.2.1
  refine lv_iinc (v := x3 + 1) (lv' := [(3, .int (x3 + 1)), (0, .ref (b + a0)), (1, .int x1), (2, .int x2)]) hx hb dX9_dropThoseWithout_77 hl (k := 3) rfl rfl (by decide) rfl (fun ls hl => ?_)
  refine lv_goto (tgt := 7) hx hb dX9_dropThoseWithout_80 (by decide) ?_
  exact hK7 _ _ _ _ _ hf _ _ _ S (lv_sub hl [1, 2, 3, 0] rfl)
def f_X9_dropThoseWithout_b7 (K7 : Nat → Int32 → Int32 → Int32 → HP → Option (HP)) (a0 : Nat) (x1 : Int32) (x2 : Int32) (x3 : Int32) (h : HP) : Option (HP) :=
  (gI h a0 9 2).bind fun v1 =>
  if v1 ≤ x3 then
    some h
  else
    (f_X9_has x2 x3 h).bind fun q2 =>
    if q2.1 = 0 then
      f_X9_dropThoseWithout_b77 K7 a0 x1 x2 x3 q2.2
    else
      (gI q2.2 a0 9 26).bind fun v3 =>
      (f_X9_mostOf a0 x1 x3 v3 q2.2).bind fun q4 =>
      if q4.1 = (-1) then
        (gI q4.2 a0 9 25).bind fun v5 =>
        (pI q4.2 a0 9 25 (v5 &&& ((1 <<< (x3 &&& 31)) ^^^ (-1)))).bind fun h6 =>
        (gR h6 a0 9 8).bind fun r7 =>
        (ast h6 r7 x3 (-1)).bind fun h8 =>
        (gR h8 a0 9 9).bind fun r9 =>
        (gI h8 a0 9 11).bind fun v10 =>
        (ast h8 r9 x3 v10).bind fun h11 =>
        (gR h11 a0 9 10).bind fun r12 =>
        (ast h11 r12 x3 (1 <<< (x3 &&& 31))).bind fun h13 =>
        f_X9_dropThoseWithout_b77 K7 a0 x1 x2 x3 h13
      else
        f_X9_dropThoseWithout_b77 K7 a0 x1 x2 x3 q4.2
set_option maxRecDepth 100000 in
set_option maxHeartbeats 4000000 in
theorem w_X9_dropThoseWithout_b7 (X : CX RX9 cX9_dropThoseWithout 4 none p s m args meth c G b) {out : HP} (Z : ZV p l e RM_X9_dropThoseWithout s m args below meth c cX9_dropThoseWithout G b False 0 0 Q out) {K7 : Nat → Int32 → Int32 → Int32 → HP → Option (HP)} (hK7 : ∀ (a0 : Nat) (x1 : Int32) (x2 : Int32) (x3 : Int32) (h : HP), K7 a0 x1 x2 x3 h = some out → ∀ (H : Heap) (locs : List Loc) (ls : Array Slot), ST G b False s h H locs → lv_has ls 4 [(0, .ref (b + a0)), (1, .int x1), (2, .int x2), (3, .int x3)] → W p l e RM_X9_dropThoseWithout s m args below meth c H locs 0 0 Q (F0 m 7 ls [])) : ∀ (a0 : Nat) (x1 : Int32) (x2 : Int32) (x3 : Int32) (h : HP), f_X9_dropThoseWithout_b7 K7 a0 x1 x2 x3 h = some out → ∀ (H : Heap) (locs : List Loc) (ls : Array Slot), ST G b False s h H locs → lv_has ls 4 [(0, .ref (b + a0)), (1, .int x1), (2, .int x2), (3, .int x3)] → W p l e RM_X9_dropThoseWithout s m args below meth c H locs 0 0 Q (F0 m 7 ls []) := by
  intro a0 x1 x2 x3 h hf H locs ls S hl
  unfold f_X9_dropThoseWithout_b7 at hf
  have hx := X.1
  have hb := X.2.1
  refine lv_iload_n hx hb dX9_dropThoseWithout_7 rfl (lv_at hl 3 rfl) ?_
  refine lv_aload_n hx hb dX9_dropThoseWithout_8 rfl (lv_at hl 0 rfl) ?_
  obtain ⟨v1, e_v1, hf⟩ := ob hf
  refine r_getI X S fl_X9_51 e_v1 dX9_dropThoseWithout_9 ?_
  refine lv_icmp_ge (tgt := 83) hx hb dX9_dropThoseWithout_12 (by decide) (fun hc => ?_) (fun hc => ?_)
  · replace hf := ip hf hc
    obtain rfl := Option.some.inj hf
    exact Z _ _ _ _ dX9_dropThoseWithout_83 S
  · replace hf := im hf hc
    refine lv_iload_n hx hb dX9_dropThoseWithout_15 rfl (lv_at hl 2 rfl) ?_
    refine lv_iload_n hx hb dX9_dropThoseWithout_16 rfl (lv_at hl 3 rfl) ?_
    obtain ⟨q2, e_q2, hf⟩ := ob hf
    refine r_callS X S hl.1 (As := [.int x2, .int x3]) (rest := []) (c_X9_has e_q2) my_X9_has ms_X9_has ml_X9_134 ⟨rfl, rfl, Nat.le_of_ble_eq_true rfl, Nat.le_of_ble_eq_true rfl⟩ rfl rfl (Nat.le_of_ble_eq_true rfl) dX9_dropThoseWithout_17 ⟨Nat.le_of_ble_eq_true rfl, Nat.le_of_ble_eq_true rfl⟩ (fun H locs S => ?_)
    refine W.eq (g2 := F0 m 20 ls [.int q2.1]) rfl ?_
    refine lv_if_eq (tgt := 77) hx hb dX9_dropThoseWithout_20 (by decide) (fun hc => ?_) (fun hc => ?_)
    · replace hf := ip hf hc
      exact w_X9_dropThoseWithout_b77 X Z hK7 _ _ _ _ _ hf _ _ _ S (lv_sub hl [0, 1, 2, 3] rfl)
    · replace hf := im hf hc
      refine lv_aload_n hx hb dX9_dropThoseWithout_23 rfl (lv_at hl 0 rfl) ?_
      refine lv_iload_n hx hb dX9_dropThoseWithout_24 rfl (lv_at hl 1 rfl) ?_
      refine lv_iload_n hx hb dX9_dropThoseWithout_25 rfl (lv_at hl 3 rfl) ?_
      refine lv_aload_n hx hb dX9_dropThoseWithout_26 rfl (lv_at hl 0 rfl) ?_
      obtain ⟨v3, e_v3, hf⟩ := ob hf
      refine r_getI X S fl_X9_145 e_v3 dX9_dropThoseWithout_27 ?_
      obtain ⟨q4, e_q4, hf⟩ := ob hf
      refine r_callV X S hl.1 (As := [.int x1, .int x3, .int v3]) (rest := []) (c_X9_mostOf e_q4) my_X9_mostOf mv_X9_mostOf ml_X9_148 rfl (o_X9_mostOf e_q4) ⟨rfl, rfl, Nat.le_of_ble_eq_true rfl, Nat.le_of_ble_eq_true rfl⟩ rfl rfl (Nat.le_of_ble_eq_true rfl) dX9_dropThoseWithout_30 ⟨Nat.le_of_ble_eq_true rfl, Nat.le_of_ble_eq_true rfl⟩ (fun H locs S => ?_)
      refine W.eq (g2 := F0 m 33 ls [.int q4.1]) rfl ?_
      refine lv_iconst (v := (-1)) hx hb dX9_dropThoseWithout_33 (by decide) ?_
      refine lv_icmp_ne (tgt := 77) hx hb dX9_dropThoseWithout_34 (by decide) (fun hc => ?_) (fun hc => ?_)
      · replace hf := im hf hc
        exact w_X9_dropThoseWithout_b77 X Z hK7 _ _ _ _ _ hf _ _ _ S (lv_sub hl [0, 1, 2, 3] rfl)
      · replace hf := ip hf hc
        refine lv_aload_n hx hb dX9_dropThoseWithout_37 rfl (lv_at hl 0 rfl) ?_
        refine lv_dup hx hb dX9_dropThoseWithout_38 rfl ?_
        obtain ⟨v5, e_v5, hf⟩ := ob hf
        refine r_getI X S fl_X9_138 e_v5 dX9_dropThoseWithout_39 ?_
        refine lv_iconst (v := 1) hx hb dX9_dropThoseWithout_42 (by decide) ?_
        refine lv_iload_n hx hb dX9_dropThoseWithout_43 rfl (lv_at hl 3 rfl) ?_
        refine lv_ishl hx hb dX9_dropThoseWithout_44 ?_
        refine lv_iconst (v := (-1)) hx hb dX9_dropThoseWithout_45 (by decide) ?_
        refine lv_ixor hx hb dX9_dropThoseWithout_46 ?_
        refine lv_iand hx hb dX9_dropThoseWithout_47 ?_
        obtain ⟨h6, e_h6, hf⟩ := ob hf
        refine r_put X S fp_X9_138 (fun h9 => by cases h9) rfl rfl rfl e_h6 dX9_dropThoseWithout_48 (fun H locs S => ?_)
        refine lv_aload_n hx hb dX9_dropThoseWithout_51 rfl (lv_at hl 0 rfl) ?_
        obtain ⟨r7, e_r7, hf⟩ := ob hf
        refine r_getR X S fl_X9_20 e_r7 dX9_dropThoseWithout_52 ?_
        refine lv_iload_n hx hb dX9_dropThoseWithout_55 rfl (lv_at hl 3 rfl) ?_
        refine lv_iconst (v := (-1)) hx hb dX9_dropThoseWithout_56 (by decide) ?_
        obtain ⟨h8, e_h8, hf⟩ := ob hf
        refine r_ast X S e_h8 dX9_dropThoseWithout_57 (fun H locs S => ?_)
        refine lv_aload_n hx hb dX9_dropThoseWithout_58 rfl (lv_at hl 0 rfl) ?_
        obtain ⟨r9, e_r9, hf⟩ := ob hf
        refine r_getR X S fl_X9_23 e_r9 dX9_dropThoseWithout_59 ?_
        refine lv_iload_n hx hb dX9_dropThoseWithout_62 rfl (lv_at hl 3 rfl) ?_
        refine lv_aload_n hx hb dX9_dropThoseWithout_63 rfl (lv_at hl 0 rfl) ?_
        obtain ⟨v10, e_v10, hf⟩ := ob hf
        refine r_getI X S fl_X9_154 e_v10 dX9_dropThoseWithout_64 ?_
        obtain ⟨h11, e_h11, hf⟩ := ob hf
        refine r_ast X S e_h11 dX9_dropThoseWithout_67 (fun H locs S => ?_)
        refine lv_aload_n hx hb dX9_dropThoseWithout_68 rfl (lv_at hl 0 rfl) ?_
        obtain ⟨r12, e_r12, hf⟩ := ob hf
        refine r_getR X S fl_X9_26 e_r12 dX9_dropThoseWithout_69 ?_
        refine lv_iload_n hx hb dX9_dropThoseWithout_72 rfl (lv_at hl 3 rfl) ?_
        refine lv_iconst (v := 1) hx hb dX9_dropThoseWithout_73 (by decide) ?_
        refine lv_iload_n hx hb dX9_dropThoseWithout_74 rfl (lv_at hl 3 rfl) ?_
        refine lv_ishl hx hb dX9_dropThoseWithout_75 ?_
        obtain ⟨h13, e_h13, hf⟩ := ob hf
        refine r_ast X S e_h13 dX9_dropThoseWithout_76 (fun H locs S => ?_)
        exact w_X9_dropThoseWithout_b77 X Z hK7 _ _ _ _ _ hf _ _ _ S (lv_sub hl [0, 1, 2, 3] rfl)
def F_X9_dropThoseWithout_7  : Nat → Nat → Int32 → Int32 → Int32 → HP → Option (HP)
  | 0 => fun _ _ _ _ _ => none
  | n + 1 => fun a0 x1 x2 x3 h => f_X9_dropThoseWithout_b7 (F_X9_dropThoseWithout_7  n) a0 x1 x2 x3 h
theorem wl_X9_dropThoseWithout_7 (X : CX RX9 cX9_dropThoseWithout 4 none p s m args meth c G b) {out : HP} (Z : ZV p l e RM_X9_dropThoseWithout s m args below meth c cX9_dropThoseWithout G b False 0 0 Q out)  : ∀ (n : Nat) (a0 : Nat) (x1 : Int32) (x2 : Int32) (x3 : Int32) (h : HP), F_X9_dropThoseWithout_7  n a0 x1 x2 x3 h = some out → ∀ (H : Heap) (locs : List Loc) (ls : Array Slot), ST G b False s h H locs → lv_has ls 4 [(0, .ref (b + a0)), (1, .int x1), (2, .int x2), (3, .int x3)] → W p l e RM_X9_dropThoseWithout s m args below meth c H locs 0 0 Q (F0 m 7 ls []) := by
  intro n
  induction n with
  | zero => intro a0 x1 x2 x3 h hf; exact nn hf
  | succ n ih => exact w_X9_dropThoseWithout_b7 X Z ih
def f_X9_dropThoseWithout_e  (a0 : Nat) (x1 : Int32) (h : HP) : Option (HP) :=
  (gI h a0 9 25).bind fun v1 =>
  F_X9_dropThoseWithout_7  FU a0 x1 v1 0 h
set_option maxRecDepth 100000 in
set_option maxHeartbeats 4000000 in
theorem w_X9_dropThoseWithout_e (X : CX RX9 cX9_dropThoseWithout 4 none p s m args meth c G b) {out : HP} (Z : ZV p l e RM_X9_dropThoseWithout s m args below meth c cX9_dropThoseWithout G b False 0 0 Q out)  : ∀ (a0 : Nat) (x1 : Int32) (h : HP), f_X9_dropThoseWithout_e  a0 x1 h = some out → ∀ (H : Heap) (locs : List Loc) (ls : Array Slot), ST G b False s h H locs → lv_has ls 4 [(0, .ref (b + a0)), (1, .int x1)] → W p l e RM_X9_dropThoseWithout s m args below meth c H locs 0 0 Q (F0 m 0 ls []) := by
  intro a0 x1 h hf H locs ls S hl
  unfold f_X9_dropThoseWithout_e at hf
  have hx := X.1
  have hb := X.2.1
  refine lv_aload_n hx hb dX9_dropThoseWithout_0 rfl (lv_at hl 0 rfl) ?_
  obtain ⟨v1, e_v1, hf⟩ := ob hf
  refine r_getI X S fl_X9_138 e_v1 dX9_dropThoseWithout_1 ?_
  refine lv_istore_n (lv' := [(2, .int v1), (0, .ref (b + a0)), (1, .int x1)]) hx hb dX9_dropThoseWithout_4 rfl hl (by decide) rfl (fun ls hl => ?_)
  refine lv_iconst (v := 0) hx hb dX9_dropThoseWithout_5 (by decide) ?_
  refine lv_istore_n (lv' := [(3, .int 0), (2, .int v1), (0, .ref (b + a0)), (1, .int x1)]) hx hb dX9_dropThoseWithout_6 rfl hl (by decide) rfl (fun ls hl => ?_)
  exact wl_X9_dropThoseWithout_7 X Z  FU _ _ _ _ _ hf _ _ _ S (lv_sub hl [2, 3, 1, 0] rfl)
def f_X9_dropThoseWithout (a0 : Nat) (x1 : Int32) (h : HP) : Option (HP) := ck h a0 9 (f_X9_dropThoseWithout_e a0 x1 h)
theorem o_X9_dropThoseWithout {a0 : Nat} {x1 : Int32} {h : HP} {out : HP} (hf : f_X9_dropThoseWithout a0 x1 h = some out) : ∃ fs, h[a0]? = some (.inl (9, fs)) := (ck_spec hf).1
set_option maxRecDepth 100000 in
theorem c_X9_dropThoseWithout {l : Launch} {G : GT} {b : Nat} {a0 : Nat} {x1 : Int32} {h : HP} {out : HP} (hf : f_X9_dropThoseWithout a0 x1 h = some out) : MT l G b False False yX9_dropThoseWithout cX9_dropThoseWithout 4 none RM_X9_dropThoseWithout [.ref (b + a0), .int x1] h none out 0 0 := by
  refine met_of (by decide) (Nat.le_of_ble_eq_true rfl) ?_
  intro p e s m below meth c ls X hnm S hl
  have hl : lv_has ls 4 [(0, .ref (b + a0)), (1, .int x1)] := hl
  replace hf := (ck_spec hf).2
  exact w_X9_dropThoseWithout_e X (z_v X) _ _ _ hf _ _ _ S hl
/-! RoomRingsModel.ringFrom(II)I -/
abbrev RM_X9_ringFrom : Room := { frames := 4, cells := 0, slots := 0, locals := 88 }
def f_X9_ringFrom_b8 (K8 : Nat → Int32 → Int32 → Int32 → Int32 → Int32 → HP → Option (Int32 × HP)) (a0 : Nat) (x1 : Int32) (x2 : Int32) (x3 : Int32) (x4 : Int32) (x5 : Int32) (h : HP) : Option (Int32 × HP) :=
  (gI h a0 9 2).bind fun v1 =>
  if v1 ≤ x5 then
    some (0, h)
  else
    (f_X9_next a0 x1 x4 h).bind fun q2 =>
    if q2.1 = x2 then
      some ((x3 ||| (1 <<< (x4 &&& 31))), q2.2)
    else
      K8 a0 x1 x2 (x3 ||| (1 <<< (x4 &&& 31))) q2.1 (x5 + 1) q2.2
set_option maxRecDepth 100000 in
set_option maxHeartbeats 4000000 in
theorem w_X9_ringFrom_b8 (X : CX RX9 cX9_ringFrom 6 (some .int) p s m args meth c G b) {out : Int32 × HP} (Z : ZI p l e RM_X9_ringFrom s m args below meth c cX9_ringFrom G b False 0 0 Q out) {K8 : Nat → Int32 → Int32 → Int32 → Int32 → Int32 → HP → Option (Int32 × HP)} (hK8 : ∀ (a0 : Nat) (x1 : Int32) (x2 : Int32) (x3 : Int32) (x4 : Int32) (x5 : Int32) (h : HP), K8 a0 x1 x2 x3 x4 x5 h = some out → ∀ (H : Heap) (locs : List Loc) (ls : Array Slot), ST G b False s h H locs → lv_has ls 6 [(0, .ref (b + a0)), (1, .int x1), (2, .int x2), (3, .int x3), (4, .int x4), (5, .int x5)] → W p l e RM_X9_ringFrom s m args below meth c H locs 0 0 Q (F0 m 8 ls [])) : ∀ (a0 : Nat) (x1 : Int32) (x2 : Int32) (x3 : Int32) (x4 : Int32) (x5 : Int32) (h : HP), f_X9_ringFrom_b8 K8 a0 x1 x2 x3 x4 x5 h = some out → ∀ (H : Heap) (locs : List Loc) (ls : Array Slot), ST G b False s h H locs → lv_has ls 6 [(0, .ref (b + a0)), (1, .int x1), (2, .int x2), (3, .int x3), (4, .int x4), (5, .int x5)] → W p l e RM_X9_ringFrom s m args below meth c H locs 0 0 Q (F0 m 8 ls []) := by
  intro a0 x1 x2 x3 x4 x5 h hf H locs ls S hl
  unfold f_X9_ringFrom_b8 at hf
  have hx := X.1
  have hb := X.2.1
  refine lv_iload hx hb dX9_ringFrom_8 (lv_at hl 5 rfl) ?_
  refine lv_aload_n hx hb dX9_ringFrom_10 rfl (lv_at hl 0 rfl) ?_
  obtain ⟨v1, e_v1, hf⟩ := ob hf
  refine r_getI X S fl_X9_51 e_v1 dX9_ringFrom_11 ?_
  refine lv_icmp_ge (tgt := 47) hx hb dX9_ringFrom_14 (by decide) (fun hc => ?_) (fun hc => ?_)
  · replace hf := ip hf hc
    refine lv_iconst (v := 0) hx hb dX9_ringFrom_47 (by decide) ?_
    obtain rfl := Option.some.inj hf
    exact Z _ _ _ _ dX9_ringFrom_48 S
  · replace hf := im hf hc
    refine lv_iload_n hx hb dX9_ringFrom_17 rfl (lv_at hl 3 rfl) ?_
    refine lv_iconst (v := 1) hx hb dX9_ringFrom_18 (by decide) ?_
    refine lv_iload hx hb dX9_ringFrom_19 (lv_at hl 4 rfl) ?_
    refine lv_ishl hx hb dX9_ringFrom_21 ?_
    refine lv_ior hx hb dX9_ringFrom_22 ?_
    refine lv_istore_n (lv' := [(3, .int (x3 ||| (1 <<< (x4 &&& 31)))), (0, .ref (b + a0)), (1, .int x1), (2, .int x2), (4, .int x4), (5, .int x5)]) hx hb dX9_ringFrom_23 rfl hl (by decide) rfl (fun ls hl => ?_)
    refine lv_aload_n hx hb dX9_ringFrom_24 rfl (lv_at hl 1 rfl) ?_
    refine lv_iload_n hx hb dX9_ringFrom_25 rfl (lv_at hl 2 rfl) ?_
    refine lv_iload hx hb dX9_ringFrom_26 (lv_at hl 4 rfl) ?_
    obtain ⟨q2, e_q2, hf⟩ := ob hf
    refine r_callV X S hl.1 (As := [.int x1, .int x4]) (rest := []) (c_X9_next e_q2) my_X9_next mv_X9_next ml_X9_157 rfl (o_X9_next e_q2) ⟨rfl, rfl, Nat.le_of_ble_eq_true rfl, Nat.le_of_ble_eq_true rfl⟩ rfl rfl (Nat.le_of_ble_eq_true rfl) dX9_ringFrom_28 ⟨Nat.le_of_ble_eq_true rfl, Nat.le_of_ble_eq_true rfl⟩ (fun H locs S => ?_)
    refine W.eq (g2 := F0 m 31 ls [.int q2.1]) rfl ?_
    refine lv_istore (lv' := [(4, .int q2.1), (3, .int (x3 ||| (1 <<< (x4 &&& 31)))), (0, .ref (b + a0)), (1, .int x1), (2, .int x2), (5, .int x5)]) hx hb dX9_ringFrom_31 hl (by decide) rfl (fun ls hl => ?_)
    refine lv_iload hx hb dX9_ringFrom_33 (lv_at hl 0 rfl) ?_
    refine lv_iload_n hx hb dX9_ringFrom_35 rfl (lv_at hl 4 rfl) ?_
    refine lv_icmp_ne (tgt := 41) hx hb dX9_ringFrom_36 (by decide) (fun hc => ?_) (fun hc => ?_)
    · replace hf := im hf hc
      refine lv_iinc (v := x5 + 1) (lv' := [(5, .int (x5 + 1)), (4, .int q2.1), (3, .int (x3 ||| (1 <<< (x4 &&& 31)))), (0, .ref (b + a0)), (1, .int x1), (2, .int x2)]) hx hb dX9_ringFrom_41 hl (k := 5) rfl rfl (by decide) rfl (fun ls hl => ?_)
      refine lv_goto (tgt := 8) hx hb dX9_ringFrom_44 (by decide) ?_
      exact hK8 _ _ _ _ _ _ _ hf _ _ _ S (lv_sub hl [3, 4, 5, 2, 1, 0] rfl)
    · replace hf := ip hf hc
      refine lv_iload_n hx hb dX9_ringFrom_39 rfl (lv_at hl 1 rfl) ?_
      obtain rfl := Option.some.inj hf
      exact Z _ _ _ _ dX9_ringFrom_40 S
def F_X9_ringFrom_8  : Nat → Nat → Int32 → Int32 → Int32 → Int32 → Int32 → HP → Option (Int32 × HP)
  | 0 => fun _ _ _ _ _ _ _ => none
  | n + 1 => fun a0 x1 x2 x3 x4 x5 h => f_X9_ringFrom_b8 (F_X9_ringFrom_8  n) a0 x1 x2 x3 x4 x5 h
theorem wl_X9_ringFrom_8 (X : CX RX9 cX9_ringFrom 6 (some .int) p s m args meth c G b) {out : Int32 × HP} (Z : ZI p l e RM_X9_ringFrom s m args below meth c cX9_ringFrom G b False 0 0 Q out)  : ∀ (n : Nat) (a0 : Nat) (x1 : Int32) (x2 : Int32) (x3 : Int32) (x4 : Int32) (x5 : Int32) (h : HP), F_X9_ringFrom_8  n a0 x1 x2 x3 x4 x5 h = some out → ∀ (H : Heap) (locs : List Loc) (ls : Array Slot), ST G b False s h H locs → lv_has ls 6 [(0, .ref (b + a0)), (1, .int x1), (2, .int x2), (3, .int x3), (4, .int x4), (5, .int x5)] → W p l e RM_X9_ringFrom s m args below meth c H locs 0 0 Q (F0 m 8 ls []) := by
  intro n
  induction n with
  | zero => intro a0 x1 x2 x3 x4 x5 h hf; exact nn hf
  | succ n ih => exact w_X9_ringFrom_b8 X Z ih
def f_X9_ringFrom_e  (a0 : Nat) (x1 : Int32) (x2 : Int32) (h : HP) : Option (Int32 × HP) :=
  F_X9_ringFrom_8  FU a0 x1 x2 0 x2 0 h
set_option maxRecDepth 100000 in
set_option maxHeartbeats 4000000 in
theorem w_X9_ringFrom_e (X : CX RX9 cX9_ringFrom 6 (some .int) p s m args meth c G b) {out : Int32 × HP} (Z : ZI p l e RM_X9_ringFrom s m args below meth c cX9_ringFrom G b False 0 0 Q out)  : ∀ (a0 : Nat) (x1 : Int32) (x2 : Int32) (h : HP), f_X9_ringFrom_e  a0 x1 x2 h = some out → ∀ (H : Heap) (locs : List Loc) (ls : Array Slot), ST G b False s h H locs → lv_has ls 6 [(0, .ref (b + a0)), (1, .int x1), (2, .int x2)] → W p l e RM_X9_ringFrom s m args below meth c H locs 0 0 Q (F0 m 0 ls []) := by
  intro a0 x1 x2 h hf H locs ls S hl
  unfold f_X9_ringFrom_e at hf
  have hx := X.1
  have hb := X.2.1
  refine lv_iconst (v := 0) hx hb dX9_ringFrom_0 (by decide) ?_
  refine lv_istore_n (lv' := [(3, .int 0), (0, .ref (b + a0)), (1, .int x1), (2, .int x2)]) hx hb dX9_ringFrom_1 rfl hl (by decide) rfl (fun ls hl => ?_)
  refine lv_iload_n hx hb dX9_ringFrom_2 rfl (lv_at hl 3 rfl) ?_
  refine lv_istore (lv' := [(4, .int x2), (3, .int 0), (0, .ref (b + a0)), (1, .int x1), (2, .int x2)]) hx hb dX9_ringFrom_3 hl (by decide) rfl (fun ls hl => ?_)
  refine lv_iconst (v := 0) hx hb dX9_ringFrom_5 (by decide) ?_
  refine lv_istore (lv' := [(5, .int 0), (4, .int x2), (3, .int 0), (0, .ref (b + a0)), (1, .int x1), (2, .int x2)]) hx hb dX9_ringFrom_6 hl (by decide) rfl (fun ls hl => ?_)
  exact wl_X9_ringFrom_8 X Z  FU _ _ _ _ _ _ _ hf _ _ _ S (lv_sub hl [3, 4, 5, 2, 1, 0] rfl)
def f_X9_ringFrom (a0 : Nat) (x1 : Int32) (x2 : Int32) (h : HP) : Option (Int32 × HP) := ck h a0 9 (f_X9_ringFrom_e a0 x1 x2 h)
theorem o_X9_ringFrom {a0 : Nat} {x1 : Int32} {x2 : Int32} {h : HP} {out : Int32 × HP} (hf : f_X9_ringFrom a0 x1 x2 h = some out) : ∃ fs, h[a0]? = some (.inl (9, fs)) := (ck_spec hf).1
set_option maxRecDepth 100000 in
theorem c_X9_ringFrom {l : Launch} {G : GT} {b : Nat} {a0 : Nat} {x1 : Int32} {x2 : Int32} {h : HP} {out : Int32 × HP} (hf : f_X9_ringFrom a0 x1 x2 h = some out) : MT l G b False False yX9_ringFrom cX9_ringFrom 6 (some .int) RM_X9_ringFrom [.ref (b + a0), .int x1, .int x2] h (some (.int out.1)) out.2 0 0 := by
  refine met_of (by decide) (Nat.le_of_ble_eq_true rfl) ?_
  intro p e s m below meth c ls X hnm S hl
  have hl : lv_has ls 6 [(0, .ref (b + a0)), (1, .int x1), (2, .int x2)] := hl
  replace hf := (ck_spec hf).2
  exact w_X9_ringFrom_e X (z_i X) _ _ _ _ hf _ _ _ S hl
/-! RoomRingsModel.giveRings(I)V -/
abbrev RM_X9_giveRings : Room := { frames := 5, cells := 0, slots := 0, locals := 113 }
def f_X9_giveRings_b103 (K7 : Nat → Int32 → Int32 → Int32 → Int32 → HP → Option (HP)) (a0 : Nat) (x1 : Int32) (x2 : Int32) (x3 : Int32) (x4 : Int32) (h : HP) : Option (HP) :=
  K7 a0 x1 x2 x3 (x4 + 1) h
set_option maxRecDepth 100000 in
set_option maxHeartbeats 4000000 in
theorem w_X9_giveRings_b103 (X : CX RX9 cX9_giveRings 6 none p s m args meth c G b) {out : HP} (Z : ZV p l e RM_X9_giveRings s m args below meth c cX9_giveRings G b False 0 0 Q out) {K7 : Nat → Int32 → Int32 → Int32 → Int32 → HP → Option (HP)} (hK7 : ∀ (a0 : Nat) (x1 : Int32) (x2 : Int32) (x3 : Int32) (x4 : Int32) (h : HP), K7 a0 x1 x2 x3 x4 h = some out → ∀ (H : Heap) (locs : List Loc) (ls : Array Slot), ST G b False s h H locs → lv_has ls 6 [(0, .ref (b + a0)), (1, .int x1), (2, .int x2), (3, .int x3), (4, .int x4)] → W p l e RM_X9_giveRings s m args below meth c H locs 0 0 Q (F0 m 7 ls [])) : ∀ (a0 : Nat) (x1 : Int32) (x2 : Int32) (x3 : Int32) (x4 : Int32) (h : HP), f_X9_giveRings_b103 K7 a0 x1 x2 x3 x4 h = some out → ∀ (H : Heap) (locs : List Loc) (ls : Array Slot), ST G b False s h H locs → lv_has ls 6 [(0, .ref (b + a0)), (1, .int x1), (2, .int x2), (3, .int x3), (4, .int x4)] → W p l e RM_X9_giveRings s m args below meth c H locs 0 0 Q (F0 m 103 ls []) := by
  intro a0 x1 x2 x3 x4 h hf H locs ls S hl
  unfold f_X9_giveRings_b103 at hf
  have hx := X.1
  have hb := X.2.1
  refine lv_iinc (v := x4 + 1) (lv' := [(4, .int (x4 + 1)), (0, .ref (b + a0)), (1, .int x1), (2, .int x2), (3, .int x3)]) hx hb dX9_giveRings_103 hl (k := 4) rfl rfl (by decide) rfl (fun ls hl => ?_)
  refine lv_goto (tgt := 7) hx hb dX9_giveRings_106 (by decide) ?_
  exact hK7 _ _ _ _ _ _ hf _ _ _ S (lv_sub hl [1, 2, 3, 4, 0] rfl)
def f_X9_giveRings_b39 (K7 : Nat → Int32 → Int32 → Int32 → Int32 → HP → Option (HP)) (a0 : Nat) (x1 : Int32) (x2 : Int32) (x3 : Int32) (x4 : Int32) (s0 : Int32) (h : HP) : Option (HP) :=
  if s0 = 0 then
    f_X9_giveRings_b103 K7 a0 x1 x2 x3 x4 h
  else
    (gR h a0 9 8).bind fun r1 =>
    (gI h a0 9 26).bind fun v2 =>
    (f_X9_mostOf a0 x1 x4 v2 h).bind fun q3 =>
    (ast q3.2 r1 x4 q3.1).bind fun h4 =>
    (gR h4 a0 9 9).bind fun r5 =>
    (gI h4 a0 9 11).bind fun v6 =>
    (ast h4 r5 x4 v6).bind fun h7 =>
    (gR h7 a0 9 10).bind fun r8 =>
    (ast h7 r8 x4 s0).bind fun h9 =>
    (gR h9 a0 9 8).bind fun r10 =>
    (ald h9 r10 x4).bind fun v11 =>
    f_X9_giveRings_b103 K7 a0 x1 (x2 ||| (1 <<< (x4 &&& 31))) (x3 ||| (1 <<< (v11 &&& 31))) x4 h9
set_option maxRecDepth 100000 in
set_option maxHeartbeats 4000000 in
theorem w_X9_giveRings_b39 (X : CX RX9 cX9_giveRings 6 none p s m args meth c G b) {out : HP} (Z : ZV p l e RM_X9_giveRings s m args below meth c cX9_giveRings G b False 0 0 Q out) {K7 : Nat → Int32 → Int32 → Int32 → Int32 → HP → Option (HP)} (hK7 : ∀ (a0 : Nat) (x1 : Int32) (x2 : Int32) (x3 : Int32) (x4 : Int32) (h : HP), K7 a0 x1 x2 x3 x4 h = some out → ∀ (H : Heap) (locs : List Loc) (ls : Array Slot), ST G b False s h H locs → lv_has ls 6 [(0, .ref (b + a0)), (1, .int x1), (2, .int x2), (3, .int x3), (4, .int x4)] → W p l e RM_X9_giveRings s m args below meth c H locs 0 0 Q (F0 m 7 ls [])) : ∀ (a0 : Nat) (x1 : Int32) (x2 : Int32) (x3 : Int32) (x4 : Int32) (s0 : Int32) (h : HP), f_X9_giveRings_b39 K7 a0 x1 x2 x3 x4 s0 h = some out → ∀ (H : Heap) (locs : List Loc) (ls : Array Slot), ST G b False s h H locs → lv_has ls 6 [(0, .ref (b + a0)), (1, .int x1), (2, .int x2), (3, .int x3), (4, .int x4)] → W p l e RM_X9_giveRings s m args below meth c H locs 0 0 Q (F0 m 39 ls [.int s0]) := by
  intro a0 x1 x2 x3 x4 s0 h hf H locs ls S hl
  unfold f_X9_giveRings_b39 at hf
  have hx := X.1
  have hb := X.2.1
  refine lv_istore (lv' := [(5, .int s0), (0, .ref (b + a0)), (1, .int x1), (2, .int x2), (3, .int x3), (4, .int x4)]) hx hb dX9_giveRings_39 hl (by decide) rfl (fun ls hl => ?_)
  refine lv_iload hx hb dX9_giveRings_41 (lv_at hl 0 rfl) ?_
  refine lv_if_eq (tgt := 103) hx hb dX9_giveRings_43 (by decide) (fun hc => ?_) (fun hc => ?_)
  · replace hf := ip hf hc
    exact w_X9_giveRings_b103 X Z hK7 _ _ _ _ _ _ hf _ _ _ S (lv_sub hl [1, 2, 3, 4, 5] rfl)
  · replace hf := im hf hc
    refine lv_aload_n hx hb dX9_giveRings_46 rfl (lv_at hl 1 rfl) ?_
    obtain ⟨r1, e_r1, hf⟩ := ob hf
    refine r_getR X S fl_X9_20 e_r1 dX9_giveRings_47 ?_
    refine lv_iload hx hb dX9_giveRings_50 (lv_at hl 5 rfl) ?_
    refine lv_aload_n hx hb dX9_giveRings_52 rfl (lv_at hl 1 rfl) ?_
    refine lv_iload_n hx hb dX9_giveRings_53 rfl (lv_at hl 2 rfl) ?_
    refine lv_iload hx hb dX9_giveRings_54 (lv_at hl 5 rfl) ?_
    refine lv_aload_n hx hb dX9_giveRings_56 rfl (lv_at hl 1 rfl) ?_
    obtain ⟨v2, e_v2, hf⟩ := ob hf
    refine r_getI X S fl_X9_145 e_v2 dX9_giveRings_57 ?_
    obtain ⟨q3, e_q3, hf⟩ := ob hf
    refine r_callV X S hl.1 (As := [.int x1, .int x4, .int v2]) (rest := [.int x4, .ref (b + r1)]) (c_X9_mostOf e_q3) my_X9_mostOf mv_X9_mostOf ml_X9_148 rfl (o_X9_mostOf e_q3) ⟨rfl, rfl, Nat.le_of_ble_eq_true rfl, Nat.le_of_ble_eq_true rfl⟩ rfl rfl (Nat.le_of_ble_eq_true rfl) dX9_giveRings_60 ⟨Nat.le_of_ble_eq_true rfl, Nat.le_of_ble_eq_true rfl⟩ (fun H locs S => ?_)
    refine W.eq (g2 := F0 m 63 ls [.int q3.1, .int x4, .ref (b + r1)]) rfl ?_
    obtain ⟨h4, e_h4, hf⟩ := ob hf
    refine r_ast X S e_h4 dX9_giveRings_63 (fun H locs S => ?_)
    refine lv_aload_n hx hb dX9_giveRings_64 rfl (lv_at hl 1 rfl) ?_
    obtain ⟨r5, e_r5, hf⟩ := ob hf
    refine r_getR X S fl_X9_23 e_r5 dX9_giveRings_65 ?_
    refine lv_iload hx hb dX9_giveRings_68 (lv_at hl 5 rfl) ?_
    refine lv_aload_n hx hb dX9_giveRings_70 rfl (lv_at hl 1 rfl) ?_
    obtain ⟨v6, e_v6, hf⟩ := ob hf
    refine r_getI X S fl_X9_154 e_v6 dX9_giveRings_71 ?_
    obtain ⟨h7, e_h7, hf⟩ := ob hf
    refine r_ast X S e_h7 dX9_giveRings_74 (fun H locs S => ?_)
    refine lv_aload_n hx hb dX9_giveRings_75 rfl (lv_at hl 1 rfl) ?_
    obtain ⟨r8, e_r8, hf⟩ := ob hf
    refine r_getR X S fl_X9_26 e_r8 dX9_giveRings_76 ?_
    refine lv_iload hx hb dX9_giveRings_79 (lv_at hl 5 rfl) ?_
    refine lv_iload hx hb dX9_giveRings_81 (lv_at hl 0 rfl) ?_
    obtain ⟨h9, e_h9, hf⟩ := ob hf
    refine r_ast X S e_h9 dX9_giveRings_83 (fun H locs S => ?_)
    refine lv_iload_n hx hb dX9_giveRings_84 rfl (lv_at hl 3 rfl) ?_
    refine lv_iconst (v := 1) hx hb dX9_giveRings_85 (by decide) ?_
    refine lv_iload hx hb dX9_giveRings_86 (lv_at hl 5 rfl) ?_
    refine lv_ishl hx hb dX9_giveRings_88 ?_
    refine lv_ior hx hb dX9_giveRings_89 ?_
    refine lv_istore_n (lv' := [(2, .int (x2 ||| (1 <<< (x4 &&& 31)))), (5, .int s0), (0, .ref (b + a0)), (1, .int x1), (3, .int x3), (4, .int x4)]) hx hb dX9_giveRings_90 rfl hl (by decide) rfl (fun ls hl => ?_)
    refine lv_iload_n hx hb dX9_giveRings_91 rfl (lv_at hl 4 rfl) ?_
    refine lv_iconst (v := 1) hx hb dX9_giveRings_92 (by decide) ?_
    refine lv_aload_n hx hb dX9_giveRings_93 rfl (lv_at hl 2 rfl) ?_
    obtain ⟨r10, e_r10, hf⟩ := ob hf
    refine r_getR X S fl_X9_20 e_r10 dX9_giveRings_94 ?_
    refine lv_iload hx hb dX9_giveRings_97 (lv_at hl 5 rfl) ?_
    obtain ⟨v11, e_v11, hf⟩ := ob hf
    refine r_ald X S e_v11 dX9_giveRings_99 ?_
    refine lv_ishl hx hb dX9_giveRings_100 ?_
    refine lv_ior hx hb dX9_giveRings_101 ?_
    refine lv_istore_n (lv' := [(3, .int (x3 ||| (1 <<< (v11 &&& 31)))), (2, .int (x2 ||| (1 <<< (x4 &&& 31)))), (5, .int s0), (0, .ref (b + a0)), (1, .int x1), (4, .int x4)]) hx hb dX9_giveRings_102 rfl hl (by decide) rfl (fun ls hl => ?_)
    exact w_X9_giveRings_b103 X Z hK7 _ _ _ _ _ _ hf _ _ _ S (lv_sub hl [3, 4, 1, 0, 5] rfl)
def f_X9_giveRings_b7 (K7 : Nat → Int32 → Int32 → Int32 → Int32 → HP → Option (HP)) (a0 : Nat) (x1 : Int32) (x2 : Int32) (x3 : Int32) (x4 : Int32) (h : HP) : Option (HP) :=
  (gI h a0 9 2).bind fun v1 =>
  if v1 ≤ x4 then
    (gI h a0 9 25).bind fun v2 =>
    (pI h a0 9 25 (v2 &&& (x2 ^^^ (-1)))).bind fun h3 =>
    (gI h3 a0 9 26).bind fun v4 =>
    (pI h3 a0 9 26 (v4 &&& (x3 ^^^ (-1)))).bind fun h5 =>
    some h5
  else
    (gI h a0 9 25).bind fun v6 =>
    (f_X9_has v6 x4 h).bind fun q7 =>
    if q7.1 = 0 then
      f_X9_giveRings_b39 K7 a0 x1 x2 x3 x4 0 q7.2
    else
      (f_X9_ringFrom a0 x1 x4 q7.2).bind fun q8 =>
      f_X9_giveRings_b39 K7 a0 x1 x2 x3 x4 q8.1 q8.2
set_option maxRecDepth 100000 in
set_option maxHeartbeats 4000000 in
theorem w_X9_giveRings_b7 (X : CX RX9 cX9_giveRings 6 none p s m args meth c G b) {out : HP} (Z : ZV p l e RM_X9_giveRings s m args below meth c cX9_giveRings G b False 0 0 Q out) {K7 : Nat → Int32 → Int32 → Int32 → Int32 → HP → Option (HP)} (hK7 : ∀ (a0 : Nat) (x1 : Int32) (x2 : Int32) (x3 : Int32) (x4 : Int32) (h : HP), K7 a0 x1 x2 x3 x4 h = some out → ∀ (H : Heap) (locs : List Loc) (ls : Array Slot), ST G b False s h H locs → lv_has ls 6 [(0, .ref (b + a0)), (1, .int x1), (2, .int x2), (3, .int x3), (4, .int x4)] → W p l e RM_X9_giveRings s m args below meth c H locs 0 0 Q (F0 m 7 ls [])) : ∀ (a0 : Nat) (x1 : Int32) (x2 : Int32) (x3 : Int32) (x4 : Int32) (h : HP), f_X9_giveRings_b7 K7 a0 x1 x2 x3 x4 h = some out → ∀ (H : Heap) (locs : List Loc) (ls : Array Slot), ST G b False s h H locs → lv_has ls 6 [(0, .ref (b + a0)), (1, .int x1), (2, .int x2), (3, .int x3), (4, .int x4)] → W p l e RM_X9_giveRings s m args below meth c H locs 0 0 Q (F0 m 7 ls []) := by
  intro a0 x1 x2 x3 x4 h hf H locs ls S hl
  unfold f_X9_giveRings_b7 at hf
  have hx := X.1
  have hb := X.2.1
  refine lv_iload hx hb dX9_giveRings_7 (lv_at hl 4 rfl) ?_
  refine lv_aload_n hx hb dX9_giveRings_9 rfl (lv_at hl 0 rfl) ?_
  obtain ⟨v1, e_v1, hf⟩ := ob hf
  refine r_getI X S fl_X9_51 e_v1 dX9_giveRings_10 ?_
  refine lv_icmp_ge (tgt := 109) hx hb dX9_giveRings_13 (by decide) (fun hc => ?_) (fun hc => ?_)
  · replace hf := ip hf hc
    refine lv_aload_n hx hb dX9_giveRings_109 rfl (lv_at hl 0 rfl) ?_
    refine lv_dup hx hb dX9_giveRings_110 rfl ?_
    obtain ⟨v2, e_v2, hf⟩ := ob hf
    refine r_getI X S fl_X9_138 e_v2 dX9_giveRings_111 ?_
    refine lv_iload_n hx hb dX9_giveRings_114 rfl (lv_at hl 2 rfl) ?_
    refine lv_iconst (v := (-1)) hx hb dX9_giveRings_115 (by decide) ?_
    refine lv_ixor hx hb dX9_giveRings_116 ?_
    refine lv_iand hx hb dX9_giveRings_117 ?_
    obtain ⟨h3, e_h3, hf⟩ := ob hf
    refine r_put X S fp_X9_138 (fun h9 => by cases h9) rfl rfl rfl e_h3 dX9_giveRings_118 (fun H locs S => ?_)
    refine lv_aload_n hx hb dX9_giveRings_121 rfl (lv_at hl 0 rfl) ?_
    refine lv_dup hx hb dX9_giveRings_122 rfl ?_
    obtain ⟨v4, e_v4, hf⟩ := ob hf
    refine r_getI X S fl_X9_145 e_v4 dX9_giveRings_123 ?_
    refine lv_iload_n hx hb dX9_giveRings_126 rfl (lv_at hl 3 rfl) ?_
    refine lv_iconst (v := (-1)) hx hb dX9_giveRings_127 (by decide) ?_
    refine lv_ixor hx hb dX9_giveRings_128 ?_
    refine lv_iand hx hb dX9_giveRings_129 ?_
    obtain ⟨h5, e_h5, hf⟩ := ob hf
    refine r_put X S fp_X9_145 (fun h9 => by cases h9) rfl rfl rfl e_h5 dX9_giveRings_130 (fun H locs S => ?_)
    obtain rfl := Option.some.inj hf
    exact Z _ _ _ _ dX9_giveRings_133 S
  · replace hf := im hf hc
    refine lv_aload_n hx hb dX9_giveRings_16 rfl (lv_at hl 0 rfl) ?_
    obtain ⟨v6, e_v6, hf⟩ := ob hf
    refine r_getI X S fl_X9_138 e_v6 dX9_giveRings_17 ?_
    refine lv_iload hx hb dX9_giveRings_20 (lv_at hl 4 rfl) ?_
    obtain ⟨q7, e_q7, hf⟩ := ob hf
    refine r_callS X S hl.1 (As := [.int v6, .int x4]) (rest := []) (c_X9_has e_q7) my_X9_has ms_X9_has ml_X9_134 ⟨rfl, rfl, Nat.le_of_ble_eq_true rfl, Nat.le_of_ble_eq_true rfl⟩ rfl rfl (Nat.le_of_ble_eq_true rfl) dX9_giveRings_22 ⟨Nat.le_of_ble_eq_true rfl, Nat.le_of_ble_eq_true rfl⟩ (fun H locs S => ?_)
    refine W.eq (g2 := F0 m 25 ls [.int q7.1]) rfl ?_
    refine lv_if_eq (tgt := 38) hx hb dX9_giveRings_25 (by decide) (fun hc => ?_) (fun hc => ?_)
    · replace hf := ip hf hc
      refine lv_iconst (v := 0) hx hb dX9_giveRings_38 (by decide) ?_
      exact w_X9_giveRings_b39 X Z hK7 _ _ _ _ _ _ _ hf _ _ _ S (lv_sub hl [0, 1, 2, 3, 4] rfl)
    · replace hf := im hf hc
      refine lv_aload_n hx hb dX9_giveRings_28 rfl (lv_at hl 0 rfl) ?_
      refine lv_iload_n hx hb dX9_giveRings_29 rfl (lv_at hl 1 rfl) ?_
      refine lv_iload hx hb dX9_giveRings_30 (lv_at hl 4 rfl) ?_
      obtain ⟨q8, e_q8, hf⟩ := ob hf
      refine r_callV X S hl.1 (As := [.int x1, .int x4]) (rest := []) (c_X9_ringFrom e_q8) my_X9_ringFrom mv_X9_ringFrom ml_X9_160 rfl (o_X9_ringFrom e_q8) ⟨rfl, rfl, Nat.le_of_ble_eq_true rfl, Nat.le_of_ble_eq_true rfl⟩ rfl rfl (Nat.le_of_ble_eq_true rfl) dX9_giveRings_32 ⟨Nat.le_of_ble_eq_true rfl, Nat.le_of_ble_eq_true rfl⟩ (fun H locs S => ?_)
      refine W.eq (g2 := F0 m 35 ls [.int q8.1]) rfl ?_
      refine lv_goto (tgt := 39) hx hb dX9_giveRings_35 (by decide) ?_
      exact w_X9_giveRings_b39 X Z hK7 _ _ _ _ _ _ _ hf _ _ _ S (lv_sub hl [0, 1, 2, 3, 4] rfl)
def F_X9_giveRings_7  : Nat → Nat → Int32 → Int32 → Int32 → Int32 → HP → Option (HP)
  | 0 => fun _ _ _ _ _ _ => none
  | n + 1 => fun a0 x1 x2 x3 x4 h => f_X9_giveRings_b7 (F_X9_giveRings_7  n) a0 x1 x2 x3 x4 h
theorem wl_X9_giveRings_7 (X : CX RX9 cX9_giveRings 6 none p s m args meth c G b) {out : HP} (Z : ZV p l e RM_X9_giveRings s m args below meth c cX9_giveRings G b False 0 0 Q out)  : ∀ (n : Nat) (a0 : Nat) (x1 : Int32) (x2 : Int32) (x3 : Int32) (x4 : Int32) (h : HP), F_X9_giveRings_7  n a0 x1 x2 x3 x4 h = some out → ∀ (H : Heap) (locs : List Loc) (ls : Array Slot), ST G b False s h H locs → lv_has ls 6 [(0, .ref (b + a0)), (1, .int x1), (2, .int x2), (3, .int x3), (4, .int x4)] → W p l e RM_X9_giveRings s m args below meth c H locs 0 0 Q (F0 m 7 ls []) := by
  intro n
  induction n with
  | zero => intro a0 x1 x2 x3 x4 h hf; exact nn hf
  | succ n ih => exact w_X9_giveRings_b7 X Z ih
def f_X9_giveRings_e  (a0 : Nat) (x1 : Int32) (h : HP) : Option (HP) :=
  F_X9_giveRings_7  FU a0 x1 0 0 0 h
set_option maxRecDepth 100000 in
set_option maxHeartbeats 4000000 in
theorem w_X9_giveRings_e (X : CX RX9 cX9_giveRings 6 none p s m args meth c G b) {out : HP} (Z : ZV p l e RM_X9_giveRings s m args below meth c cX9_giveRings G b False 0 0 Q out)  : ∀ (a0 : Nat) (x1 : Int32) (h : HP), f_X9_giveRings_e  a0 x1 h = some out → ∀ (H : Heap) (locs : List Loc) (ls : Array Slot), ST G b False s h H locs → lv_has ls 6 [(0, .ref (b + a0)), (1, .int x1)] → W p l e RM_X9_giveRings s m args below meth c H locs 0 0 Q (F0 m 0 ls []) := by
  intro a0 x1 h hf H locs ls S hl
  unfold f_X9_giveRings_e at hf
  have hx := X.1
  have hb := X.2.1
  refine lv_iconst (v := 0) hx hb dX9_giveRings_0 (by decide) ?_
  refine lv_istore_n (lv' := [(2, .int 0), (0, .ref (b + a0)), (1, .int x1)]) hx hb dX9_giveRings_1 rfl hl (by decide) rfl (fun ls hl => ?_)
  refine lv_iconst (v := 0) hx hb dX9_giveRings_2 (by decide) ?_
  refine lv_istore_n (lv' := [(3, .int 0), (2, .int 0), (0, .ref (b + a0)), (1, .int x1)]) hx hb dX9_giveRings_3 rfl hl (by decide) rfl (fun ls hl => ?_)
  refine lv_iconst (v := 0) hx hb dX9_giveRings_4 (by decide) ?_
  refine lv_istore (lv' := [(4, .int 0), (3, .int 0), (2, .int 0), (0, .ref (b + a0)), (1, .int x1)]) hx hb dX9_giveRings_5 hl (by decide) rfl (fun ls hl => ?_)
  exact wl_X9_giveRings_7 X Z  FU _ _ _ _ _ _ hf _ _ _ S (lv_sub hl [3, 4, 2, 1, 0] rfl)
def f_X9_giveRings (a0 : Nat) (x1 : Int32) (h : HP) : Option (HP) := ck h a0 9 (f_X9_giveRings_e a0 x1 h)
theorem o_X9_giveRings {a0 : Nat} {x1 : Int32} {h : HP} {out : HP} (hf : f_X9_giveRings a0 x1 h = some out) : ∃ fs, h[a0]? = some (.inl (9, fs)) := (ck_spec hf).1
set_option maxRecDepth 100000 in
theorem c_X9_giveRings {l : Launch} {G : GT} {b : Nat} {a0 : Nat} {x1 : Int32} {h : HP} {out : HP} (hf : f_X9_giveRings a0 x1 h = some out) : MT l G b False False yX9_giveRings cX9_giveRings 6 none RM_X9_giveRings [.ref (b + a0), .int x1] h none out 0 0 := by
  refine met_of (by decide) (Nat.le_of_ble_eq_true rfl) ?_
  intro p e s m below meth c ls X hnm S hl
  have hl : lv_has ls 6 [(0, .ref (b + a0)), (1, .int x1)] := hl
  replace hf := (ck_spec hf).2
  exact w_X9_giveRings_e X (z_v X) _ _ _ hf _ _ _ S hl
/-! RoomRingsModel.giveOut(I)V -/
abbrev RM_X9_giveOut : Room := { frames := 6, cells := 0, slots := 0, locals := 138 }
def f_X9_giveOut_b53 (K29 : Nat → Int32 → HP → Option (HP)) (a0 : Nat) (x1 : Int32) (h : HP) : Option (HP) :=
  (gI h a0 9 11).bind fun v1 =>
  (pI h a0 9 11 (v1 + 1)).bind fun h2 =>
  K29 a0 x1 h2
set_option maxRecDepth 100000 in
set_option maxHeartbeats 4000000 in
theorem w_X9_giveOut_b53 (X : CX RX9 cX9_giveOut 2 none p s m args meth c G b) {out : HP} (Z : ZV p l e RM_X9_giveOut s m args below meth c cX9_giveOut G b False 0 0 Q out) {K29 : Nat → Int32 → HP → Option (HP)} (hK29 : ∀ (a0 : Nat) (x1 : Int32) (h : HP), K29 a0 x1 h = some out → ∀ (H : Heap) (locs : List Loc) (ls : Array Slot), ST G b False s h H locs → lv_has ls 2 [(0, .ref (b + a0)), (1, .int x1)] → W p l e RM_X9_giveOut s m args below meth c H locs 0 0 Q (F0 m 29 ls [])) : ∀ (a0 : Nat) (x1 : Int32) (h : HP), f_X9_giveOut_b53 K29 a0 x1 h = some out → ∀ (H : Heap) (locs : List Loc) (ls : Array Slot), ST G b False s h H locs → lv_has ls 2 [(0, .ref (b + a0)), (1, .int x1)] → W p l e RM_X9_giveOut s m args below meth c H locs 0 0 Q (F0 m 53 ls []) := by
  intro a0 x1 h hf H locs ls S hl
  unfold f_X9_giveOut_b53 at hf
  have hx := X.1
  have hb := X.2.1
  refine lv_aload_n hx hb dX9_giveOut_53 rfl (lv_at hl 0 rfl) ?_
  refine lv_dup hx hb dX9_giveOut_54 rfl ?_
  obtain ⟨v1, e_v1, hf⟩ := ob hf
  refine r_getI X S fl_X9_154 e_v1 dX9_giveOut_55 ?_
  refine lv_iconst (v := 1) hx hb dX9_giveOut_58 (by decide) ?_
  refine lv_iadd hx hb dX9_giveOut_59 ?_
  obtain ⟨h2, e_h2, hf⟩ := ob hf
  refine r_put X S fp_X9_154 (fun h9 => by cases h9) rfl rfl rfl e_h2 dX9_giveOut_60 (fun H locs S => ?_)
  refine lv_goto (tgt := 29) hx hb dX9_giveOut_63 (by decide) ?_
  exact hK29 _ _ _ hf _ _ _ S (lv_sub hl [0, 1] rfl)
def f_X9_giveOut_b29 (K29 : Nat → Int32 → HP → Option (HP)) (a0 : Nat) (x1 : Int32) (h : HP) : Option (HP) :=
  (gI h a0 9 25).bind fun v1 =>
  if v1 = 0 then
    some h
  else
    (f_X9_dropThoseWithout a0 x1 h).bind fun h2 =>
    (gI h2 a0 9 25).bind fun v3 =>
    if v3 = 0 then
      f_X9_giveOut_b53 K29 a0 x1 h2
    else
      (f_X9_giveRings a0 x1 h2).bind fun h4 =>
      f_X9_giveOut_b53 K29 a0 x1 h4
set_option maxRecDepth 100000 in
set_option maxHeartbeats 4000000 in
theorem w_X9_giveOut_b29 (X : CX RX9 cX9_giveOut 2 none p s m args meth c G b) {out : HP} (Z : ZV p l e RM_X9_giveOut s m args below meth c cX9_giveOut G b False 0 0 Q out) {K29 : Nat → Int32 → HP → Option (HP)} (hK29 : ∀ (a0 : Nat) (x1 : Int32) (h : HP), K29 a0 x1 h = some out → ∀ (H : Heap) (locs : List Loc) (ls : Array Slot), ST G b False s h H locs → lv_has ls 2 [(0, .ref (b + a0)), (1, .int x1)] → W p l e RM_X9_giveOut s m args below meth c H locs 0 0 Q (F0 m 29 ls [])) : ∀ (a0 : Nat) (x1 : Int32) (h : HP), f_X9_giveOut_b29 K29 a0 x1 h = some out → ∀ (H : Heap) (locs : List Loc) (ls : Array Slot), ST G b False s h H locs → lv_has ls 2 [(0, .ref (b + a0)), (1, .int x1)] → W p l e RM_X9_giveOut s m args below meth c H locs 0 0 Q (F0 m 29 ls []) := by
  intro a0 x1 h hf H locs ls S hl
  unfold f_X9_giveOut_b29 at hf
  have hx := X.1
  have hb := X.2.1
  refine lv_aload_n hx hb dX9_giveOut_29 rfl (lv_at hl 0 rfl) ?_
  obtain ⟨v1, e_v1, hf⟩ := ob hf
  refine r_getI X S fl_X9_138 e_v1 dX9_giveOut_30 ?_
  refine lv_if_eq (tgt := 66) hx hb dX9_giveOut_33 (by decide) (fun hc => ?_) (fun hc => ?_)
  · replace hf := ip hf hc
    obtain rfl := Option.some.inj hf
    exact Z _ _ _ _ dX9_giveOut_66 S
  · replace hf := im hf hc
    refine lv_aload_n hx hb dX9_giveOut_36 rfl (lv_at hl 0 rfl) ?_
    refine lv_iload_n hx hb dX9_giveOut_37 rfl (lv_at hl 1 rfl) ?_
    obtain ⟨h2, e_h2, hf⟩ := ob hf
    refine r_callV X S hl.1 (As := [.int x1]) (rest := []) (c_X9_dropThoseWithout e_h2) my_X9_dropThoseWithout mv_X9_dropThoseWithout ml_X9_163 rfl (o_X9_dropThoseWithout e_h2) ⟨rfl, rfl, Nat.le_of_ble_eq_true rfl, Nat.le_of_ble_eq_true rfl⟩ rfl rfl (Nat.le_of_ble_eq_true rfl) dX9_giveOut_38 ⟨Nat.le_of_ble_eq_true rfl, Nat.le_of_ble_eq_true rfl⟩ (fun H locs S => ?_)
    refine W.eq (g2 := F0 m 41 ls []) rfl ?_
    refine lv_aload_n hx hb dX9_giveOut_41 rfl (lv_at hl 0 rfl) ?_
    obtain ⟨v3, e_v3, hf⟩ := ob hf
    refine r_getI X S fl_X9_138 e_v3 dX9_giveOut_42 ?_
    refine lv_if_eq (tgt := 53) hx hb dX9_giveOut_45 (by decide) (fun hc => ?_) (fun hc => ?_)
    · replace hf := ip hf hc
      exact w_X9_giveOut_b53 X Z hK29 _ _ _ hf _ _ _ S (lv_sub hl [0, 1] rfl)
    · replace hf := im hf hc
      refine lv_aload_n hx hb dX9_giveOut_48 rfl (lv_at hl 0 rfl) ?_
      refine lv_iload_n hx hb dX9_giveOut_49 rfl (lv_at hl 1 rfl) ?_
      obtain ⟨h4, e_h4, hf⟩ := ob hf
      refine r_callV X S hl.1 (As := [.int x1]) (rest := []) (c_X9_giveRings e_h4) my_X9_giveRings mv_X9_giveRings ml_X9_166 rfl (o_X9_giveRings e_h4) ⟨rfl, rfl, Nat.le_of_ble_eq_true rfl, Nat.le_of_ble_eq_true rfl⟩ rfl rfl (Nat.le_of_ble_eq_true rfl) dX9_giveOut_50 ⟨Nat.le_of_ble_eq_true rfl, Nat.le_of_ble_eq_true rfl⟩ (fun H locs S => ?_)
      refine W.eq (g2 := F0 m 53 ls []) rfl ?_
      exact w_X9_giveOut_b53 X Z hK29 _ _ _ hf _ _ _ S (lv_sub hl [0, 1] rfl)
def F_X9_giveOut_29  : Nat → Nat → Int32 → HP → Option (HP)
  | 0 => fun _ _ _ => none
  | n + 1 => fun a0 x1 h => f_X9_giveOut_b29 (F_X9_giveOut_29  n) a0 x1 h
theorem wl_X9_giveOut_29 (X : CX RX9 cX9_giveOut 2 none p s m args meth c G b) {out : HP} (Z : ZV p l e RM_X9_giveOut s m args below meth c cX9_giveOut G b False 0 0 Q out)  : ∀ (n : Nat) (a0 : Nat) (x1 : Int32) (h : HP), F_X9_giveOut_29  n a0 x1 h = some out → ∀ (H : Heap) (locs : List Loc) (ls : Array Slot), ST G b False s h H locs → lv_has ls 2 [(0, .ref (b + a0)), (1, .int x1)] → W p l e RM_X9_giveOut s m args below meth c H locs 0 0 Q (F0 m 29 ls []) := by
  intro n
  induction n with
  | zero => intro a0 x1 h hf; exact nn hf
  | succ n ih => exact w_X9_giveOut_b29 X Z ih
def f_X9_giveOut_e  (a0 : Nat) (x1 : Int32) (h : HP) : Option (HP) :=
  (gI h a0 9 2).bind fun v1 =>
  (pI h a0 9 25 ((1 <<< (v1 &&& 31)) - 1)).bind fun h2 =>
  (gI h2 a0 9 1).bind fun v3 =>
  (pI h2 a0 9 26 ((1 <<< (v3 &&& 31)) - 1)).bind fun h4 =>
  (pI h4 a0 9 11 0).bind fun h5 =>
  F_X9_giveOut_29  FU a0 x1 h5
set_option maxRecDepth 100000 in
set_option maxHeartbeats 4000000 in
theorem w_X9_giveOut_e (X : CX RX9 cX9_giveOut 2 none p s m args meth c G b) {out : HP} (Z : ZV p l e RM_X9_giveOut s m args below meth c cX9_giveOut G b False 0 0 Q out)  : ∀ (a0 : Nat) (x1 : Int32) (h : HP), f_X9_giveOut_e  a0 x1 h = some out → ∀ (H : Heap) (locs : List Loc) (ls : Array Slot), ST G b False s h H locs → lv_has ls 2 [(0, .ref (b + a0)), (1, .int x1)] → W p l e RM_X9_giveOut s m args below meth c H locs 0 0 Q (F0 m 0 ls []) := by
  intro a0 x1 h hf H locs ls S hl
  unfold f_X9_giveOut_e at hf
  have hx := X.1
  have hb := X.2.1
  refine lv_aload_n hx hb dX9_giveOut_0 rfl (lv_at hl 0 rfl) ?_
  refine lv_iconst (v := 1) hx hb dX9_giveOut_1 (by decide) ?_
  refine lv_aload_n hx hb dX9_giveOut_2 rfl (lv_at hl 0 rfl) ?_
  obtain ⟨v1, e_v1, hf⟩ := ob hf
  refine r_getI X S fl_X9_51 e_v1 dX9_giveOut_3 ?_
  refine lv_ishl hx hb dX9_giveOut_6 ?_
  refine lv_iconst (v := 1) hx hb dX9_giveOut_7 (by decide) ?_
  refine lv_isub hx hb dX9_giveOut_8 ?_
  obtain ⟨h2, e_h2, hf⟩ := ob hf
  refine r_put X S fp_X9_138 (fun h9 => by cases h9) rfl rfl rfl e_h2 dX9_giveOut_9 (fun H locs S => ?_)
  refine lv_aload_n hx hb dX9_giveOut_12 rfl (lv_at hl 0 rfl) ?_
  refine lv_iconst (v := 1) hx hb dX9_giveOut_13 (by decide) ?_
  refine lv_aload_n hx hb dX9_giveOut_14 rfl (lv_at hl 0 rfl) ?_
  obtain ⟨v3, e_v3, hf⟩ := ob hf
  refine r_getI X S fl_X9_58 e_v3 dX9_giveOut_15 ?_
  refine lv_ishl hx hb dX9_giveOut_18 ?_
  refine lv_iconst (v := 1) hx hb dX9_giveOut_19 (by decide) ?_
  refine lv_isub hx hb dX9_giveOut_20 ?_
  obtain ⟨h4, e_h4, hf⟩ := ob hf
  refine r_put X S fp_X9_145 (fun h9 => by cases h9) rfl rfl rfl e_h4 dX9_giveOut_21 (fun H locs S => ?_)
  refine lv_aload_n hx hb dX9_giveOut_24 rfl (lv_at hl 0 rfl) ?_
  refine lv_iconst (v := 0) hx hb dX9_giveOut_25 (by decide) ?_
  obtain ⟨h5, e_h5, hf⟩ := ob hf
  refine r_put X S fp_X9_154 (fun h9 => by cases h9) rfl rfl rfl e_h5 dX9_giveOut_26 (fun H locs S => ?_)
  exact wl_X9_giveOut_29 X Z  FU _ _ _ hf _ _ _ S (lv_sub hl [0, 1] rfl)
def f_X9_giveOut (a0 : Nat) (x1 : Int32) (h : HP) : Option (HP) := ck h a0 9 (f_X9_giveOut_e a0 x1 h)
theorem o_X9_giveOut {a0 : Nat} {x1 : Int32} {h : HP} {out : HP} (hf : f_X9_giveOut a0 x1 h = some out) : ∃ fs, h[a0]? = some (.inl (9, fs)) := (ck_spec hf).1
set_option maxRecDepth 100000 in
theorem c_X9_giveOut {l : Launch} {G : GT} {b : Nat} {a0 : Nat} {x1 : Int32} {h : HP} {out : HP} (hf : f_X9_giveOut a0 x1 h = some out) : MT l G b False False yX9_giveOut cX9_giveOut 2 none RM_X9_giveOut [.ref (b + a0), .int x1] h none out 0 0 := by
  refine met_of (by decide) (Nat.le_of_ble_eq_true rfl) ?_
  intro p e s m below meth c ls X hnm S hl
  have hl : lv_has ls 2 [(0, .ref (b + a0)), (1, .int x1)] := hl
  replace hf := (ck_spec hf).2
  exact w_X9_giveOut_e X (z_v X) _ _ _ hf _ _ _ S hl
/-! RoomRingsModel.whoGets(I)I -/
abbrev RM_X9_whoGets : Room := { frames := 0, cells := 0, slots := 0, locals := 0 }
def f_X9_whoGets_b2 (K2 : Nat → Int32 → Int32 → HP → Option (Int32 × HP)) (a0 : Nat) (x1 : Int32) (x2 : Int32) (h : HP) : Option (Int32 × HP) :=
  (gI h a0 9 2).bind fun v1 =>
  if v1 ≤ x2 then
    some ((-1), h)
  else
    (gR h a0 9 8).bind fun r2 =>
    (ald h r2 x2).bind fun v3 =>
    if v3 = x1 then
      some (x2, h)
    else
      K2 a0 x1 (x2 + 1) h
set_option maxRecDepth 100000 in
set_option maxHeartbeats 4000000 in
theorem w_X9_whoGets_b2 (X : CX RX9 cX9_whoGets 3 (some .int) p s m args meth c G b) {out : Int32 × HP} (Z : ZI p l e RM_X9_whoGets s m args below meth c cX9_whoGets G b False 0 0 Q out) {K2 : Nat → Int32 → Int32 → HP → Option (Int32 × HP)} (hK2 : ∀ (a0 : Nat) (x1 : Int32) (x2 : Int32) (h : HP), K2 a0 x1 x2 h = some out → ∀ (H : Heap) (locs : List Loc) (ls : Array Slot), ST G b False s h H locs → lv_has ls 3 [(0, .ref (b + a0)), (1, .int x1), (2, .int x2)] → W p l e RM_X9_whoGets s m args below meth c H locs 0 0 Q (F0 m 2 ls [])) : ∀ (a0 : Nat) (x1 : Int32) (x2 : Int32) (h : HP), f_X9_whoGets_b2 K2 a0 x1 x2 h = some out → ∀ (H : Heap) (locs : List Loc) (ls : Array Slot), ST G b False s h H locs → lv_has ls 3 [(0, .ref (b + a0)), (1, .int x1), (2, .int x2)] → W p l e RM_X9_whoGets s m args below meth c H locs 0 0 Q (F0 m 2 ls []) := by
  intro a0 x1 x2 h hf H locs ls S hl
  unfold f_X9_whoGets_b2 at hf
  have hx := X.1
  have hb := X.2.1
  refine lv_iload_n hx hb dX9_whoGets_2 rfl (lv_at hl 2 rfl) ?_
  refine lv_aload_n hx hb dX9_whoGets_3 rfl (lv_at hl 0 rfl) ?_
  obtain ⟨v1, e_v1, hf⟩ := ob hf
  refine r_getI X S fl_X9_51 e_v1 dX9_whoGets_4 ?_
  refine lv_icmp_ge (tgt := 28) hx hb dX9_whoGets_7 (by decide) (fun hc => ?_) (fun hc => ?_)
  · replace hf := ip hf hc
    refine lv_iconst (v := (-1)) hx hb dX9_whoGets_28 (by decide) ?_
    obtain rfl := Option.some.inj hf
    exact Z _ _ _ _ dX9_whoGets_29 S
  · replace hf := im hf hc
    refine lv_aload_n hx hb dX9_whoGets_10 rfl (lv_at hl 0 rfl) ?_
    obtain ⟨r2, e_r2, hf⟩ := ob hf
    refine r_getR X S fl_X9_20 e_r2 dX9_whoGets_11 ?_
    refine lv_iload_n hx hb dX9_whoGets_14 rfl (lv_at hl 2 rfl) ?_
    obtain ⟨v3, e_v3, hf⟩ := ob hf
    refine r_ald X S e_v3 dX9_whoGets_15 ?_
    refine lv_iload_n hx hb dX9_whoGets_16 rfl (lv_at hl 1 rfl) ?_
    refine lv_icmp_ne (tgt := 22) hx hb dX9_whoGets_17 (by decide) (fun hc => ?_) (fun hc => ?_)
    · replace hf := im hf hc
      refine lv_iinc (v := x2 + 1) (lv' := [(2, .int (x2 + 1)), (0, .ref (b + a0)), (1, .int x1)]) hx hb dX9_whoGets_22 hl (k := 2) rfl rfl (by decide) rfl (fun ls hl => ?_)
      refine lv_goto (tgt := 2) hx hb dX9_whoGets_25 (by decide) ?_
      exact hK2 _ _ _ _ hf _ _ _ S (lv_sub hl [1, 2, 0] rfl)
    · replace hf := ip hf hc
      refine lv_iload_n hx hb dX9_whoGets_20 rfl (lv_at hl 2 rfl) ?_
      obtain rfl := Option.some.inj hf
      exact Z _ _ _ _ dX9_whoGets_21 S
def F_X9_whoGets_2  : Nat → Nat → Int32 → Int32 → HP → Option (Int32 × HP)
  | 0 => fun _ _ _ _ => none
  | n + 1 => fun a0 x1 x2 h => f_X9_whoGets_b2 (F_X9_whoGets_2  n) a0 x1 x2 h
theorem wl_X9_whoGets_2 (X : CX RX9 cX9_whoGets 3 (some .int) p s m args meth c G b) {out : Int32 × HP} (Z : ZI p l e RM_X9_whoGets s m args below meth c cX9_whoGets G b False 0 0 Q out)  : ∀ (n : Nat) (a0 : Nat) (x1 : Int32) (x2 : Int32) (h : HP), F_X9_whoGets_2  n a0 x1 x2 h = some out → ∀ (H : Heap) (locs : List Loc) (ls : Array Slot), ST G b False s h H locs → lv_has ls 3 [(0, .ref (b + a0)), (1, .int x1), (2, .int x2)] → W p l e RM_X9_whoGets s m args below meth c H locs 0 0 Q (F0 m 2 ls []) := by
  intro n
  induction n with
  | zero => intro a0 x1 x2 h hf; exact nn hf
  | succ n ih => exact w_X9_whoGets_b2 X Z ih
def f_X9_whoGets_e  (a0 : Nat) (x1 : Int32) (h : HP) : Option (Int32 × HP) :=
  F_X9_whoGets_2  FU a0 x1 0 h
set_option maxRecDepth 100000 in
set_option maxHeartbeats 4000000 in
theorem w_X9_whoGets_e (X : CX RX9 cX9_whoGets 3 (some .int) p s m args meth c G b) {out : Int32 × HP} (Z : ZI p l e RM_X9_whoGets s m args below meth c cX9_whoGets G b False 0 0 Q out)  : ∀ (a0 : Nat) (x1 : Int32) (h : HP), f_X9_whoGets_e  a0 x1 h = some out → ∀ (H : Heap) (locs : List Loc) (ls : Array Slot), ST G b False s h H locs → lv_has ls 3 [(0, .ref (b + a0)), (1, .int x1)] → W p l e RM_X9_whoGets s m args below meth c H locs 0 0 Q (F0 m 0 ls []) := by
  intro a0 x1 h hf H locs ls S hl
  unfold f_X9_whoGets_e at hf
  have hx := X.1
  have hb := X.2.1
  refine lv_iconst (v := 0) hx hb dX9_whoGets_0 (by decide) ?_
  refine lv_istore_n (lv' := [(2, .int 0), (0, .ref (b + a0)), (1, .int x1)]) hx hb dX9_whoGets_1 rfl hl (by decide) rfl (fun ls hl => ?_)
  exact wl_X9_whoGets_2 X Z  FU _ _ _ _ hf _ _ _ S (lv_sub hl [1, 2, 0] rfl)
def f_X9_whoGets (a0 : Nat) (x1 : Int32) (h : HP) : Option (Int32 × HP) := ck h a0 9 (f_X9_whoGets_e a0 x1 h)
theorem o_X9_whoGets {a0 : Nat} {x1 : Int32} {h : HP} {out : Int32 × HP} (hf : f_X9_whoGets a0 x1 h = some out) : ∃ fs, h[a0]? = some (.inl (9, fs)) := (ck_spec hf).1
set_option maxRecDepth 100000 in
theorem c_X9_whoGets {l : Launch} {G : GT} {b : Nat} {a0 : Nat} {x1 : Int32} {h : HP} {out : Int32 × HP} (hf : f_X9_whoGets a0 x1 h = some out) : MT l G b False False yX9_whoGets cX9_whoGets 3 (some .int) RM_X9_whoGets [.ref (b + a0), .int x1] h (some (.int out.1)) out.2 0 0 := by
  refine met_of (by decide) (Nat.le_of_ble_eq_true rfl) ?_
  intro p e s m below meth c ls X hnm S hl
  have hl : lv_has ls 3 [(0, .ref (b + a0)), (1, .int x1)] := hl
  replace hf := (ck_spec hf).2
  exact w_X9_whoGets_e X (z_i X) _ _ _ hf _ _ _ S hl
/-! RoomRingsModel.without()I -/
abbrev RM_X9_without : Room := { frames := 0, cells := 0, slots := 0, locals := 0 }
def f_X9_without_b30 (K4 : Nat → Int32 → Int32 → HP → Option (Int32 × HP)) (a0 : Nat) (x2 : Int32) (s0 : Int32) (s1 : Int32) (h : HP) : Option (Int32 × HP) :=
  K4 a0 (s0 ||| s1) (x2 + 1) h
set_option maxRecDepth 100000 in
set_option maxHeartbeats 4000000 in
theorem w_X9_without_b30 (X : CX RX9 cX9_without 3 (some .int) p s m args meth c G b) {out : Int32 × HP} (Z : ZI p l e RM_X9_without s m args below meth c cX9_without G b False 0 0 Q out) {K4 : Nat → Int32 → Int32 → HP → Option (Int32 × HP)} (hK4 : ∀ (a0 : Nat) (x1 : Int32) (x2 : Int32) (h : HP), K4 a0 x1 x2 h = some out → ∀ (H : Heap) (locs : List Loc) (ls : Array Slot), ST G b False s h H locs → lv_has ls 3 [(0, .ref (b + a0)), (1, .int x1), (2, .int x2)] → W p l e RM_X9_without s m args below meth c H locs 0 0 Q (F0 m 4 ls [])) : ∀ (a0 : Nat) (x2 : Int32) (s0 : Int32) (s1 : Int32) (h : HP), f_X9_without_b30 K4 a0 x2 s0 s1 h = some out → ∀ (H : Heap) (locs : List Loc) (ls : Array Slot), ST G b False s h H locs → lv_has ls 3 [(0, .ref (b + a0)), (2, .int x2)] → W p l e RM_X9_without s m args below meth c H locs 0 0 Q (F0 m 30 ls [.int s1, .int s0]) := by
  intro a0 x2 s0 s1 h hf H locs ls S hl
  unfold f_X9_without_b30 at hf
  have hx := X.1
  have hb := X.2.1
  refine lv_ior hx hb dX9_without_30 ?_
  refine lv_istore_n (lv' := [(1, .int (s0 ||| s1)), (0, .ref (b + a0)), (2, .int x2)]) hx hb dX9_without_31 rfl hl (by decide) rfl (fun ls hl => ?_)
  refine lv_iinc (v := x2 + 1) (lv' := [(2, .int (x2 + 1)), (1, .int (s0 ||| s1)), (0, .ref (b + a0))]) hx hb dX9_without_32 hl (k := 2) rfl rfl (by decide) rfl (fun ls hl => ?_)
  refine lv_goto (tgt := 4) hx hb dX9_without_35 (by decide) ?_
  exact hK4 _ _ _ _ hf _ _ _ S (lv_sub hl [2, 1, 0] rfl)
def f_X9_without_b4 (K4 : Nat → Int32 → Int32 → HP → Option (Int32 × HP)) (a0 : Nat) (x1 : Int32) (x2 : Int32) (h : HP) : Option (Int32 × HP) :=
  (gI h a0 9 2).bind fun v1 =>
  if v1 ≤ x2 then
    some (x1, h)
  else
    (gR h a0 9 8).bind fun r2 =>
    (ald h r2 x2).bind fun v3 =>
    if v3 = (-1) then
      f_X9_without_b30 K4 a0 x2 x1 (1 <<< (x2 &&& 31)) h
    else
      f_X9_without_b30 K4 a0 x2 x1 0 h
set_option maxRecDepth 100000 in
set_option maxHeartbeats 4000000 in
theorem w_X9_without_b4 (X : CX RX9 cX9_without 3 (some .int) p s m args meth c G b) {out : Int32 × HP} (Z : ZI p l e RM_X9_without s m args below meth c cX9_without G b False 0 0 Q out) {K4 : Nat → Int32 → Int32 → HP → Option (Int32 × HP)} (hK4 : ∀ (a0 : Nat) (x1 : Int32) (x2 : Int32) (h : HP), K4 a0 x1 x2 h = some out → ∀ (H : Heap) (locs : List Loc) (ls : Array Slot), ST G b False s h H locs → lv_has ls 3 [(0, .ref (b + a0)), (1, .int x1), (2, .int x2)] → W p l e RM_X9_without s m args below meth c H locs 0 0 Q (F0 m 4 ls [])) : ∀ (a0 : Nat) (x1 : Int32) (x2 : Int32) (h : HP), f_X9_without_b4 K4 a0 x1 x2 h = some out → ∀ (H : Heap) (locs : List Loc) (ls : Array Slot), ST G b False s h H locs → lv_has ls 3 [(0, .ref (b + a0)), (1, .int x1), (2, .int x2)] → W p l e RM_X9_without s m args below meth c H locs 0 0 Q (F0 m 4 ls []) := by
  intro a0 x1 x2 h hf H locs ls S hl
  unfold f_X9_without_b4 at hf
  have hx := X.1
  have hb := X.2.1
  refine lv_iload_n hx hb dX9_without_4 rfl (lv_at hl 2 rfl) ?_
  refine lv_aload_n hx hb dX9_without_5 rfl (lv_at hl 0 rfl) ?_
  obtain ⟨v1, e_v1, hf⟩ := ob hf
  refine r_getI X S fl_X9_51 e_v1 dX9_without_6 ?_
  refine lv_icmp_ge (tgt := 38) hx hb dX9_without_9 (by decide) (fun hc => ?_) (fun hc => ?_)
  · replace hf := ip hf hc
    refine lv_iload_n hx hb dX9_without_38 rfl (lv_at hl 1 rfl) ?_
    obtain rfl := Option.some.inj hf
    exact Z _ _ _ _ dX9_without_39 S
  · replace hf := im hf hc
    refine lv_iload_n hx hb dX9_without_12 rfl (lv_at hl 1 rfl) ?_
    refine lv_aload_n hx hb dX9_without_13 rfl (lv_at hl 0 rfl) ?_
    obtain ⟨r2, e_r2, hf⟩ := ob hf
    refine r_getR X S fl_X9_20 e_r2 dX9_without_14 ?_
    refine lv_iload_n hx hb dX9_without_17 rfl (lv_at hl 2 rfl) ?_
    obtain ⟨v3, e_v3, hf⟩ := ob hf
    refine r_ald X S e_v3 dX9_without_18 ?_
    refine lv_iconst (v := (-1)) hx hb dX9_without_19 (by decide) ?_
    refine lv_icmp_ne (tgt := 29) hx hb dX9_without_20 (by decide) (fun hc => ?_) (fun hc => ?_)
    · replace hf := im hf hc
      refine lv_iconst (v := 0) hx hb dX9_without_29 (by decide) ?_
      exact w_X9_without_b30 X Z hK4 _ _ _ _ _ hf _ _ _ S (lv_sub hl [0, 2] rfl)
    · replace hf := ip hf hc
      refine lv_iconst (v := 1) hx hb dX9_without_23 (by decide) ?_
      refine lv_iload_n hx hb dX9_without_24 rfl (lv_at hl 2 rfl) ?_
      refine lv_ishl hx hb dX9_without_25 ?_
      refine lv_goto (tgt := 30) hx hb dX9_without_26 (by decide) ?_
      exact w_X9_without_b30 X Z hK4 _ _ _ _ _ hf _ _ _ S (lv_sub hl [0, 2] rfl)
def F_X9_without_4  : Nat → Nat → Int32 → Int32 → HP → Option (Int32 × HP)
  | 0 => fun _ _ _ _ => none
  | n + 1 => fun a0 x1 x2 h => f_X9_without_b4 (F_X9_without_4  n) a0 x1 x2 h
theorem wl_X9_without_4 (X : CX RX9 cX9_without 3 (some .int) p s m args meth c G b) {out : Int32 × HP} (Z : ZI p l e RM_X9_without s m args below meth c cX9_without G b False 0 0 Q out)  : ∀ (n : Nat) (a0 : Nat) (x1 : Int32) (x2 : Int32) (h : HP), F_X9_without_4  n a0 x1 x2 h = some out → ∀ (H : Heap) (locs : List Loc) (ls : Array Slot), ST G b False s h H locs → lv_has ls 3 [(0, .ref (b + a0)), (1, .int x1), (2, .int x2)] → W p l e RM_X9_without s m args below meth c H locs 0 0 Q (F0 m 4 ls []) := by
  intro n
  induction n with
  | zero => intro a0 x1 x2 h hf; exact nn hf
  | succ n ih => exact w_X9_without_b4 X Z ih
def f_X9_without_e  (a0 : Nat) (h : HP) : Option (Int32 × HP) :=
  F_X9_without_4  FU a0 0 0 h
set_option maxRecDepth 100000 in
set_option maxHeartbeats 4000000 in
theorem w_X9_without_e (X : CX RX9 cX9_without 3 (some .int) p s m args meth c G b) {out : Int32 × HP} (Z : ZI p l e RM_X9_without s m args below meth c cX9_without G b False 0 0 Q out)  : ∀ (a0 : Nat) (h : HP), f_X9_without_e  a0 h = some out → ∀ (H : Heap) (locs : List Loc) (ls : Array Slot), ST G b False s h H locs → lv_has ls 3 [(0, .ref (b + a0))] → W p l e RM_X9_without s m args below meth c H locs 0 0 Q (F0 m 0 ls []) := by
  intro a0 h hf H locs ls S hl
  unfold f_X9_without_e at hf
  have hx := X.1
  have hb := X.2.1
  refine lv_iconst (v := 0) hx hb dX9_without_0 (by decide) ?_
  refine lv_istore_n (lv' := [(1, .int 0), (0, .ref (b + a0))]) hx hb dX9_without_1 rfl hl (by decide) rfl (fun ls hl => ?_)
  refine lv_iconst (v := 0) hx hb dX9_without_2 (by decide) ?_
  refine lv_istore_n (lv' := [(2, .int 0), (1, .int 0), (0, .ref (b + a0))]) hx hb dX9_without_3 rfl hl (by decide) rfl (fun ls hl => ?_)
  exact wl_X9_without_4 X Z  FU _ _ _ _ hf _ _ _ S (lv_sub hl [2, 1, 0] rfl)
def f_X9_without (a0 : Nat) (h : HP) : Option (Int32 × HP) := ck h a0 9 (f_X9_without_e a0 h)
theorem o_X9_without {a0 : Nat} {h : HP} {out : Int32 × HP} (hf : f_X9_without a0 h = some out) : ∃ fs, h[a0]? = some (.inl (9, fs)) := (ck_spec hf).1
set_option maxRecDepth 100000 in
theorem c_X9_without {l : Launch} {G : GT} {b : Nat} {a0 : Nat} {h : HP} {out : Int32 × HP} (hf : f_X9_without a0 h = some out) : MT l G b False False yX9_without cX9_without 3 (some .int) RM_X9_without [.ref (b + a0)] h (some (.int out.1)) out.2 0 0 := by
  refine met_of (by decide) (Nat.le_of_ble_eq_true rfl) ?_
  intro p e s m below meth c ls X hnm S hl
  have hl : lv_has ls 3 [(0, .ref (b + a0))] := hl
  replace hf := (ck_spec hf).2
  exact w_X9_without_e X (z_i X) _ _ hf _ _ _ S hl
end M14
