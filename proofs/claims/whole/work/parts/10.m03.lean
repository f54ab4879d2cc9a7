section M03
variable {p : Program} {l : Launch} {e : Env} {s : State} {m : MethodId} {args : Array Value} {below : List Frame} {meth : Method} {c : Code} {Q : State → Prop} {G : GT} {b : Nat}
/-! RoomRings$House.seat(II)V -/
abbrev RM_X3_seat : Room := { frames := 1, cells := 0, slots := 0, locals := 22 }
def f_X3_seat_e  (a0 : Nat) (x1 : Int32) (x2 : Int32) (h : HP) : Option (HP) :=
  (gR h a0 3 2).bind fun r1 =>
  (f_X8_put r1 x1 x2 h).bind fun h2 =>
  some h2
set_option maxRecDepth 100000 in
set_option maxHeartbeats 4000000 in
theorem w_X3_seat_e (X : CX RX3 cX3_seat 3 none p s m args meth c G b) {out : HP} (Z : ZV p l e RM_X3_seat s m args below meth c cX3_seat G b False 0 0 Q out)  : ∀ (a0 : Nat) (x1 : Int32) (x2 : Int32) (h : HP), f_X3_seat_e  a0 x1 x2 h = some out → ∀ (H : Heap) (locs : List Loc) (ls : Array Slot), ST G b False s h H locs → lv_has ls 3 [(0, .ref (b + a0)), (1, .int x1), (2, .int x2)] → W p l e RM_X3_seat s m args below meth c H locs 0 0 Q (F0 m 0 ls []) := by
  intro a0 x1 x2 h hf H locs ls S hl
  unfold f_X3_seat_e at hf
  have hx := X.1
  have hb := X.2.1
  refine lv_aload_n hx hb dX3_seat_0 rfl (lv_at hl 0 rfl) ?_
  obtain ⟨r1, e_r1, hf⟩ := ob hf
  refine r_getR X S fl_X3_9 e_r1 dX3_seat_1 ?_
  refine lv_iload_n hx hb dX3_seat_4 rfl (lv_at hl 1 rfl) ?_
  refine lv_iload_n hx hb dX3_seat_5 rfl (lv_at hl 2 rfl) ?_
  obtain ⟨h2, e_h2, hf⟩ := ob hf
  refine r_callSN X S hl.1 (As := [.ref (b + r1), .int x1, .int x2]) (rest := []) (c_X8_put e_h2) my_X8_put ms_X8_put nl_X3_37 ⟨rfl, rfl, Nat.le_of_ble_eq_true rfl, Nat.le_of_ble_eq_true rfl⟩ rfl rfl (Nat.le_of_ble_eq_true rfl) dX3_seat_6 ⟨Nat.le_of_ble_eq_true rfl, Nat.le_of_ble_eq_true rfl⟩ (fun H locs S => ?_)
  refine W.eq (g2 := F0 m 9 ls []) rfl ?_
  obtain rfl := Option.some.inj hf
  exact Z _ _ _ _ dX3_seat_9 S
def f_X3_seat (a0 : Nat) (x1 : Int32) (x2 : Int32) (h : HP) : Option (HP) := ck h a0 3 (f_X3_seat_e a0 x1 x2 h)
theorem o_X3_seat {a0 : Nat} {x1 : Int32} {x2 : Int32} {h : HP} {out : HP} (hf : f_X3_seat a0 x1 x2 h = some out) : ∃ fs, h[a0]? = some (.inl (3, fs)) := (ck_spec hf).1
set_option maxRecDepth 100000 in
theorem c_X3_seat {l : Launch} {G : GT} {b : Nat} {a0 : Nat} {x1 : Int32} {x2 : Int32} {h : HP} {out : HP} (hf : f_X3_seat a0 x1 x2 h = some out) : MT l G b False False yX3_seat cX3_seat 3 none RM_X3_seat [.ref (b + a0), .int x1, .int x2] h none out 0 0 := by
  refine met_of (by decide) (Nat.le_of_ble_eq_true rfl) ?_
  intro p e s m below meth c ls X hnm S hl
  have hl : lv_has ls 3 [(0, .ref (b + a0)), (1, .int x1), (2, .int x2)] := hl
  replace hf := (ck_spec hf).2
  exact w_X3_seat_e X (z_v X) _ _ _ _ hf _ _ _ S hl
/-! RoomRings$House.seatsOf(I)I -/
abbrev RM_X3_seatsOf : Room := { frames := 1, cells := 0, slots := 0, locals := 21 }
def f_X3_seatsOf_b33 (K4 : Nat → Int32 → Int32 → Int32 → HP → Option (Int32 × HP)) (a0 : Nat) (x1 : Int32) (x2 : Int32) (x3 : Int32) (h : HP) : Option (Int32 × HP) :=
  K4 a0 x1 x2 (x3 + 1) h
set_option maxRecDepth 100000 in
set_option maxHeartbeats 4000000 in
theorem w_X3_seatsOf_b33 (X : CX RX3 cX3_seatsOf 4 (some .int) p s m args meth c G b) {out : Int32 × HP} (Z : ZI p l e RM_X3_seatsOf s m args below meth c cX3_seatsOf G b False 0 0 Q out) {K4 : Nat → Int32 → Int32 → Int32 → HP → Option (Int32 × HP)} (hK4 : ∀ (a0 : Nat) (x1 : Int32) (x2 : Int32) (x3 : Int32) (h : HP), K4 a0 x1 x2 x3 h = some out → ∀ (H : Heap) (locs : List Loc) (ls : Array Slot), ST G b False s h H locs → lv_has ls 4 [(0, .ref (b + a0)), (1, .int x1), (2, .int x2), (3, .int x3)] → W p l e RM_X3_seatsOf s m args below meth c H locs 0 0 Q (F0 m 4 ls [])) : ∀ (a0 : Nat) (x1 : Int32) (x2 : Int32) (x3 : Int32) (h : HP), f_X3_seatsOf_b33 K4 a0 x1 x2 x3 h = some out → ∀ (H : Heap) (locs : List Loc) (ls : Array Slot), ST G b False s h H locs → lv_has ls 4 [(0, .ref (b + a0)), (1, .int x1), (2, .int x2), (3, .int x3)] → W p l e RM_X3_seatsOf s m args below meth c H locs 0 0 Q (F0 m 33 ls []) := by
  intro a0 x1 x2 x3 h hf H locs ls S hl
  unfold f_X3_seatsOf_b33 at hf
  have hx := X.1
  have hb := X.2.1
  refine lv_iinc (v := x3 + 1) (lv' := [(3, .int (x3 + 1)), (0, .ref (b + a0)), (1, .int x1), (2, .int x2)]) hx hb dX3_seatsOf_33 hl (k := 3) rfl rfl (by decide) rfl (fun ls hl => ?_)
  refine lv_goto (tgt := 4) hx hb dX3_seatsOf_36 (by decide) ?_
  exact hK4 _ _ _ _ _ hf _ _ _ S (lv_sub hl [1, 2, 3, 0] rfl)
def f_X3_seatsOf_b4 (K4 : Nat → Int32 → Int32 → Int32 → HP → Option (Int32 × HP)) (a0 : Nat) (x1 : Int32) (x2 : Int32) (x3 : Int32) (h : HP) : Option (Int32 × HP) :=
  (gI h a0 3 1).bind fun v1 =>
  if v1 ≤ x3 then
    some (x2, h)
  else
    (f_X8_holds x1 x3 h).bind fun q2 =>
    if q2.1 = 0 then
      f_X3_seatsOf_b33 K4 a0 x1 x2 x3 q2.2
    else
      (gR q2.2 a0 3 2).bind fun r3 =>
      (f_X8_at r3 x3 q2.2).bind fun q4 =>
      (f_X8_with x2 q4.1 q4.2).bind fun q5 =>
      f_X3_seatsOf_b33 K4 a0 x1 q5.1 x3 q5.2
set_option maxRecDepth 100000 in
set_option maxHeartbeats 4000000 in
theorem w_X3_seatsOf_b4 (X : CX RX3 cX3_seatsOf 4 (some .int) p s m args meth c G b) {out : Int32 × HP} (Z : ZI p l e RM_X3_seatsOf s m args below meth c cX3_seatsOf G b False 0 0 Q out) {K4 : Nat → Int32 → Int32 → Int32 → HP → Option (Int32 × HP)} (hK4 : ∀ (a0 : Nat) (x1 : Int32) (x2 : Int32) (x3 : Int32) (h : HP), K4 a0 x1 x2 x3 h = some out → ∀ (H : Heap) (locs : List Loc) (ls : Array Slot), ST G b False s h H locs → lv_has ls 4 [(0, .ref (b + a0)), (1, .int x1), (2, .int x2), (3, .int x3)] → W p l e RM_X3_seatsOf s m args below meth c H locs 0 0 Q (F0 m 4 ls [])) : ∀ (a0 : Nat) (x1 : Int32) (x2 : Int32) (x3 : Int32) (h : HP), f_X3_seatsOf_b4 K4 a0 x1 x2 x3 h = some out → ∀ (H : Heap) (locs : List Loc) (ls : Array Slot), ST G b False s h H locs → lv_has ls 4 [(0, .ref (b + a0)), (1, .int x1), (2, .int x2), (3, .int x3)] → W p l e RM_X3_seatsOf s m args below meth c H locs 0 0 Q (F0 m 4 ls []) := by
  intro a0 x1 x2 x3 h hf H locs ls S hl
  unfold f_X3_seatsOf_b4 at hf
  have hx := X.1
  have hb := X.2.1
  refine lv_iload_n hx hb dX3_seatsOf_4 rfl (lv_at hl 3 rfl) ?_
  refine lv_aload_n hx hb dX3_seatsOf_5 rfl (lv_at hl 0 rfl) ?_
  obtain ⟨v1, e_v1, hf⟩ := ob hf
  refine r_getI X S fl_X3_28 e_v1 dX3_seatsOf_6 ?_
  refine lv_icmp_ge (tgt := 39) hx hb dX3_seatsOf_9 (by decide) (fun hc => ?_) (fun hc => ?_)
  · replace hf := ip hf hc
    refine lv_iload_n hx hb dX3_seatsOf_39 rfl (lv_at hl 2 rfl) ?_
    obtain rfl := Option.some.inj hf
    exact Z _ _ _ _ dX3_seatsOf_40 S
  · replace hf := im hf hc
    refine lv_iload_n hx hb dX3_seatsOf_12 rfl (lv_at hl 1 rfl) ?_
    refine lv_iload_n hx hb dX3_seatsOf_13 rfl (lv_at hl 3 rfl) ?_
    obtain ⟨q2, e_q2, hf⟩ := ob hf
    refine r_callSN X S hl.1 (As := [.int x1, .int x3]) (rest := []) (c_X8_holds e_q2) my_X8_holds ms_X8_holds nl_X3_55 ⟨rfl, rfl, Nat.le_of_ble_eq_true rfl, Nat.le_of_ble_eq_true rfl⟩ rfl rfl (Nat.le_of_ble_eq_true rfl) dX3_seatsOf_14 ⟨Nat.le_of_ble_eq_true rfl, Nat.le_of_ble_eq_true rfl⟩ (fun H locs S => ?_)
    refine W.eq (g2 := F0 m 17 ls [.int q2.1]) rfl ?_
    refine lv_if_eq (tgt := 33) hx hb dX3_seatsOf_17 (by decide) (fun hc => ?_) (fun hc => ?_)
    · replace hf := ip hf hc
      exact w_X3_seatsOf_b33 X Z hK4 _ _ _ _ _ hf _ _ _ S (lv_sub hl [0, 1, 2, 3] rfl)
    · replace hf := im hf hc
      refine lv_iload_n hx hb dX3_seatsOf_20 rfl (lv_at hl 2 rfl) ?_
      refine lv_aload_n hx hb dX3_seatsOf_21 rfl (lv_at hl 0 rfl) ?_
      obtain ⟨r3, e_r3, hf⟩ := ob hf
      refine r_getR X S fl_X3_9 e_r3 dX3_seatsOf_22 ?_
      refine lv_iload_n hx hb dX3_seatsOf_25 rfl (lv_at hl 3 rfl) ?_
      obtain ⟨q4, e_q4, hf⟩ := ob hf
      refine r_callSN X S hl.1 (As := [.ref (b + r3), .int x3]) (rest := [.int x2]) (c_X8_at e_q4) my_X8_at ms_X8_at nl_X3_51 ⟨rfl, rfl, Nat.le_of_ble_eq_true rfl, Nat.le_of_ble_eq_true rfl⟩ rfl rfl (Nat.le_of_ble_eq_true rfl) dX3_seatsOf_26 ⟨Nat.le_of_ble_eq_true rfl, Nat.le_of_ble_eq_true rfl⟩ (fun H locs S => ?_)
      refine W.eq (g2 := F0 m 29 ls [.int q4.1, .int x2]) rfl ?_
      obtain ⟨q5, e_q5, hf⟩ := ob hf
      refine r_callSN X S hl.1 (As := [.int x2, .int q4.1]) (rest := []) (c_X8_with e_q5) my_X8_with ms_X8_with nl_X3_59 ⟨rfl, rfl, Nat.le_of_ble_eq_true rfl, Nat.le_of_ble_eq_true rfl⟩ rfl rfl (Nat.le_of_ble_eq_true rfl) dX3_seatsOf_29 ⟨Nat.le_of_ble_eq_true rfl, Nat.le_of_ble_eq_true rfl⟩ (fun H locs S => ?_)
      refine W.eq (g2 := F0 m 32 ls [.int q5.1]) rfl ?_
      refine lv_istore_n (lv' := [(2, .int q5.1), (0, .ref (b + a0)), (1, .int x1), (3, .int x3)]) hx hb dX3_seatsOf_32 rfl hl (by decide) rfl (fun ls hl => ?_)
      exact w_X3_seatsOf_b33 X Z hK4 _ _ _ _ _ hf _ _ _ S (lv_sub hl [1, 2, 0, 3] rfl)
def F_X3_seatsOf_4  : Nat → Nat → Int32 → Int32 → Int32 → HP → Option (Int32 × HP)
  | 0 => fun _ _ _ _ _ => none
  | n + 1 => fun a0 x1 x2 x3 h => f_X3_seatsOf_b4 (F_X3_seatsOf_4  n) a0 x1 x2 x3 h
theorem wl_X3_seatsOf_4 (X : CX RX3 cX3_seatsOf 4 (some .int) p s m args meth c G b) {out : Int32 × HP} (Z : ZI p l e RM_X3_seatsOf s m args below meth c cX3_seatsOf G b False 0 0 Q out)  : ∀ (n : Nat) (a0 : Nat) (x1 : Int32) (x2 : Int32) (x3 : Int32) (h : HP), F_X3_seatsOf_4  n a0 x1 x2 x3 h = some out → ∀ (H : Heap) (locs : List Loc) (ls : Array Slot), ST G b False s h H locs → lv_has ls 4 [(0, .ref (b + a0)), (1, .int x1), (2, .int x2), (3, .int x3)] → W p l e RM_X3_seatsOf s m args below meth c H locs 0 0 Q (F0 m 4 ls []) := by
  intro n
  induction n with
  | zero => intro a0 x1 x2 x3 h hf; exact nn hf
  | succ n ih => exact w_X3_seatsOf_b4 X Z ih
def f_X3_seatsOf_e  (a0 : Nat) (x1 : Int32) (h : HP) : Option (Int32 × HP) :=
  F_X3_seatsOf_4  FU a0 x1 0 0 h
set_option maxRecDepth 100000 in
set_option maxHeartbeats 4000000 in
theorem w_X3_seatsOf_e (X : CX RX3 cX3_seatsOf 4 (some .int) p s m args meth c G b) {out : Int32 × HP} (Z : ZI p l e RM_X3_seatsOf s m args below meth c cX3_seatsOf G b False 0 0 Q out)  : ∀ (a0 : Nat) (x1 : Int32) (h : HP), f_X3_seatsOf_e  a0 x1 h = some out → ∀ (H : Heap) (locs : List Loc) (ls : Array Slot), ST G b False s h H locs → lv_has ls 4 [(0, .ref (b + a0)), (1, .int x1)] → W p l e RM_X3_seatsOf s m args below meth c H locs 0 0 Q (F0 m 0 ls []) := by
  intro a0 x1 h hf H locs ls S hl
  unfold f_X3_seatsOf_e at hf
  have hx := X.1
  have hb := X.2.1
  refine lv_iconst (v := 0) hx hb dX3_seatsOf_0 (by decide) ?_
  refine lv_istore_n (lv' := [(2, .int 0), (0, .ref (b + a0)), (1, .int x1)]) hx hb dX3_seatsOf_1 rfl hl (by decide) rfl (fun ls hl => ?_)
  refine lv_iconst (v := 0) hx hb dX3_seatsOf_2 (by decide) ?_
  refine lv_istore_n (lv' := [(3, .int 0), (2, .int 0), (0, .ref (b + a0)), (1, .int x1)]) hx hb dX3_seatsOf_3 rfl hl (by decide) rfl (fun ls hl => ?_)
  exact wl_X3_seatsOf_4 X Z  FU _ _ _ _ _ hf _ _ _ S (lv_sub hl [2, 3, 1, 0] rfl)
def f_X3_seatsOf (a0 : Nat) (x1 : Int32) (h : HP) : Option (Int32 × HP) := ck h a0 3 (f_X3_seatsOf_e a0 x1 h)
theorem o_X3_seatsOf {a0 : Nat} {x1 : Int32} {h : HP} {out : Int32 × HP} (hf : f_X3_seatsOf a0 x1 h = some out) : ∃ fs, h[a0]? = some (.inl (3, fs)) := (ck_spec hf).1
set_option maxRecDepth 100000 in
theorem c_X3_seatsOf {l : Launch} {G : GT} {b : Nat} {a0 : Nat} {x1 : Int32} {h : HP} {out : Int32 × HP} (hf : f_X3_seatsOf a0 x1 h = some out) : MT l G b False False yX3_seatsOf cX3_seatsOf 4 (some .int) RM_X3_seatsOf [.ref (b + a0), .int x1] h (some (.int out.1)) out.2 0 0 := by
  refine met_of (by decide) (Nat.le_of_ble_eq_true rfl) ?_
  intro p e s m below meth c ls X hnm S hl
  have hl : lv_has ls 4 [(0, .ref (b + a0)), (1, .int x1)] := hl
  replace hf := (ck_spec hf).2
  exact w_X3_seatsOf_e X (z_i X) _ _ _ hf _ _ _ S hl
/-! RoomRings$House.emptyRooms()I -/
abbrev RM_X3_emptyRooms : Room := { frames := 2, cells := 0, slots := 0, locals := 44 }
def f_X3_emptyRooms_e  (a0 : Nat) (h : HP) : Option (Int32 × HP) :=
  (gI h a0 3 0).bind fun v1 =>
  (f_X8_firstOnes v1 h).bind fun q2 =>
  (gI q2.2 a0 3 1).bind fun v3 =>
  (f_X8_firstOnes v3 q2.2).bind fun q4 =>
  (f_X3_seatsOf a0 q4.1 q4.2).bind fun q5 =>
  some ((q2.1 &&& (q5.1 ^^^ (-1))), q5.2)
set_option maxRecDepth 100000 in
set_option maxHeartbeats 4000000 in
theorem w_X3_emptyRooms_e (X : CX RX3 cX3_emptyRooms 1 (some .int) p s m args meth c G b) {out : Int32 × HP} (Z : ZI p l e RM_X3_emptyRooms s m args below meth c cX3_emptyRooms G b False 0 0 Q out)  : ∀ (a0 : Nat) (h : HP), f_X3_emptyRooms_e  a0 h = some out → ∀ (H : Heap) (locs : List Loc) (ls : Array Slot), ST G b False s h H locs → lv_has ls 1 [(0, .ref (b + a0))] → W p l e RM_X3_emptyRooms s m args below meth c H locs 0 0 Q (F0 m 0 ls []) := by
  intro a0 h hf H locs ls S hl
  unfold f_X3_emptyRooms_e at hf
  have hx := X.1
  have hb := X.2.1
  refine lv_aload_n hx hb dX3_emptyRooms_0 rfl (lv_at hl 0 rfl) ?_
  obtain ⟨v1, e_v1, hf⟩ := ob hf
  refine r_getI X S fl_X3_24 e_v1 dX3_emptyRooms_1 ?_
  obtain ⟨q2, e_q2, hf⟩ := ob hf
  refine r_callSN X S hl.1 (As := [.int v1]) (rest := []) (c_X8_firstOnes e_q2) my_X8_firstOnes ms_X8_firstOnes nl_X3_62 ⟨rfl, rfl, Nat.le_of_ble_eq_true rfl, Nat.le_of_ble_eq_true rfl⟩ rfl rfl (Nat.le_of_ble_eq_true rfl) dX3_emptyRooms_4 ⟨Nat.le_of_ble_eq_true rfl, Nat.le_of_ble_eq_true rfl⟩ (fun H locs S => ?_)
  refine W.eq (g2 := F0 m 7 ls [.int q2.1]) rfl ?_
  refine lv_aload_n hx hb dX3_emptyRooms_7 rfl (lv_at hl 0 rfl) ?_
  refine lv_aload_n hx hb dX3_emptyRooms_8 rfl (lv_at hl 0 rfl) ?_
  obtain ⟨v3, e_v3, hf⟩ := ob hf
  refine r_getI X S fl_X3_28 e_v3 dX3_emptyRooms_9 ?_
  obtain ⟨q4, e_q4, hf⟩ := ob hf
  refine r_callSN X S hl.1 (As := [.int v3]) (rest := [.ref (b + a0), .int q2.1]) (c_X8_firstOnes e_q4) my_X8_firstOnes ms_X8_firstOnes nl_X3_62 ⟨rfl, rfl, Nat.le_of_ble_eq_true rfl, Nat.le_of_ble_eq_true rfl⟩ rfl rfl (Nat.le_of_ble_eq_true rfl) dX3_emptyRooms_12 ⟨Nat.le_of_ble_eq_true rfl, Nat.le_of_ble_eq_true rfl⟩ (fun H locs S => ?_)
  refine W.eq (g2 := F0 m 15 ls [.int q4.1, .ref (b + a0), .int q2.1]) rfl ?_
  obtain ⟨q5, e_q5, hf⟩ := ob hf
  refine r_callV X S hl.1 (As := [.int q4.1]) (rest := [.int q2.1]) (c_X3_seatsOf e_q5) my_X3_seatsOf mv_X3_seatsOf ml_X3_66 rfl (o_X3_seatsOf e_q5) ⟨rfl, rfl, Nat.le_of_ble_eq_true rfl, Nat.le_of_ble_eq_true rfl⟩ rfl rfl (Nat.le_of_ble_eq_true rfl) dX3_emptyRooms_15 ⟨Nat.le_of_ble_eq_true rfl, Nat.le_of_ble_eq_true rfl⟩ (fun H locs S => ?_)
  refine W.eq (g2 := F0 m 18 ls [.int q5.1, .int q2.1]) rfl ?_
  refine lv_iconst (v := (-1)) hx hb dX3_emptyRooms_18 (by decide) ?_
  refine lv_ixor hx hb dX3_emptyRooms_19 ?_
  refine lv_iand hx hb dX3_emptyRooms_20 ?_
  obtain rfl := Option.some.inj hf
  exact Z _ _ _ _ dX3_emptyRooms_21 S
def f_X3_emptyRooms (a0 : Nat) (h : HP) : Option (Int32 × HP) := ck h a0 3 (f_X3_emptyRooms_e a0 h)
theorem o_X3_emptyRooms {a0 : Nat} {h : HP} {out : Int32 × HP} (hf : f_X3_emptyRooms a0 h = some out) : ∃ fs, h[a0]? = some (.inl (3, fs)) := (ck_spec hf).1
set_option maxRecDepth 100000 in
theorem c_X3_emptyRooms {l : Launch} {G : GT} {b : Nat} {a0 : Nat} {h : HP} {out : Int32 × HP} (hf : f_X3_emptyRooms a0 h = some out) : MT l G b False False yX3_emptyRooms cX3_emptyRooms 1 (some .int) RM_X3_emptyRooms [.ref (b + a0)] h (some (.int out.1)) out.2 0 0 := by
  refine met_of (by decide) (Nat.le_of_ble_eq_true rfl) ?_
  intro p e s m below meth c ls X hnm S hl
  have hl : lv_has ls 1 [(0, .ref (b + a0))] := hl
  replace hf := (ck_spec hf).2
  exact w_X3_emptyRooms_e X (z_i X) _ _ hf _ _ _ S hl
/-! RoomRings$House.amount(I)I -/
abbrev RM_X3_amount : Room := { frames := 1, cells := 0, slots := 0, locals := 21 }
def f_X3_amount_e  (a0 : Nat) (x1 : Int32) (h : HP) : Option (Int32 × HP) :=
  (gR h a0 3 3).bind fun r1 =>
  (f_X8_at r1 x1 h).bind fun q2 =>
  some (q2.1, q2.2)
set_option maxRecDepth 100000 in
set_option maxHeartbeats 4000000 in
theorem w_X3_amount_e (X : CX RX3 cX3_amount 2 (some .int) p s m args meth c G b) {out : Int32 × HP} (Z : ZI p l e RM_X3_amount s m args below meth c cX3_amount G b False 0 0 Q out)  : ∀ (a0 : Nat) (x1 : Int32) (h : HP), f_X3_amount_e  a0 x1 h = some out → ∀ (H : Heap) (locs : List Loc) (ls : Array Slot), ST G b False s h H locs → lv_has ls 2 [(0, .ref (b + a0)), (1, .int x1)] → W p l e RM_X3_amount s m args below meth c H locs 0 0 Q (F0 m 0 ls []) := by
  intro a0 x1 h hf H locs ls S hl
  unfold f_X3_amount_e at hf
  have hx := X.1
  have hb := X.2.1
  refine lv_aload_n hx hb dX3_amount_0 rfl (lv_at hl 0 rfl) ?_
  obtain ⟨r1, e_r1, hf⟩ := ob hf
  refine r_getR X S fl_X3_15 e_r1 dX3_amount_1 ?_
  refine lv_iload_n hx hb dX3_amount_4 rfl (lv_at hl 1 rfl) ?_
  obtain ⟨q2, e_q2, hf⟩ := ob hf
  refine r_callSN X S hl.1 (As := [.ref (b + r1), .int x1]) (rest := []) (c_X8_at e_q2) my_X8_at ms_X8_at nl_X3_51 ⟨rfl, rfl, Nat.le_of_ble_eq_true rfl, Nat.le_of_ble_eq_true rfl⟩ rfl rfl (Nat.le_of_ble_eq_true rfl) dX3_amount_5 ⟨Nat.le_of_ble_eq_true rfl, Nat.le_of_ble_eq_true rfl⟩ (fun H locs S => ?_)
  refine W.eq (g2 := F0 m 8 ls [.int q2.1]) rfl ?_
  obtain rfl := Option.some.inj hf
  exact Z _ _ _ _ dX3_amount_8 S
def f_X3_amount (a0 : Nat) (x1 : Int32) (h : HP) : Option (Int32 × HP) := ck h a0 3 (f_X3_amount_e a0 x1 h)
theorem o_X3_amount {a0 : Nat} {x1 : Int32} {h : HP} {out : Int32 × HP} (hf : f_X3_amount a0 x1 h = some out) : ∃ fs, h[a0]? = some (.inl (3, fs)) := (ck_spec hf).1
set_option maxRecDepth 100000 in
theorem c_X3_amount {l : Launch} {G : GT} {b : Nat} {a0 : Nat} {x1 : Int32} {h : HP} {out : Int32 × HP} (hf : f_X3_amount a0 x1 h = some out) : MT l G b False False yX3_amount cX3_amount 2 (some .int) RM_X3_amount [.ref (b + a0), .int x1] h (some (.int out.1)) out.2 0 0 := by
  refine met_of (by decide) (Nat.le_of_ble_eq_true rfl) ?_
  intro p e s m below meth c ls X hnm S hl
  have hl : lv_has ls 2 [(0, .ref (b + a0)), (1, .int x1)] := hl
  replace hf := (ck_spec hf).2
  exact w_X3_amount_e X (z_i X) _ _ _ hf _ _ _ S hl
/-! RoomRings$House.liking(II)I -/
abbrev RM_X3_liking : Room := { frames := 1, cells := 0, slots := 0, locals := 21 }
def f_X3_liking_b33  (s0 : Int32) (h : HP) : Option (Int32 × HP) :=
  some (s0, h)
set_option maxRecDepth 100000 in
set_option maxHeartbeats 4000000 in
theorem w_X3_liking_b33 (X : CX RX3 cX3_liking 3 (some .int) p s m args meth c G b) {out : Int32 × HP} (Z : ZI p l e RM_X3_liking s m args below meth c cX3_liking G b False 0 0 Q out)  : ∀ (s0 : Int32) (h : HP), f_X3_liking_b33  s0 h = some out → ∀ (H : Heap) (locs : List Loc) (ls : Array Slot), ST G b False s h H locs → lv_has ls 3 [] → W p l e RM_X3_liking s m args below meth c H locs 0 0 Q (F0 m 33 ls [.int s0]) := by
  intro s0 h hf H locs ls S hl
  unfold f_X3_liking_b33 at hf
  have hx := X.1
  have hb := X.2.1
  obtain rfl := Option.some.inj hf
  exact Z _ _ _ _ dX3_liking_33 S
def f_X3_liking_b32   (h : HP) : Option (Int32 × HP) :=
  f_X3_liking_b33  (-1) h
set_option maxRecDepth 100000 in
set_option maxHeartbeats 4000000 in
theorem w_X3_liking_b32 (X : CX RX3 cX3_liking 3 (some .int) p s m args meth c G b) {out : Int32 × HP} (Z : ZI p l e RM_X3_liking s m args below meth c cX3_liking G b False 0 0 Q out)  : ∀  (h : HP), f_X3_liking_b32   h = some out → ∀ (H : Heap) (locs : List Loc) (ls : Array Slot), ST G b False s h H locs → lv_has ls 3 [] → W p l e RM_X3_liking s m args below meth c H locs 0 0 Q (F0 m 32 ls []) := by
  intro  h hf H locs ls S hl
  unfold f_X3_liking_b32 at hf
  have hx := X.1
  have hb := X.2.1
  refine lv_iconst (v := (-1)) hx hb dX3_liking_32 (by decide) ?_
  exact w_X3_liking_b33 X Z  _ _ hf _ _ _ S (lv_sub hl [] rfl)
def f_X3_liking_e  (a0 : Nat) (x1 : Int32) (x2 : Int32) (h : HP) : Option (Int32 × HP) :=
  if x2 < 0 then
    f_X3_liking_b32   h
  else
    (gR h a0 3 3).bind fun r1 =>
    (f_X8_at r1 x1 h).bind fun q2 =>
    if q2.1 ≤ x2 then
      f_X3_liking_b32   q2.2
    else
      (gR q2.2 a0 3 4).bind fun r3 =>
      (f_X8_at r3 ((x1 * 8) + x2) q2.2).bind fun q4 =>
      f_X3_liking_b33  q4.1 q4.2
set_option maxRecDepth 100000 in
set_option maxHeartbeats 4000000 in
theorem w_X3_liking_e (X : CX RX3 cX3_liking 3 (some .int) p s m args meth c G b) {out : Int32 × HP} (Z : ZI p l e RM_X3_liking s m args below meth c cX3_liking G b False 0 0 Q out)  : ∀ (a0 : Nat) (x1 : Int32) (x2 : Int32) (h : HP), f_X3_liking_e  a0 x1 x2 h = some out → ∀ (H : Heap) (locs : List Loc) (ls : Array Slot), ST G b False s h H locs → lv_has ls 3 [(0, .ref (b + a0)), (1, .int x1), (2, .int x2)] → W p l e RM_X3_liking s m args below meth c H locs 0 0 Q (F0 m 0 ls []) := by
  intro a0 x1 x2 h hf H locs ls S hl
  unfold f_X3_liking_e at hf
  have hx := X.1
  have hb := X.2.1
  refine lv_iload_n hx hb dX3_liking_0 rfl (lv_at hl 2 rfl) ?_
  refine lv_if_lt (tgt := 32) hx hb dX3_liking_1 (by decide) (fun hc => ?_) (fun hc => ?_)
  · replace hf := ip hf hc
    exact w_X3_liking_b32 X Z  _ hf _ _ _ S (lv_sub hl [] rfl)
  · replace hf := im hf hc
    refine lv_iload_n hx hb dX3_liking_4 rfl (lv_at hl 2 rfl) ?_
    refine lv_aload_n hx hb dX3_liking_5 rfl (lv_at hl 0 rfl) ?_
    obtain ⟨r1, e_r1, hf⟩ := ob hf
    refine r_getR X S fl_X3_15 e_r1 dX3_liking_6 ?_
    refine lv_iload_n hx hb dX3_liking_9 rfl (lv_at hl 1 rfl) ?_
    obtain ⟨q2, e_q2, hf⟩ := ob hf
    refine r_callSN X S hl.1 (As := [.ref (b + r1), .int x1]) (rest := [.int x2]) (c_X8_at e_q2) my_X8_at ms_X8_at nl_X3_51 ⟨rfl, rfl, Nat.le_of_ble_eq_true rfl, Nat.le_of_ble_eq_true rfl⟩ rfl rfl (Nat.le_of_ble_eq_true rfl) dX3_liking_10 ⟨Nat.le_of_ble_eq_true rfl, Nat.le_of_ble_eq_true rfl⟩ (fun H locs S => ?_)
    refine W.eq (g2 := F0 m 13 ls [.int q2.1, .int x2]) rfl ?_
    refine lv_icmp_ge (tgt := 32) hx hb dX3_liking_13 (by decide) (fun hc => ?_) (fun hc => ?_)
    · replace hf := ip hf hc
      exact w_X3_liking_b32 X Z  _ hf _ _ _ S (lv_sub hl [] rfl)
    · replace hf := im hf hc
      refine lv_aload_n hx hb dX3_liking_16 rfl (lv_at hl 0 rfl) ?_
      obtain ⟨r3, e_r3, hf⟩ := ob hf
      refine r_getR X S fl_X3_18 e_r3 dX3_liking_17 ?_
      refine lv_iload_n hx hb dX3_liking_20 rfl (lv_at hl 1 rfl) ?_
      refine lv_bipush (v := 8) hx hb dX3_liking_21 (by decide) ?_
      refine lv_imul hx hb dX3_liking_23 ?_
      refine lv_iload_n hx hb dX3_liking_24 rfl (lv_at hl 2 rfl) ?_
      refine lv_iadd hx hb dX3_liking_25 ?_
      obtain ⟨q4, e_q4, hf⟩ := ob hf
      refine r_callSN X S hl.1 (As := [.ref (b + r3), .int ((x1 * 8) + x2)]) (rest := []) (c_X8_at e_q4) my_X8_at ms_X8_at nl_X3_51 ⟨rfl, rfl, Nat.le_of_ble_eq_true rfl, Nat.le_of_ble_eq_true rfl⟩ rfl rfl (Nat.le_of_ble_eq_true rfl) dX3_liking_26 ⟨Nat.le_of_ble_eq_true rfl, Nat.le_of_ble_eq_true rfl⟩ (fun H locs S => ?_)
      refine W.eq (g2 := F0 m 29 ls [.int q4.1]) rfl ?_
      refine lv_goto (tgt := 33) hx hb dX3_liking_29 (by decide) ?_
      exact w_X3_liking_b33 X Z  _ _ hf _ _ _ S (lv_sub hl [] rfl)
def f_X3_liking (a0 : Nat) (x1 : Int32) (x2 : Int32) (h : HP) : Option (Int32 × HP) := ck h a0 3 (f_X3_liking_e a0 x1 x2 h)
theorem o_X3_liking {a0 : Nat} {x1 : Int32} {x2 : Int32} {h : HP} {out : Int32 × HP} (hf : f_X3_liking a0 x1 x2 h = some out) : ∃ fs, h[a0]? = some (.inl (3, fs)) := (ck_spec hf).1
set_option maxRecDepth 100000 in
theorem c_X3_liking {l : Launch} {G : GT} {b : Nat} {a0 : Nat} {x1 : Int32} {x2 : Int32} {h : HP} {out : Int32 × HP} (hf : f_X3_liking a0 x1 x2 h = some out) : MT l G b False False yX3_liking cX3_liking 3 (some .int) RM_X3_liking [.ref (b + a0), .int x1, .int x2] h (some (.int out.1)) out.2 0 0 := by
  refine met_of (by decide) (Nat.le_of_ble_eq_true rfl) ?_
  intro p e s m below meth c ls X hnm S hl
  have hl : lv_has ls 3 [(0, .ref (b + a0)), (1, .int x1), (2, .int x2)] := hl
  replace hf := (ck_spec hf).2
  exact w_X3_liking_e X (z_i X) _ _ _ _ hf _ _ _ S hl
/-! RoomRings$House.likingPlace(II)I -/
abbrev RM_X3_likingPlace : Room := { frames := 1, cells := 0, slots := 0, locals := 21 }
def f_X3_likingPlace_b12 (K12 : Nat → Int32 → Int32 → Int32 → Int32 → HP → Option (Int32 × HP)) (a0 : Nat) (x1 : Int32) (x2 : Int32) (x3 : Int32) (x4 : Int32) (h : HP) : Option (Int32 × HP) :=
  if x3 ≤ x4 then
    some ((-1), h)
  else
    (gR h a0 3 4).bind fun r1 =>
    (f_X8_at r1 ((x1 * 8) + x4) h).bind fun q2 =>
    if q2.1 = x2 then
      some (x4, q2.2)
    else
      K12 a0 x1 x2 x3 (x4 + 1) q2.2
set_option maxRecDepth 100000 in
set_option maxHeartbeats 4000000 in
theorem w_X3_likingPlace_b12 (X : CX RX3 cX3_likingPlace 5 (some .int) p s m args meth c G b) {out : Int32 × HP} (Z : ZI p l e RM_X3_likingPlace s m args below meth c cX3_likingPlace G b False 0 0 Q out) {K12 : Nat → Int32 → Int32 → Int32 → Int32 → HP → Option (Int32 × HP)} (hK12 : ∀ (a0 : Nat) (x1 : Int32) (x2 : Int32) (x3 : Int32) (x4 : Int32) (h : HP), K12 a0 x1 x2 x3 x4 h = some out → ∀ (H : Heap) (locs : List Loc) (ls : Array Slot), ST G b False s h H locs → lv_has ls 5 [(0, .ref (b + a0)), (1, .int x1), (2, .int x2), (3, .int x3), (4, .int x4)] → W p l e RM_X3_likingPlace s m args below meth c H locs 0 0 Q (F0 m 12 ls [])) : ∀ (a0 : Nat) (x1 : Int32) (x2 : Int32) (x3 : Int32) (x4 : Int32) (h : HP), f_X3_likingPlace_b12 K12 a0 x1 x2 x3 x4 h = some out → ∀ (H : Heap) (locs : List Loc) (ls : Array Slot), ST G b False s h H locs → lv_has ls 5 [(0, .ref (b + a0)), (1, .int x1), (2, .int x2), (3, .int x3), (4, .int x4)] → W p l e RM_X3_likingPlace s m args below meth c H locs 0 0 Q (F0 m 12 ls []) := by
  intro a0 x1 x2 x3 x4 h hf H locs ls S hl
  unfold f_X3_likingPlace_b12 at hf
  have hx := X.1
  have hb := X.2.1
  refine lv_iload hx hb dX3_likingPlace_12 (lv_at hl 4 rfl) ?_
  refine lv_iload_n hx hb dX3_likingPlace_14 rfl (lv_at hl 3 rfl) ?_
  refine lv_icmp_ge (tgt := 45) hx hb dX3_likingPlace_15 (by decide) (fun hc => ?_) (fun hc => ?_)
  · replace hf := ip hf hc
    refine lv_iconst (v := (-1)) hx hb dX3_likingPlace_45 (by decide) ?_
    obtain rfl := Option.some.inj hf
    exact Z _ _ _ _ dX3_likingPlace_46 S
  · replace hf := im hf hc
    refine lv_aload_n hx hb dX3_likingPlace_18 rfl (lv_at hl 0 rfl) ?_
    obtain ⟨r1, e_r1, hf⟩ := ob hf
    refine r_getR X S fl_X3_18 e_r1 dX3_likingPlace_19 ?_
    refine lv_iload_n hx hb dX3_likingPlace_22 rfl (lv_at hl 1 rfl) ?_
    refine lv_bipush (v := 8) hx hb dX3_likingPlace_23 (by decide) ?_
    refine lv_imul hx hb dX3_likingPlace_25 ?_
    refine lv_iload hx hb dX3_likingPlace_26 (lv_at hl 4 rfl) ?_
    refine lv_iadd hx hb dX3_likingPlace_28 ?_
    obtain ⟨q2, e_q2, hf⟩ := ob hf
    refine r_callSN X S hl.1 (As := [.ref (b + r1), .int ((x1 * 8) + x4)]) (rest := []) (c_X8_at e_q2) my_X8_at ms_X8_at nl_X3_51 ⟨rfl, rfl, Nat.le_of_ble_eq_true rfl, Nat.le_of_ble_eq_true rfl⟩ rfl rfl (Nat.le_of_ble_eq_true rfl) dX3_likingPlace_29 ⟨Nat.le_of_ble_eq_true rfl, Nat.le_of_ble_eq_true rfl⟩ (fun H locs S => ?_)
    refine W.eq (g2 := F0 m 32 ls [.int q2.1]) rfl ?_
    refine lv_iload_n hx hb dX3_likingPlace_32 rfl (lv_at hl 2 rfl) ?_
    refine lv_icmp_ne (tgt := 39) hx hb dX3_likingPlace_33 (by decide) (fun hc => ?_) (fun hc => ?_)
    · replace hf := im hf hc
      refine lv_iinc (v := x4 + 1) (lv' := [(4, .int (x4 + 1)), (0, .ref (b + a0)), (1, .int x1), (2, .int x2), (3, .int x3)]) hx hb dX3_likingPlace_39 hl (k := 4) rfl rfl (by decide) rfl (fun ls hl => ?_)
      refine lv_goto (tgt := 12) hx hb dX3_likingPlace_42 (by decide) ?_
      exact hK12 _ _ _ _ _ _ hf _ _ _ S (lv_sub hl [1, 2, 3, 4, 0] rfl)
    · replace hf := ip hf hc
      refine lv_iload hx hb dX3_likingPlace_36 (lv_at hl 4 rfl) ?_
      obtain rfl := Option.some.inj hf
      exact Z _ _ _ _ dX3_likingPlace_38 S
def F_X3_likingPlace_12  : Nat → Nat → Int32 → Int32 → Int32 → Int32 → HP → Option (Int32 × HP)
  | 0 => fun _ _ _ _ _ _ => none
  | n + 1 => fun a0 x1 x2 x3 x4 h => f_X3_likingPlace_b12 (F_X3_likingPlace_12  n) a0 x1 x2 x3 x4 h
theorem wl_X3_likingPlace_12 (X : CX RX3 cX3_likingPlace 5 (some .int) p s m args meth c G b) {out : Int32 × HP} (Z : ZI p l e RM_X3_likingPlace s m args below meth c cX3_likingPlace G b False 0 0 Q out)  : ∀ (n : Nat) (a0 : Nat) (x1 : Int32) (x2 : Int32) (x3 : Int32) (x4 : Int32) (h : HP), F_X3_likingPlace_12  n a0 x1 x2 x3 x4 h = some out → ∀ (H : Heap) (locs : List Loc) (ls : Array Slot), ST G b False s h H locs → lv_has ls 5 [(0, .ref (b + a0)), (1, .int x1), (2, .int x2), (3, .int x3), (4, .int x4)] → W p l e RM_X3_likingPlace s m args below meth c H locs 0 0 Q (F0 m 12 ls []) := by
  intro n
  induction n with
  | zero => intro a0 x1 x2 x3 x4 h hf; exact nn hf
  | succ n ih => exact w_X3_likingPlace_b12 X Z ih
def f_X3_likingPlace_e  (a0 : Nat) (x1 : Int32) (x2 : Int32) (h : HP) : Option (Int32 × HP) :=
  (gR h a0 3 3).bind fun r1 =>
  (f_X8_at r1 x1 h).bind fun q2 =>
  F_X3_likingPlace_12  FU a0 x1 x2 q2.1 0 q2.2
set_option maxRecDepth 100000 in
set_option maxHeartbeats 4000000 in
theorem w_X3_likingPlace_e (X : CX RX3 cX3_likingPlace 5 (some .int) p s m args meth c G b) {out : Int32 × HP} (Z : ZI p l e RM_X3_likingPlace s m args below meth c cX3_likingPlace G b False 0 0 Q out)  : ∀ (a0 : Nat) (x1 : Int32) (x2 : Int32) (h : HP), f_X3_likingPlace_e  a0 x1 x2 h = some out → ∀ (H : Heap) (locs : List Loc) (ls : Array Slot), ST G b False s h H locs → lv_has ls 5 [(0, .ref (b + a0)), (1, .int x1), (2, .int x2)] → W p l e RM_X3_likingPlace s m args below meth c H locs 0 0 Q (F0 m 0 ls []) := by
  intro a0 x1 x2 h hf H locs ls S hl
  unfold f_X3_likingPlace_e at hf
  have hx := X.1
  have hb := X.2.1
  refine lv_aload_n hx hb dX3_likingPlace_0 rfl (lv_at hl 0 rfl) ?_
  obtain ⟨r1, e_r1, hf⟩ := ob hf
  refine r_getR X S fl_X3_15 e_r1 dX3_likingPlace_1 ?_
  refine lv_iload_n hx hb dX3_likingPlace_4 rfl (lv_at hl 1 rfl) ?_
  obtain ⟨q2, e_q2, hf⟩ := ob hf
  refine r_callSN X S hl.1 (As := [.ref (b + r1), .int x1]) (rest := []) (c_X8_at e_q2) my_X8_at ms_X8_at nl_X3_51 ⟨rfl, rfl, Nat.le_of_ble_eq_true rfl, Nat.le_of_ble_eq_true rfl⟩ rfl rfl (Nat.le_of_ble_eq_true rfl) dX3_likingPlace_5 ⟨Nat.le_of_ble_eq_true rfl, Nat.le_of_ble_eq_true rfl⟩ (fun H locs S => ?_)
  refine W.eq (g2 := F0 m 8 ls [.int q2.1]) rfl ?_
  refine lv_istore_n (lv' := [(3, .int q2.1), (0, .ref (b + a0)), (1, .int x1), (2, .int x2)]) hx hb dX3_likingPlace_8 rfl hl (by decide) rfl (fun ls hl => ?_)
  refine lv_iconst (v := 0) hx hb dX3_likingPlace_9 (by decide) ?_
  refine lv_istore (lv' := [(4, .int 0), (3, .int q2.1), (0, .ref (b + a0)), (1, .int x1), (2, .int x2)]) hx hb dX3_likingPlace_10 hl (by decide) rfl (fun ls hl => ?_)
  exact wl_X3_likingPlace_12 X Z  FU _ _ _ _ _ _ hf _ _ _ S (lv_sub hl [2, 3, 4, 1, 0] rfl)
def f_X3_likingPlace (a0 : Nat) (x1 : Int32) (x2 : Int32) (h : HP) : Option (Int32 × HP) := ck h a0 3 (f_X3_likingPlace_e a0 x1 x2 h)
theorem o_X3_likingPlace {a0 : Nat} {x1 : Int32} {x2 : Int32} {h : HP} {out : Int32 × HP} (hf : f_X3_likingPlace a0 x1 x2 h = some out) : ∃ fs, h[a0]? = some (.inl (3, fs)) := (ck_spec hf).1
set_option maxRecDepth 100000 in
theorem c_X3_likingPlace {l : Launch} {G : GT} {b : Nat} {a0 : Nat} {x1 : Int32} {x2 : Int32} {h : HP} {out : Int32 × HP} (hf : f_X3_likingPlace a0 x1 x2 h = some out) : MT l G b False False yX3_likingPlace cX3_likingPlace 5 (some .int) RM_X3_likingPlace [.ref (b + a0), .int x1, .int x2] h (some (.int out.1)) out.2 0 0 := by
  refine met_of (by decide) (Nat.le_of_ble_eq_true rfl) ?_
  intro p e s m below meth c ls X hnm S hl
  have hl : lv_has ls 5 [(0, .ref (b + a0)), (1, .int x1), (2, .int x2)] := hl
  replace hf := (ck_spec hf).2
  exact w_X3_likingPlace_e X (z_i X) _ _ _ _ hf _ _ _ S hl
/-! RoomRings$House.addLiking(II)V -/
abbrev RM_X3_addLiking : Room := { frames := 1, cells := 0, slots := 0, locals := 22 }
def f_X3_addLiking_b44   (h : HP) : Option (HP) :=
  some h
set_option maxRecDepth 100000 in
set_option maxHeartbeats 4000000 in
theorem w_X3_addLiking_b44 (X : CX RX3 cX3_addLiking 4 none p s m args meth c G b) {out : HP} (Z : ZV p l e RM_X3_addLiking s m args below meth c cX3_addLiking G b False 0 0 Q out)  : ∀  (h : HP), f_X3_addLiking_b44   h = some out → ∀ (H : Heap) (locs : List Loc) (ls : Array Slot), ST G b False s h H locs → lv_has ls 4 [] → W p l e RM_X3_addLiking s m args below meth c H locs 0 0 Q (F0 m 44 ls []) := by
  intro  h hf H locs ls S hl
  unfold f_X3_addLiking_b44 at hf
  have hx := X.1
  have hb := X.2.1
  obtain rfl := Option.some.inj hf
  exact Z _ _ _ _ dX3_addLiking_44 S
def f_X3_addLiking_e  (a0 : Nat) (x1 : Int32) (x2 : Int32) (h : HP) : Option (HP) :=
  (gR h a0 3 3).bind fun r1 =>
  (f_X8_at r1 x1 h).bind fun q2 =>
  if q2.1 < 0 then
    f_X3_addLiking_b44   q2.2
  else
    if 8 ≤ q2.1 then
      f_X3_addLiking_b44   q2.2
    else
      (gR q2.2 a0 3 4).bind fun r3 =>
      (f_X8_put r3 ((x1 * 8) + q2.1) x2 q2.2).bind fun h4 =>
      (gR h4 a0 3 3).bind fun r5 =>
      (f_X8_put r5 x1 (q2.1 + 1) h4).bind fun h6 =>
      f_X3_addLiking_b44   h6
set_option maxRecDepth 100000 in
set_option maxHeartbeats 4000000 in
theorem w_X3_addLiking_e (X : CX RX3 cX3_addLiking 4 none p s m args meth c G b) {out : HP} (Z : ZV p l e RM_X3_addLiking s m args below meth c cX3_addLiking G b False 0 0 Q out)  : ∀ (a0 : Nat) (x1 : Int32) (x2 : Int32) (h : HP), f_X3_addLiking_e  a0 x1 x2 h = some out → ∀ (H : Heap) (locs : List Loc) (ls : Array Slot), ST G b False s h H locs → lv_has ls 4 [(0, .ref (b + a0)), (1, .int x1), (2, .int x2)] → W p l e RM_X3_addLiking s m args below meth c H locs 0 0 Q (F0 m 0 ls []) := by
  intro a0 x1 x2 h hf H locs ls S hl
  unfold f_X3_addLiking_e at hf
  have hx := X.1
  have hb := X.2.1
  refine lv_aload_n hx hb dX3_addLiking_0 rfl (lv_at hl 0 rfl) ?_
  obtain ⟨r1, e_r1, hf⟩ := ob hf
  refine r_getR X S fl_X3_15 e_r1 dX3_addLiking_1 ?_
  refine lv_iload_n hx hb dX3_addLiking_4 rfl (lv_at hl 1 rfl) ?_
  obtain ⟨q2, e_q2, hf⟩ := ob hf
  refine r_callSN X S hl.1 (As := [.ref (b + r1), .int x1]) (rest := []) (c_X8_at e_q2) my_X8_at ms_X8_at nl_X3_51 ⟨rfl, rfl, Nat.le_of_ble_eq_true rfl, Nat.le_of_ble_eq_true rfl⟩ rfl rfl (Nat.le_of_ble_eq_true rfl) dX3_addLiking_5 ⟨Nat.le_of_ble_eq_true rfl, Nat.le_of_ble_eq_true rfl⟩ (fun H locs S => ?_)
  refine W.eq (g2 := F0 m 8 ls [.int q2.1]) rfl ?_
  refine lv_istore_n (lv' := [(3, .int q2.1), (0, .ref (b + a0)), (1, .int x1), (2, .int x2)]) hx hb dX3_addLiking_8 rfl hl (by decide) rfl (fun ls hl => ?_)
  refine lv_iload_n hx hb dX3_addLiking_9 rfl (lv_at hl 0 rfl) ?_
  refine lv_if_lt (tgt := 44) hx hb dX3_addLiking_10 (by decide) (fun hc => ?_) (fun hc => ?_)
  · replace hf := ip hf hc
    exact w_X3_addLiking_b44 X Z  _ hf _ _ _ S (lv_sub hl [] rfl)
  · replace hf := im hf hc
    refine lv_iload_n hx hb dX3_addLiking_13 rfl (lv_at hl 0 rfl) ?_
    refine lv_bipush (v := 8) hx hb dX3_addLiking_14 (by decide) ?_
    refine lv_icmp_ge (tgt := 44) hx hb dX3_addLiking_16 (by decide) (fun hc => ?_) (fun hc => ?_)
    · replace hf := ip hf hc
      exact w_X3_addLiking_b44 X Z  _ hf _ _ _ S (lv_sub hl [] rfl)
    · replace hf := im hf hc
      refine lv_aload_n hx hb dX3_addLiking_19 rfl (lv_at hl 1 rfl) ?_
      obtain ⟨r3, e_r3, hf⟩ := ob hf
      refine r_getR X S fl_X3_18 e_r3 dX3_addLiking_20 ?_
      refine lv_iload_n hx hb dX3_addLiking_23 rfl (lv_at hl 2 rfl) ?_
      refine lv_bipush (v := 8) hx hb dX3_addLiking_24 (by decide) ?_
      refine lv_imul hx hb dX3_addLiking_26 ?_
      refine lv_iload_n hx hb dX3_addLiking_27 rfl (lv_at hl 0 rfl) ?_
      refine lv_iadd hx hb dX3_addLiking_28 ?_
      refine lv_iload_n hx hb dX3_addLiking_29 rfl (lv_at hl 3 rfl) ?_
      obtain ⟨h4, e_h4, hf⟩ := ob hf
      refine r_callSN X S hl.1 (As := [.ref (b + r3), .int ((x1 * 8) + q2.1), .int x2]) (rest := []) (c_X8_put e_h4) my_X8_put ms_X8_put nl_X3_37 ⟨rfl, rfl, Nat.le_of_ble_eq_true rfl, Nat.le_of_ble_eq_true rfl⟩ rfl rfl (Nat.le_of_ble_eq_true rfl) dX3_addLiking_30 ⟨Nat.le_of_ble_eq_true rfl, Nat.le_of_ble_eq_true rfl⟩ (fun H locs S => ?_)
      refine W.eq (g2 := F0 m 33 ls []) rfl ?_
      refine lv_aload_n hx hb dX3_addLiking_33 rfl (lv_at hl 1 rfl) ?_
      obtain ⟨r5, e_r5, hf⟩ := ob hf
      refine r_getR X S fl_X3_15 e_r5 dX3_addLiking_34 ?_
      refine lv_iload_n hx hb dX3_addLiking_37 rfl (lv_at hl 2 rfl) ?_
      refine lv_iload_n hx hb dX3_addLiking_38 rfl (lv_at hl 0 rfl) ?_
      refine lv_iconst (v := 1) hx hb dX3_addLiking_39 (by decide) ?_
      refine lv_iadd hx hb dX3_addLiking_40 ?_
      obtain ⟨h6, e_h6, hf⟩ := ob hf
      refine r_callSN X S hl.1 (As := [.ref (b + r5), .int x1, .int (q2.1 + 1)]) (rest := []) (c_X8_put e_h6) my_X8_put ms_X8_put nl_X3_37 ⟨rfl, rfl, Nat.le_of_ble_eq_true rfl, Nat.le_of_ble_eq_true rfl⟩ rfl rfl (Nat.le_of_ble_eq_true rfl) dX3_addLiking_41 ⟨Nat.le_of_ble_eq_true rfl, Nat.le_of_ble_eq_true rfl⟩ (fun H locs S => ?_)
      refine W.eq (g2 := F0 m 44 ls []) rfl ?_
      exact w_X3_addLiking_b44 X Z  _ hf _ _ _ S (lv_sub hl [] rfl)
def f_X3_addLiking (a0 : Nat) (x1 : Int32) (x2 : Int32) (h : HP) : Option (HP) := ck h a0 3 (f_X3_addLiking_e a0 x1 x2 h)
theorem o_X3_addLiking {a0 : Nat} {x1 : Int32} {x2 : Int32} {h : HP} {out : HP} (hf : f_X3_addLiking a0 x1 x2 h = some out) : ∃ fs, h[a0]? = some (.inl (3, fs)) := (ck_spec hf).1
set_option maxRecDepth 100000 in
theorem c_X3_addLiking {l : Launch} {G : GT} {b : Nat} {a0 : Nat} {x1 : Int32} {x2 : Int32} {h : HP} {out : HP} (hf : f_X3_addLiking a0 x1 x2 h = some out) : MT l G b False False yX3_addLiking cX3_addLiking 4 none RM_X3_addLiking [.ref (b + a0), .int x1, .int x2] h none out 0 0 := by
  refine met_of (by decide) (Nat.le_of_ble_eq_true rfl) ?_
  intro p e s m below meth c ls X hnm S hl
  have hl : lv_has ls 4 [(0, .ref (b + a0)), (1, .int x1), (2, .int x2)] := hl
  replace hf := (ck_spec hf).2
  exact w_X3_addLiking_e X (z_v X) _ _ _ _ hf _ _ _ S hl
/-! RoomRings$House.clearLikings(I)V -/
abbrev RM_X3_clearLikings : Room := { frames := 1, cells := 0, slots := 0, locals := 22 }
def f_X3_clearLikings_e  (a0 : Nat) (x1 : Int32) (h : HP) : Option (HP) :=
  (gR h a0 3 3).bind fun r1 =>
  (f_X8_put r1 x1 0 h).bind fun h2 =>
  some h2
set_option maxRecDepth 100000 in
set_option maxHeartbeats 4000000 in
theorem w_X3_clearLikings_e (X : CX RX3 cX3_clearLikings 2 none p s m args meth c G b) {out : HP} (Z : ZV p l e RM_X3_clearLikings s m args below meth c cX3_clearLikings G b False 0 0 Q out)  : ∀ (a0 : Nat) (x1 : Int32) (h : HP), f_X3_clearLikings_e  a0 x1 h = some out → ∀ (H : Heap) (locs : List Loc) (ls : Array Slot), ST G b False s h H locs → lv_has ls 2 [(0, .ref (b + a0)), (1, .int x1)] → W p l e RM_X3_clearLikings s m args below meth c H locs 0 0 Q (F0 m 0 ls []) := by
  intro a0 x1 h hf H locs ls S hl
  unfold f_X3_clearLikings_e at hf
  have hx := X.1
  have hb := X.2.1
  refine lv_aload_n hx hb dX3_clearLikings_0 rfl (lv_at hl 0 rfl) ?_
  obtain ⟨r1, e_r1, hf⟩ := ob hf
  refine r_getR X S fl_X3_15 e_r1 dX3_clearLikings_1 ?_
  refine lv_iload_n hx hb dX3_clearLikings_4 rfl (lv_at hl 1 rfl) ?_
  refine lv_iconst (v := 0) hx hb dX3_clearLikings_5 (by decide) ?_
  obtain ⟨h2, e_h2, hf⟩ := ob hf
  refine r_callSN X S hl.1 (As := [.ref (b + r1), .int x1, .int 0]) (rest := []) (c_X8_put e_h2) my_X8_put ms_X8_put nl_X3_37 ⟨rfl, rfl, Nat.le_of_ble_eq_true rfl, Nat.le_of_ble_eq_true rfl⟩ rfl rfl (Nat.le_of_ble_eq_true rfl) dX3_clearLikings_6 ⟨Nat.le_of_ble_eq_true rfl, Nat.le_of_ble_eq_true rfl⟩ (fun H locs S => ?_)
  refine W.eq (g2 := F0 m 9 ls []) rfl ?_
  obtain rfl := Option.some.inj hf
  exact Z _ _ _ _ dX3_clearLikings_9 S
def f_X3_clearLikings (a0 : Nat) (x1 : Int32) (h : HP) : Option (HP) := ck h a0 3 (f_X3_clearLikings_e a0 x1 h)
theorem o_X3_clearLikings {a0 : Nat} {x1 : Int32} {h : HP} {out : HP} (hf : f_X3_clearLikings a0 x1 h = some out) : ∃ fs, h[a0]? = some (.inl (3, fs)) := (ck_spec hf).1
set_option maxRecDepth 100000 in
theorem c_X3_clearLikings {l : Launch} {G : GT} {b : Nat} {a0 : Nat} {x1 : Int32} {h : HP} {out : HP} (hf : f_X3_clearLikings a0 x1 h = some out) : MT l G b False False yX3_clearLikings cX3_clearLikings 2 none RM_X3_clearLikings [.ref (b + a0), .int x1] h none out 0 0 := by
  refine met_of (by decide) (Nat.le_of_ble_eq_true rfl) ?_
  intro p e s m below meth c ls X hnm S hl
  have hl : lv_has ls 2 [(0, .ref (b + a0)), (1, .int x1)] := hl
  replace hf := (ck_spec hf).2
  exact w_X3_clearLikings_e X (z_v X) _ _ _ hf _ _ _ S hl
/-! RoomRings$House.dropLiking(II)V -/
abbrev RM_X3_dropLiking : Room := { frames := 2, cells := 0, slots := 0, locals := 45 }
def f_X3_dropLiking_b34 (K34 : Nat → Int32 → Int32 → Int32 → Int32 → HP → Option (HP)) (a0 : Nat) (x1 : Int32) (x4 : Int32) (x5 : Int32) (x6 : Int32) (h : HP) : Option (HP) :=
  if x5 ≤ x6 then
    (gR h a0 3 3).bind fun r1 =>
    (f_X8_put r1 x1 x5 h).bind fun h2 =>
    some h2
  else
    (gR h a0 3 4).bind fun r3 =>
    (gR h a0 3 4).bind fun r4 =>
    (f_X8_at r4 ((x4 + x6) + 1) h).bind fun q5 =>
    (f_X8_put r3 (x4 + x6) q5.1 q5.2).bind fun h6 =>
    K34 a0 x1 x4 x5 (x6 + 1) h6
set_option maxRecDepth 100000 in
set_option maxHeartbeats 4000000 in
theorem w_X3_dropLiking_b34 (X : CX RX3 cX3_dropLiking 7 none p s m args meth c G b) {out : HP} (Z : ZV p l e RM_X3_dropLiking s m args below meth c cX3_dropLiking G b False 0 0 Q out) {K34 : Nat → Int32 → Int32 → Int32 → Int32 → HP → Option (HP)} (hK34 : ∀ (a0 : Nat) (x1 : Int32) (x4 : Int32) (x5 : Int32) (x6 : Int32) (h : HP), K34 a0 x1 x4 x5 x6 h = some out → ∀ (H : Heap) (locs : List Loc) (ls : Array Slot), ST G b False s h H locs → lv_has ls 7 [(0, .ref (b + a0)), (1, .int x1), (4, .int x4), (5, .int x5), (6, .int x6)] → W p l e RM_X3_dropLiking s m args below meth c H locs 0 0 Q (F0 m 34 ls [])) : ∀ (a0 : Nat) (x1 : Int32) (x4 : Int32) (x5 : Int32) (x6 : Int32) (h : HP), f_X3_dropLiking_b34 K34 a0 x1 x4 x5 x6 h = some out → ∀ (H : Heap) (locs : List Loc) (ls : Array Slot), ST G b False s h H locs → lv_has ls 7 [(0, .ref (b + a0)), (1, .int x1), (4, .int x4), (5, .int x5), (6, .int x6)] → W p l e RM_X3_dropLiking s m args below meth c H locs 0 0 Q (F0 m 34 ls []) := by
  intro a0 x1 x4 x5 x6 h hf H locs ls S hl
  unfold f_X3_dropLiking_b34 at hf
  have hx := X.1
  have hb := X.2.1
  refine lv_iload hx hb dX3_dropLiking_34 (lv_at hl 4 rfl) ?_
  refine lv_iload hx hb dX3_dropLiking_36 (lv_at hl 3 rfl) ?_
  refine lv_icmp_ge (tgt := 73) hx hb dX3_dropLiking_38 (by decide) (fun hc => ?_) (fun hc => ?_)
  · replace hf := ip hf hc
    refine lv_aload_n hx hb dX3_dropLiking_73 rfl (lv_at hl 0 rfl) ?_
    obtain ⟨r1, e_r1, hf⟩ := ob hf
    refine r_getR X S fl_X3_15 e_r1 dX3_dropLiking_74 ?_
    refine lv_iload_n hx hb dX3_dropLiking_77 rfl (lv_at hl 1 rfl) ?_
    refine lv_iload hx hb dX3_dropLiking_78 (lv_at hl 3 rfl) ?_
    obtain ⟨h2, e_h2, hf⟩ := ob hf
    refine r_callSN X S hl.1 (As := [.ref (b + r1), .int x1, .int x5]) (rest := []) (c_X8_put e_h2) my_X8_put ms_X8_put nl_X3_37 ⟨rfl, rfl, Nat.le_of_ble_eq_true rfl, Nat.le_of_ble_eq_true rfl⟩ rfl rfl (Nat.le_of_ble_eq_true rfl) dX3_dropLiking_80 ⟨Nat.le_of_ble_eq_true rfl, Nat.le_of_ble_eq_true rfl⟩ (fun H locs S => ?_)
    refine W.eq (g2 := F0 m 83 ls []) rfl ?_
    obtain rfl := Option.some.inj hf
    exact Z _ _ _ _ dX3_dropLiking_83 S
  · replace hf := im hf hc
    refine lv_aload_n hx hb dX3_dropLiking_41 rfl (lv_at hl 0 rfl) ?_
    obtain ⟨r3, e_r3, hf⟩ := ob hf
    refine r_getR X S fl_X3_18 e_r3 dX3_dropLiking_42 ?_
    refine lv_iload hx hb dX3_dropLiking_45 (lv_at hl 2 rfl) ?_
    refine lv_iload hx hb dX3_dropLiking_47 (lv_at hl 4 rfl) ?_
    refine lv_iadd hx hb dX3_dropLiking_49 ?_
    refine lv_aload_n hx hb dX3_dropLiking_50 rfl (lv_at hl 0 rfl) ?_
    obtain ⟨r4, e_r4, hf⟩ := ob hf
    refine r_getR X S fl_X3_18 e_r4 dX3_dropLiking_51 ?_
    refine lv_iload hx hb dX3_dropLiking_54 (lv_at hl 2 rfl) ?_
    refine lv_iload hx hb dX3_dropLiking_56 (lv_at hl 4 rfl) ?_
    refine lv_iadd hx hb dX3_dropLiking_58 ?_
    refine lv_iconst (v := 1) hx hb dX3_dropLiking_59 (by decide) ?_
    refine lv_iadd hx hb dX3_dropLiking_60 ?_
    obtain ⟨q5, e_q5, hf⟩ := ob hf
    refine r_callSN X S hl.1 (As := [.ref (b + r4), .int ((x4 + x6) + 1)]) (rest := [.int (x4 + x6), .ref (b + r3)]) (c_X8_at e_q5) my_X8_at ms_X8_at nl_X3_51 ⟨rfl, rfl, Nat.le_of_ble_eq_true rfl, Nat.le_of_ble_eq_true rfl⟩ rfl rfl (Nat.le_of_ble_eq_true rfl) dX3_dropLiking_61 ⟨Nat.le_of_ble_eq_true rfl, Nat.le_of_ble_eq_true rfl⟩ (fun H locs S => ?_)
    refine W.eq (g2 := F0 m 64 ls [.int q5.1, .int (x4 + x6), .ref (b + r3)]) rfl ?_
    obtain ⟨h6, e_h6, hf⟩ := ob hf
    refine r_callSN X S hl.1 (As := [.ref (b + r3), .int (x4 + x6), .int q5.1]) (rest := []) (c_X8_put e_h6) my_X8_put ms_X8_put nl_X3_37 ⟨rfl, rfl, Nat.le_of_ble_eq_true rfl, Nat.le_of_ble_eq_true rfl⟩ rfl rfl (Nat.le_of_ble_eq_true rfl) dX3_dropLiking_64 ⟨Nat.le_of_ble_eq_true rfl, Nat.le_of_ble_eq_true rfl⟩ (fun H locs S => ?_)
    refine W.eq (g2 := F0 m 67 ls []) rfl ?_
    refine lv_iinc (v := x6 + 1) (lv' := [(6, .int (x6 + 1)), (0, .ref (b + a0)), (1, .int x1), (4, .int x4), (5, .int x5)]) hx hb dX3_dropLiking_67 hl (k := 4) rfl rfl (by decide) rfl (fun ls hl => ?_)
    refine lv_goto (tgt := 34) hx hb dX3_dropLiking_70 (by decide) ?_
    exact hK34 _ _ _ _ _ _ hf _ _ _ S (lv_sub hl [1, 2, 3, 4, 0] rfl)
def F_X3_dropLiking_34  : Nat → Nat → Int32 → Int32 → Int32 → Int32 → HP → Option (HP)
  | 0 => fun _ _ _ _ _ _ => none
  | n + 1 => fun a0 x1 x4 x5 x6 h => f_X3_dropLiking_b34 (F_X3_dropLiking_34  n) a0 x1 x4 x5 x6 h
theorem wl_X3_dropLiking_34 (X : CX RX3 cX3_dropLiking 7 none p s m args meth c G b) {out : HP} (Z : ZV p l e RM_X3_dropLiking s m args below meth c cX3_dropLiking G b False 0 0 Q out)  : ∀ (n : Nat) (a0 : Nat) (x1 : Int32) (x4 : Int32) (x5 : Int32) (x6 : Int32) (h : HP), F_X3_dropLiking_34  n a0 x1 x4 x5 x6 h = some out → ∀ (H : Heap) (locs : List Loc) (ls : Array Slot), ST G b False s h H locs → lv_has ls 7 [(0, .ref (b + a0)), (1, .int x1), (4, .int x4), (5, .int x5), (6, .int x6)] → W p l e RM_X3_dropLiking s m args below meth c H locs 0 0 Q (F0 m 34 ls []) := by
  intro n
  induction n with
  | zero => intro a0 x1 x4 x5 x6 h hf; exact nn hf
  | succ n ih => exact w_X3_dropLiking_b34 X Z ih
def f_X3_dropLiking_e  (a0 : Nat) (x1 : Int32) (x2 : Int32) (h : HP) : Option (HP) :=
  (f_X3_likingPlace a0 x1 x2 h).bind fun q1 =>
  if q1.1 = (-1) then
    some q1.2
  else
    (gR q1.2 a0 3 3).bind fun r2 =>
    (f_X8_at r2 x1 q1.2).bind fun q3 =>
    F_X3_dropLiking_34  FU a0 x1 (x1 * 8) (q3.1 - 1) q1.1 q3.2
set_option maxRecDepth 100000 in
set_option maxHeartbeats 4000000 in
theorem w_X3_dropLiking_e (X : CX RX3 cX3_dropLiking 7 none p s m args meth c G b) {out : HP} (Z : ZV p l e RM_X3_dropLiking s m args below meth c cX3_dropLiking G b False 0 0 Q out)  : ∀ (a0 : Nat) (x1 : Int32) (x2 : Int32) (h : HP), f_X3_dropLiking_e  a0 x1 x2 h = some out → ∀ (H : Heap) (locs : List Loc) (ls : Array Slot), ST G b False s h H locs → lv_has ls 7 [(0, .ref (b + a0)), (1, .int x1), (2, .int x2)] → W p l e RM_X3_dropLiking s m args below meth c H locs 0 0 Q (F0 m 0 ls []) := by
  intro a0 x1 x2 h hf H locs ls S hl
  unfold f_X3_dropLiking_e at hf
  have hx := X.1
  have hb := X.2.1
  refine lv_aload_n hx hb dX3_dropLiking_0 rfl (lv_at hl 0 rfl) ?_
  refine lv_iload_n hx hb dX3_dropLiking_1 rfl (lv_at hl 1 rfl) ?_
  refine lv_iload_n hx hb dX3_dropLiking_2 rfl (lv_at hl 2 rfl) ?_
  obtain ⟨q1, e_q1, hf⟩ := ob hf
  refine r_callV X S hl.1 (As := [.int x1, .int x2]) (rest := []) (c_X3_likingPlace e_q1) my_X3_likingPlace mv_X3_likingPlace ml_X3_69 rfl (o_X3_likingPlace e_q1) ⟨rfl, rfl, Nat.le_of_ble_eq_true rfl, Nat.le_of_ble_eq_true rfl⟩ rfl rfl (Nat.le_of_ble_eq_true rfl) dX3_dropLiking_3 ⟨Nat.le_of_ble_eq_true rfl, Nat.le_of_ble_eq_true rfl⟩ (fun H locs S => ?_)
  refine W.eq (g2 := F0 m 6 ls [.int q1.1]) rfl ?_
  refine lv_istore_n (lv' := [(3, .int q1.1), (0, .ref (b + a0)), (1, .int x1), (2, .int x2)]) hx hb dX3_dropLiking_6 rfl hl (by decide) rfl (fun ls hl => ?_)
  refine lv_iload_n hx hb dX3_dropLiking_7 rfl (lv_at hl 0 rfl) ?_
  refine lv_iconst (v := (-1)) hx hb dX3_dropLiking_8 (by decide) ?_
  refine lv_icmp_ne (tgt := 13) hx hb dX3_dropLiking_9 (by decide) (fun hc => ?_) (fun hc => ?_)
  · replace hf := im hf hc
    refine lv_iload_n hx hb dX3_dropLiking_13 rfl (lv_at hl 2 rfl) ?_
    refine lv_bipush (v := 8) hx hb dX3_dropLiking_14 (by decide) ?_
    refine lv_imul hx hb dX3_dropLiking_16 ?_
    refine lv_istore (lv' := [(4, .int (x1 * 8)), (3, .int q1.1), (0, .ref (b + a0)), (1, .int x1), (2, .int x2)]) hx hb dX3_dropLiking_17 hl (by decide) rfl (fun ls hl => ?_)
    refine lv_aload_n hx hb dX3_dropLiking_19 rfl (lv_at hl 2 rfl) ?_
    obtain ⟨r2, e_r2, hf⟩ := ob hf
    refine r_getR X S fl_X3_15 e_r2 dX3_dropLiking_20 ?_
    refine lv_iload_n hx hb dX3_dropLiking_23 rfl (lv_at hl 3 rfl) ?_
    obtain ⟨q3, e_q3, hf⟩ := ob hf
    refine r_callSN X S hl.1 (As := [.ref (b + r2), .int x1]) (rest := []) (c_X8_at e_q3) my_X8_at ms_X8_at nl_X3_51 ⟨rfl, rfl, Nat.le_of_ble_eq_true rfl, Nat.le_of_ble_eq_true rfl⟩ rfl rfl (Nat.le_of_ble_eq_true rfl) dX3_dropLiking_24 ⟨Nat.le_of_ble_eq_true rfl, Nat.le_of_ble_eq_true rfl⟩ (fun H locs S => ?_)
    refine W.eq (g2 := F0 m 27 ls [.int q3.1]) rfl ?_
    refine lv_iconst (v := 1) hx hb dX3_dropLiking_27 (by decide) ?_
    refine lv_isub hx hb dX3_dropLiking_28 ?_
    refine lv_istore (lv' := [(5, .int (q3.1 - 1)), (4, .int (x1 * 8)), (3, .int q1.1), (0, .ref (b + a0)), (1, .int x1), (2, .int x2)]) hx hb dX3_dropLiking_29 hl (by decide) rfl (fun ls hl => ?_)
    refine lv_iload_n hx hb dX3_dropLiking_31 rfl (lv_at hl 2 rfl) ?_
    refine lv_istore (lv' := [(6, .int q1.1), (5, .int (q3.1 - 1)), (4, .int (x1 * 8)), (3, .int q1.1), (0, .ref (b + a0)), (1, .int x1), (2, .int x2)]) hx hb dX3_dropLiking_32 hl (by decide) rfl (fun ls hl => ?_)
    exact wl_X3_dropLiking_34 X Z  FU _ _ _ _ _ _ hf _ _ _ S (lv_sub hl [4, 5, 2, 1, 0] rfl)
  · replace hf := ip hf hc
    obtain rfl := Option.some.inj hf
    exact Z _ _ _ _ dX3_dropLiking_12 S
def f_X3_dropLiking (a0 : Nat) (x1 : Int32) (x2 : Int32) (h : HP) : Option (HP) := ck h a0 3 (f_X3_dropLiking_e a0 x1 x2 h)
theorem o_X3_dropLiking {a0 : Nat} {x1 : Int32} {x2 : Int32} {h : HP} {out : HP} (hf : f_X3_dropLiking a0 x1 x2 h = some out) : ∃ fs, h[a0]? = some (.inl (3, fs)) := (ck_spec hf).1
set_option maxRecDepth 100000 in
theorem c_X3_dropLiking {l : Launch} {G : GT} {b : Nat} {a0 : Nat} {x1 : Int32} {x2 : Int32} {h : HP} {out : HP} (hf : f_X3_dropLiking a0 x1 x2 h = some out) : MT l G b False False yX3_dropLiking cX3_dropLiking 7 none RM_X3_dropLiking [.ref (b + a0), .int x1, .int x2] h none out 0 0 := by
  refine met_of (by decide) (Nat.le_of_ble_eq_true rfl) ?_
  intro p e s m below meth c ls X hnm S hl
  have hl : lv_has ls 7 [(0, .ref (b + a0)), (1, .int x1), (2, .int x2)] := hl
  replace hf := (ck_spec hf).2
  exact w_X3_dropLiking_e X (z_v X) _ _ _ _ hf _ _ _ S hl
/-! RoomRings$House.putLiking(III)V -/
abbrev RM_X3_putLiking : Room := { frames := 3, cells := 0, slots := 0, locals := 71 }
def f_X3_putLiking_b40 (K40 : Nat → Int32 → Int32 → Int32 → Int32 → HP → Option (HP)) (a0 : Nat) (x2 : Int32) (x4 : Int32) (x6 : Int32) (x7 : Int32) (h : HP) : Option (HP) :=
  if x7 ≤ x6 then
    (gR h a0 3 4).bind fun r1 =>
    (f_X8_put r1 (x4 + x6) x2 h).bind fun h2 =>
    some h2
  else
    (gR h a0 3 4).bind fun r3 =>
    (gR h a0 3 4).bind fun r4 =>
    (f_X8_at r4 ((x4 + x7) - 1) h).bind fun q5 =>
    (f_X8_put r3 (x4 + x7) q5.1 q5.2).bind fun h6 =>
    K40 a0 x2 x4 x6 (x7 + (-1)) h6
set_option maxRecDepth 100000 in
set_option maxHeartbeats 4000000 in
theorem w_X3_putLiking_b40 (X : CX RX3 cX3_putLiking 8 none p s m args meth c G b) {out : HP} (Z : ZV p l e RM_X3_putLiking s m args below meth c cX3_putLiking G b False 0 0 Q out) {K40 : Nat → Int32 → Int32 → Int32 → Int32 → HP → Option (HP)} (hK40 : ∀ (a0 : Nat) (x2 : Int32) (x4 : Int32) (x6 : Int32) (x7 : Int32) (h : HP), K40 a0 x2 x4 x6 x7 h = some out → ∀ (H : Heap) (locs : List Loc) (ls : Array Slot), ST G b False s h H locs → lv_has ls 8 [(0, .ref (b + a0)), (2, .int x2), (4, .int x4), (6, .int x6), (7, .int x7)] → W p l e RM_X3_putLiking s m args below meth c H locs 0 0 Q (F0 m 40 ls [])) : ∀ (a0 : Nat) (x2 : Int32) (x4 : Int32) (x6 : Int32) (x7 : Int32) (h : HP), f_X3_putLiking_b40 K40 a0 x2 x4 x6 x7 h = some out → ∀ (H : Heap) (locs : List Loc) (ls : Array Slot), ST G b False s h H locs → lv_has ls 8 [(0, .ref (b + a0)), (2, .int x2), (4, .int x4), (6, .int x6), (7, .int x7)] → W p l e RM_X3_putLiking s m args below meth c H locs 0 0 Q (F0 m 40 ls []) := by
  intro a0 x2 x4 x6 x7 h hf H locs ls S hl
  unfold f_X3_putLiking_b40 at hf
  have hx := X.1
  have hb := X.2.1
  refine lv_iload hx hb dX3_putLiking_40 (lv_at hl 4 rfl) ?_
  refine lv_iload hx hb dX3_putLiking_42 (lv_at hl 3 rfl) ?_
  refine lv_icmp_le (tgt := 79) hx hb dX3_putLiking_44 (by decide) (fun hc => ?_) (fun hc => ?_)
  · replace hf := ip hf hc
    refine lv_aload_n hx hb dX3_putLiking_79 rfl (lv_at hl 0 rfl) ?_
    obtain ⟨r1, e_r1, hf⟩ := ob hf
    refine r_getR X S fl_X3_18 e_r1 dX3_putLiking_80 ?_
    refine lv_iload hx hb dX3_putLiking_83 (lv_at hl 2 rfl) ?_
    refine lv_iload hx hb dX3_putLiking_85 (lv_at hl 3 rfl) ?_
    refine lv_iadd hx hb dX3_putLiking_87 ?_
    refine lv_iload_n hx hb dX3_putLiking_88 rfl (lv_at hl 1 rfl) ?_
    obtain ⟨h2, e_h2, hf⟩ := ob hf
    refine r_callSN X S hl.1 (As := [.ref (b + r1), .int (x4 + x6), .int x2]) (rest := []) (c_X8_put e_h2) my_X8_put ms_X8_put nl_X3_37 ⟨rfl, rfl, Nat.le_of_ble_eq_true rfl, Nat.le_of_ble_eq_true rfl⟩ rfl rfl (Nat.le_of_ble_eq_true rfl) dX3_putLiking_89 ⟨Nat.le_of_ble_eq_true rfl, Nat.le_of_ble_eq_true rfl⟩ (fun H locs S => ?_)
    refine W.eq (g2 := F0 m 92 ls []) rfl ?_
    obtain rfl := Option.some.inj hf
    exact Z _ _ _ _ dX3_putLiking_92 S
  · replace hf := im hf hc
    refine lv_aload_n hx hb dX3_putLiking_47 rfl (lv_at hl 0 rfl) ?_
    obtain ⟨r3, e_r3, hf⟩ := ob hf
    refine r_getR X S fl_X3_18 e_r3 dX3_putLiking_48 ?_
    refine lv_iload hx hb dX3_putLiking_51 (lv_at hl 2 rfl) ?_
    refine lv_iload hx hb dX3_putLiking_53 (lv_at hl 4 rfl) ?_
    refine lv_iadd hx hb dX3_putLiking_55 ?_
    refine lv_aload_n hx hb dX3_putLiking_56 rfl (lv_at hl 0 rfl) ?_
    obtain ⟨r4, e_r4, hf⟩ := ob hf
    refine r_getR X S fl_X3_18 e_r4 dX3_putLiking_57 ?_
    refine lv_iload hx hb dX3_putLiking_60 (lv_at hl 2 rfl) ?_
    refine lv_iload hx hb dX3_putLiking_62 (lv_at hl 4 rfl) ?_
    refine lv_iadd hx hb dX3_putLiking_64 ?_
    refine lv_iconst (v := 1) hx hb dX3_putLiking_65 (by decide) ?_
    refine lv_isub hx hb dX3_putLiking_66 ?_
    obtain ⟨q5, e_q5, hf⟩ := ob hf
    refine r_callSN X S hl.1 (As := [.ref (b + r4), .int ((x4 + x7) - 1)]) (rest := [.int (x4 + x7), .ref (b + r3)]) (c_X8_at e_q5) my_X8_at ms_X8_at nl_X3_51 ⟨rfl, rfl, Nat.le_of_ble_eq_true rfl, Nat.le_of_ble_eq_true rfl⟩ rfl rfl (Nat.le_of_ble_eq_true rfl) dX3_putLiking_67 ⟨Nat.le_of_ble_eq_true rfl, Nat.le_of_ble_eq_true rfl⟩ (fun H locs S => ?_)
    refine W.eq (g2 := F0 m 70 ls [.int q5.1, .int (x4 + x7), .ref (b + r3)]) rfl ?_
    obtain ⟨h6, e_h6, hf⟩ := ob hf
    refine r_callSN X S hl.1 (As := [.ref (b + r3), .int (x4 + x7), .int q5.1]) (rest := []) (c_X8_put e_h6) my_X8_put ms_X8_put nl_X3_37 ⟨rfl, rfl, Nat.le_of_ble_eq_true rfl, Nat.le_of_ble_eq_true rfl⟩ rfl rfl (Nat.le_of_ble_eq_true rfl) dX3_putLiking_70 ⟨Nat.le_of_ble_eq_true rfl, Nat.le_of_ble_eq_true rfl⟩ (fun H locs S => ?_)
    refine W.eq (g2 := F0 m 73 ls []) rfl ?_
    refine lv_iinc (v := x7 + (-1)) (lv' := [(7, .int (x7 + (-1))), (0, .ref (b + a0)), (2, .int x2), (4, .int x4), (6, .int x6)]) hx hb dX3_putLiking_73 hl (k := 4) rfl rfl (by decide) rfl (fun ls hl => ?_)
    refine lv_goto (tgt := 40) hx hb dX3_putLiking_76 (by decide) ?_
    exact hK40 _ _ _ _ _ _ hf _ _ _ S (lv_sub hl [1, 2, 3, 4, 0] rfl)
def F_X3_putLiking_40  : Nat → Nat → Int32 → Int32 → Int32 → Int32 → HP → Option (HP)
  | 0 => fun _ _ _ _ _ _ => none
  | n + 1 => fun a0 x2 x4 x6 x7 h => f_X3_putLiking_b40 (F_X3_putLiking_40  n) a0 x2 x4 x6 x7 h
theorem wl_X3_putLiking_40 (X : CX RX3 cX3_putLiking 8 none p s m args meth c G b) {out : HP} (Z : ZV p l e RM_X3_putLiking s m args below meth c cX3_putLiking G b False 0 0 Q out)  : ∀ (n : Nat) (a0 : Nat) (x2 : Int32) (x4 : Int32) (x6 : Int32) (x7 : Int32) (h : HP), F_X3_putLiking_40  n a0 x2 x4 x6 x7 h = some out → ∀ (H : Heap) (locs : List Loc) (ls : Array Slot), ST G b False s h H locs → lv_has ls 8 [(0, .ref (b + a0)), (2, .int x2), (4, .int x4), (6, .int x6), (7, .int x7)] → W p l e RM_X3_putLiking s m args below meth c H locs 0 0 Q (F0 m 40 ls []) := by
  intro n
  induction n with
  | zero => intro a0 x2 x4 x6 x7 h hf; exact nn hf
  | succ n ih => exact w_X3_putLiking_b40 X Z ih
def f_X3_putLiking_e  (a0 : Nat) (x1 : Int32) (x2 : Int32) (x3 : Int32) (h : HP) : Option (HP) :=
  (f_X3_dropLiking a0 x1 x2 h).bind fun h1 =>
  (gR h1 a0 3 3).bind fun r2 =>
  (f_X8_at r2 x1 h1).bind fun q3 =>
  (f_X3_addLiking a0 x1 x2 q3.2).bind fun h4 =>
  F_X3_putLiking_40  FU a0 x2 (x1 * 8) (if q3.1 < x3 then q3.1 else x3) q3.1 h4
set_option maxRecDepth 100000 in
set_option maxHeartbeats 4000000 in
theorem w_X3_putLiking_e (X : CX RX3 cX3_putLiking 8 none p s m args meth c G b) {out : HP} (Z : ZV p l e RM_X3_putLiking s m args below meth c cX3_putLiking G b False 0 0 Q out)  : ∀ (a0 : Nat) (x1 : Int32) (x2 : Int32) (x3 : Int32) (h : HP), f_X3_putLiking_e  a0 x1 x2 x3 h = some out → ∀ (H : Heap) (locs : List Loc) (ls : Array Slot), ST G b False s h H locs → lv_has ls 8 [(0, .ref (b + a0)), (1, .int x1), (2, .int x2), (3, .int x3)] → W p l e RM_X3_putLiking s m args below meth c H locs 0 0 Q (F0 m 0 ls []) := by
  intro a0 x1 x2 x3 h hf H locs ls S hl
  unfold f_X3_putLiking_e at hf
  have hx := X.1
  have hb := X.2.1
  refine lv_aload_n hx hb dX3_putLiking_0 rfl (lv_at hl 0 rfl) ?_
  refine lv_iload_n hx hb dX3_putLiking_1 rfl (lv_at hl 1 rfl) ?_
  refine lv_iload_n hx hb dX3_putLiking_2 rfl (lv_at hl 2 rfl) ?_
  obtain ⟨h1, e_h1, hf⟩ := ob hf
  refine r_callV X S hl.1 (As := [.int x1, .int x2]) (rest := []) (c_X3_dropLiking e_h1) my_X3_dropLiking mv_X3_dropLiking ml_X3_72 rfl (o_X3_dropLiking e_h1) ⟨rfl, rfl, Nat.le_of_ble_eq_true rfl, Nat.le_of_ble_eq_true rfl⟩ rfl rfl (Nat.le_of_ble_eq_true rfl) dX3_putLiking_3 ⟨Nat.le_of_ble_eq_true rfl, Nat.le_of_ble_eq_true rfl⟩ (fun H locs S => ?_)
  refine W.eq (g2 := F0 m 6 ls []) rfl ?_
  refine lv_iload_n hx hb dX3_putLiking_6 rfl (lv_at hl 1 rfl) ?_
  refine lv_bipush (v := 8) hx hb dX3_putLiking_7 (by decide) ?_
  refine lv_imul hx hb dX3_putLiking_9 ?_
  refine lv_istore (lv' := [(4, .int (x1 * 8)), (0, .ref (b + a0)), (1, .int x1), (2, .int x2), (3, .int x3)]) hx hb dX3_putLiking_10 hl (by decide) rfl (fun ls hl => ?_)
  refine lv_aload_n hx hb dX3_putLiking_12 rfl (lv_at hl 1 rfl) ?_
  obtain ⟨r2, e_r2, hf⟩ := ob hf
  refine r_getR X S fl_X3_15 e_r2 dX3_putLiking_13 ?_
  refine lv_iload_n hx hb dX3_putLiking_16 rfl (lv_at hl 2 rfl) ?_
  obtain ⟨q3, e_q3, hf⟩ := ob hf
  refine r_callSN X S hl.1 (As := [.ref (b + r2), .int x1]) (rest := []) (c_X8_at e_q3) my_X8_at ms_X8_at nl_X3_51 ⟨rfl, rfl, Nat.le_of_ble_eq_true rfl, Nat.le_of_ble_eq_true rfl⟩ rfl rfl (Nat.le_of_ble_eq_true rfl) dX3_putLiking_17 ⟨Nat.le_of_ble_eq_true rfl, Nat.le_of_ble_eq_true rfl⟩ (fun H locs S => ?_)
  refine W.eq (g2 := F0 m 20 ls [.int q3.1]) rfl ?_
  refine lv_istore (lv' := [(5, .int q3.1), (4, .int (x1 * 8)), (0, .ref (b + a0)), (1, .int x1), (2, .int x2), (3, .int x3)]) hx hb dX3_putLiking_20 hl (by decide) rfl (fun ls hl => ?_)
  refine lv_iload_n hx hb dX3_putLiking_22 rfl (lv_at hl 5 rfl) ?_
  refine lv_iload hx hb dX3_putLiking_23 (lv_at hl 0 rfl) ?_
  refine va_mmin hx hb (X.2.2.1.trans hl.1.symm) X.2.2.2.1 (X.2.2.2.2.1 _ mm_X3_41.1) (X.2.2.2.2.1 _ mm_X3_41.2.1) (X.2.2.2.2.1 _ mm_X3_41.2.2.1) (X.2.2.2.2.1 _ mm_X3_41.2.2.2) (Nat.le_of_ble_eq_true rfl) (Nat.le_of_ble_eq_true rfl) (Nat.zero_le _) (Nat.zero_le _) dX3_putLiking_25 ?_
  refine lv_istore (lv' := [(6, .int (if q3.1 < x3 then q3.1 else x3)), (5, .int q3.1), (4, .int (x1 * 8)), (0, .ref (b + a0)), (1, .int x1), (2, .int x2), (3, .int x3)]) hx hb dX3_putLiking_28 hl (by decide) rfl (fun ls hl => ?_)
  refine lv_aload_n hx hb dX3_putLiking_30 rfl (lv_at hl 3 rfl) ?_
  refine lv_iload_n hx hb dX3_putLiking_31 rfl (lv_at hl 4 rfl) ?_
  refine lv_iload_n hx hb dX3_putLiking_32 rfl (lv_at hl 5 rfl) ?_
  obtain ⟨h4, e_h4, hf⟩ := ob hf
  refine r_callV X S hl.1 (As := [.int x1, .int x2]) (rest := []) (c_X3_addLiking e_h4) my_X3_addLiking mv_X3_addLiking ml_X3_76 rfl (o_X3_addLiking e_h4) ⟨rfl, rfl, Nat.le_of_ble_eq_true rfl, Nat.le_of_ble_eq_true rfl⟩ rfl rfl (Nat.le_of_ble_eq_true rfl) dX3_putLiking_33 ⟨Nat.le_of_ble_eq_true rfl, Nat.le_of_ble_eq_true rfl⟩ (fun H locs S => ?_)
  refine W.eq (g2 := F0 m 36 ls []) rfl ?_
  refine lv_iload hx hb dX3_putLiking_36 (lv_at hl 1 rfl) ?_
  refine lv_istore (lv' := [(7, .int q3.1), (6, .int (if q3.1 < x3 then q3.1 else x3)), (5, .int q3.1), (4, .int (x1 * 8)), (0, .ref (b + a0)), (1, .int x1), (2, .int x2), (3, .int x3)]) hx hb dX3_putLiking_38 hl (by decide) rfl (fun ls hl => ?_)
  exact wl_X3_putLiking_40 X Z  FU _ _ _ _ _ _ hf _ _ _ S (lv_sub hl [4, 6, 3, 1, 0] rfl)
def f_X3_putLiking (a0 : Nat) (x1 : Int32) (x2 : Int32) (x3 : Int32) (h : HP) : Option (HP) := ck h a0 3 (f_X3_putLiking_e a0 x1 x2 x3 h)
theorem o_X3_putLiking {a0 : Nat} {x1 : Int32} {x2 : Int32} {x3 : Int32} {h : HP} {out : HP} (hf : f_X3_putLiking a0 x1 x2 x3 h = some out) : ∃ fs, h[a0]? = some (.inl (3, fs)) := (ck_spec hf).1
set_option maxRecDepth 100000 in
theorem c_X3_putLiking {l : Launch} {G : GT} {b : Nat} {a0 : Nat} {x1 : Int32} {x2 : Int32} {x3 : Int32} {h : HP} {out : HP} (hf : f_X3_putLiking a0 x1 x2 x3 h = some out) : MT l G b False False yX3_putLiking cX3_putLiking 8 none RM_X3_putLiking [.ref (b + a0), .int x1, .int x2, .int x3] h none out 0 0 := by
  refine met_of (by decide) (Nat.le_of_ble_eq_true rfl) ?_
  intro p e s m below meth c ls X hnm S hl
  have hl : lv_has ls 8 [(0, .ref (b + a0)), (1, .int x1), (2, .int x2), (3, .int x3)] := hl
  replace hf := (ck_spec hf).2
  exact w_X3_putLiking_e X (z_v X) _ _ _ _ _ hf _ _ _ S hl
/-! RoomRings$House.placeOf(I)I -/
abbrev RM_X3_placeOf : Room := { frames := 1, cells := 0, slots := 0, locals := 21 }
def f_X3_placeOf_b2 (K2 : Nat → Int32 → Int32 → HP → Option (Int32 × HP)) (a0 : Nat) (x1 : Int32) (x2 : Int32) (h : HP) : Option (Int32 × HP) :=
  (gI h a0 3 1).bind fun v1 =>
  if v1 ≤ x2 then
    some ((-1), h)
  else
    (gR h a0 3 5).bind fun r2 =>
    (f_X8_at r2 x2 h).bind fun q3 =>
    if q3.1 = x1 then
      some (x2, q3.2)
    else
      K2 a0 x1 (x2 + 1) q3.2
set_option maxRecDepth 100000 in
set_option maxHeartbeats 4000000 in
theorem w_X3_placeOf_b2 (X : CX RX3 cX3_placeOf 3 (some .int) p s m args meth c G b) {out : Int32 × HP} (Z : ZI p l e RM_X3_placeOf s m args below meth c cX3_placeOf G b False 0 0 Q out) {K2 : Nat → Int32 → Int32 → HP → Option (Int32 × HP)} (hK2 : ∀ (a0 : Nat) (x1 : Int32) (x2 : Int32) (h : HP), K2 a0 x1 x2 h = some out → ∀ (H : Heap) (locs : List Loc) (ls : Array Slot), ST G b False s h H locs → lv_has ls 3 [(0, .ref (b + a0)), (1, .int x1), (2, .int x2)] → W p l e RM_X3_placeOf s m args below meth c H locs 0 0 Q (F0 m 2 ls [])) : ∀ (a0 : Nat) (x1 : Int32) (x2 : Int32) (h : HP), f_X3_placeOf_b2 K2 a0 x1 x2 h = some out → ∀ (H : Heap) (locs : List Loc) (ls : Array Slot), ST G b False s h H locs → lv_has ls 3 [(0, .ref (b + a0)), (1, .int x1), (2, .int x2)] → W p l e RM_X3_placeOf s m args below meth c H locs 0 0 Q (F0 m 2 ls []) := by
  intro a0 x1 x2 h hf H locs ls S hl
  unfold f_X3_placeOf_b2 at hf
  have hx := X.1
  have hb := X.2.1
  refine lv_iload_n hx hb dX3_placeOf_2 rfl (lv_at hl 2 rfl) ?_
  refine lv_aload_n hx hb dX3_placeOf_3 rfl (lv_at hl 0 rfl) ?_
  obtain ⟨v1, e_v1, hf⟩ := ob hf
  refine r_getI X S fl_X3_28 e_v1 dX3_placeOf_4 ?_
  refine lv_icmp_ge (tgt := 30) hx hb dX3_placeOf_7 (by decide) (fun hc => ?_) (fun hc => ?_)
  · replace hf := ip hf hc
    refine lv_iconst (v := (-1)) hx hb dX3_placeOf_30 (by decide) ?_
    obtain rfl := Option.some.inj hf
    exact Z _ _ _ _ dX3_placeOf_31 S
  · replace hf := im hf hc
    refine lv_aload_n hx hb dX3_placeOf_10 rfl (lv_at hl 0 rfl) ?_
    obtain ⟨r2, e_r2, hf⟩ := ob hf
    refine r_getR X S fl_X3_21 e_r2 dX3_placeOf_11 ?_
    refine lv_iload_n hx hb dX3_placeOf_14 rfl (lv_at hl 2 rfl) ?_
    obtain ⟨q3, e_q3, hf⟩ := ob hf
    refine r_callSN X S hl.1 (As := [.ref (b + r2), .int x2]) (rest := []) (c_X8_at e_q3) my_X8_at ms_X8_at nl_X3_51 ⟨rfl, rfl, Nat.le_of_ble_eq_true rfl, Nat.le_of_ble_eq_true rfl⟩ rfl rfl (Nat.le_of_ble_eq_true rfl) dX3_placeOf_15 ⟨Nat.le_of_ble_eq_true rfl, Nat.le_of_ble_eq_true rfl⟩ (fun H locs S => ?_)
    refine W.eq (g2 := F0 m 18 ls [.int q3.1]) rfl ?_
    refine lv_iload_n hx hb dX3_placeOf_18 rfl (lv_at hl 1 rfl) ?_
    refine lv_icmp_ne (tgt := 24) hx hb dX3_placeOf_19 (by decide) (fun hc => ?_) (fun hc => ?_)
    · replace hf := im hf hc
      refine lv_iinc (v := x2 + 1) (lv' := [(2, .int (x2 + 1)), (0, .ref (b + a0)), (1, .int x1)]) hx hb dX3_placeOf_24 hl (k := 2) rfl rfl (by decide) rfl (fun ls hl => ?_)
      refine lv_goto (tgt := 2) hx hb dX3_placeOf_27 (by decide) ?_
      exact hK2 _ _ _ _ hf _ _ _ S (lv_sub hl [1, 2, 0] rfl)
    · replace hf := ip hf hc
      refine lv_iload_n hx hb dX3_placeOf_22 rfl (lv_at hl 2 rfl) ?_
      obtain rfl := Option.some.inj hf
      exact Z _ _ _ _ dX3_placeOf_23 S
def F_X3_placeOf_2  : Nat → Nat → Int32 → Int32 → HP → Option (Int32 × HP)
  | 0 => fun _ _ _ _ => none
  | n + 1 => fun a0 x1 x2 h => f_X3_placeOf_b2 (F_X3_placeOf_2  n) a0 x1 x2 h
theorem wl_X3_placeOf_2 (X : CX RX3 cX3_placeOf 3 (some .int) p s m args meth c G b) {out : Int32 × HP} (Z : ZI p l e RM_X3_placeOf s m args below meth c cX3_placeOf G b False 0 0 Q out)  : ∀ (n : Nat) (a0 : Nat) (x1 : Int32) (x2 : Int32) (h : HP), F_X3_placeOf_2  n a0 x1 x2 h = some out → ∀ (H : Heap) (locs : List Loc) (ls : Array Slot), ST G b False s h H locs → lv_has ls 3 [(0, .ref (b + a0)), (1, .int x1), (2, .int x2)] → W p l e RM_X3_placeOf s m args below meth c H locs 0 0 Q (F0 m 2 ls []) := by
  intro n
  induction n with
  | zero => intro a0 x1 x2 h hf; exact nn hf
  | succ n ih => exact w_X3_placeOf_b2 X Z ih
def f_X3_placeOf_e  (a0 : Nat) (x1 : Int32) (h : HP) : Option (Int32 × HP) :=
  F_X3_placeOf_2  FU a0 x1 0 h
set_option maxRecDepth 100000 in
set_option maxHeartbeats 4000000 in
theorem w_X3_placeOf_e (X : CX RX3 cX3_placeOf 3 (some .int) p s m args meth c G b) {out : Int32 × HP} (Z : ZI p l e RM_X3_placeOf s m args below meth c cX3_placeOf G b False 0 0 Q out)  : ∀ (a0 : Nat) (x1 : Int32) (h : HP), f_X3_placeOf_e  a0 x1 h = some out → ∀ (H : Heap) (locs : List Loc) (ls : Array Slot), ST G b False s h H locs → lv_has ls 3 [(0, .ref (b + a0)), (1, .int x1)] → W p l e RM_X3_placeOf s m args below meth c H locs 0 0 Q (F0 m 0 ls []) := by
  intro a0 x1 h hf H locs ls S hl
  unfold f_X3_placeOf_e at hf
  have hx := X.1
  have hb := X.2.1
  refine lv_iconst (v := 0) hx hb dX3_placeOf_0 (by decide) ?_
  refine lv_istore_n (lv' := [(2, .int 0), (0, .ref (b + a0)), (1, .int x1)]) hx hb dX3_placeOf_1 rfl hl (by decide) rfl (fun ls hl => ?_)
  exact wl_X3_placeOf_2 X Z  FU _ _ _ _ hf _ _ _ S (lv_sub hl [1, 2, 0] rfl)
def f_X3_placeOf (a0 : Nat) (x1 : Int32) (h : HP) : Option (Int32 × HP) := ck h a0 3 (f_X3_placeOf_e a0 x1 h)
theorem o_X3_placeOf {a0 : Nat} {x1 : Int32} {h : HP} {out : Int32 × HP} (hf : f_X3_placeOf a0 x1 h = some out) : ∃ fs, h[a0]? = some (.inl (3, fs)) := (ck_spec hf).1
set_option maxRecDepth 100000 in
theorem c_X3_placeOf {l : Launch} {G : GT} {b : Nat} {a0 : Nat} {x1 : Int32} {h : HP} {out : Int32 × HP} (hf : f_X3_placeOf a0 x1 h = some out) : MT l G b False False yX3_placeOf cX3_placeOf 3 (some .int) RM_X3_placeOf [.ref (b + a0), .int x1] h (some (.int out.1)) out.2 0 0 := by
  refine met_of (by decide) (Nat.le_of_ble_eq_true rfl) ?_
  intro p e s m below meth c ls X hnm S hl
  have hl : lv_has ls 3 [(0, .ref (b + a0)), (1, .int x1)] := hl
  replace hf := (ck_spec hf).2
  exact w_X3_placeOf_e X (z_i X) _ _ _ hf _ _ _ S hl
/-! RoomRings$House.toPlace(II)V -/
abbrev RM_X3_toPlace : Room := { frames := 2, cells := 0, slots := 0, locals := 43 }
def f_X3_toPlace_b44 (K44 : Nat → Int32 → Int32 → Int32 → HP → Option (HP)) (a0 : Nat) (x1 : Int32) (x2 : Int32) (x4 : Int32) (h : HP) : Option (HP) :=
  if x4 ≤ x2 then
    (gR h a0 3 5).bind fun r1 =>
    (f_X8_put r1 x2 x1 h).bind fun h2 =>
    some h2
  else
    (gR h a0 3 5).bind fun r3 =>
    (gR h a0 3 5).bind fun r4 =>
    (f_X8_at r4 (x4 - 1) h).bind fun q5 =>
    (f_X8_put r3 x4 q5.1 q5.2).bind fun h6 =>
    K44 a0 x1 x2 (x4 + (-1)) h6
set_option maxRecDepth 100000 in
set_option maxHeartbeats 4000000 in
theorem w_X3_toPlace_b44 (X : CX RX3 cX3_toPlace 5 none p s m args meth c G b) {out : HP} (Z : ZV p l e RM_X3_toPlace s m args below meth c cX3_toPlace G b False 0 0 Q out) {K44 : Nat → Int32 → Int32 → Int32 → HP → Option (HP)} (hK44 : ∀ (a0 : Nat) (x1 : Int32) (x2 : Int32) (x4 : Int32) (h : HP), K44 a0 x1 x2 x4 h = some out → ∀ (H : Heap) (locs : List Loc) (ls : Array Slot), ST G b False s h H locs → lv_has ls 5 [(0, .ref (b + a0)), (1, .int x1), (2, .int x2), (4, .int x4)] → W p l e RM_X3_toPlace s m args below meth c H locs 0 0 Q (F0 m 44 ls [])) : ∀ (a0 : Nat) (x1 : Int32) (x2 : Int32) (x4 : Int32) (h : HP), f_X3_toPlace_b44 K44 a0 x1 x2 x4 h = some out → ∀ (H : Heap) (locs : List Loc) (ls : Array Slot), ST G b False s h H locs → lv_has ls 5 [(0, .ref (b + a0)), (1, .int x1), (2, .int x2), (4, .int x4)] → W p l e RM_X3_toPlace s m args below meth c H locs 0 0 Q (F0 m 44 ls []) := by
  intro a0 x1 x2 x4 h hf H locs ls S hl
  unfold f_X3_toPlace_b44 at hf
  have hx := X.1
  have hb := X.2.1
  refine lv_iload hx hb dX3_toPlace_44 (lv_at hl 3 rfl) ?_
  refine lv_iload_n hx hb dX3_toPlace_46 rfl (lv_at hl 2 rfl) ?_
  refine lv_icmp_le (tgt := 76) hx hb dX3_toPlace_47 (by decide) (fun hc => ?_) (fun hc => ?_)
  · replace hf := ip hf hc
    refine lv_aload_n hx hb dX3_toPlace_76 rfl (lv_at hl 0 rfl) ?_
    obtain ⟨r1, e_r1, hf⟩ := ob hf
    refine r_getR X S fl_X3_21 e_r1 dX3_toPlace_77 ?_
    refine lv_iload_n hx hb dX3_toPlace_80 rfl (lv_at hl 2 rfl) ?_
    refine lv_iload_n hx hb dX3_toPlace_81 rfl (lv_at hl 1 rfl) ?_
    obtain ⟨h2, e_h2, hf⟩ := ob hf
    refine r_callSN X S hl.1 (As := [.ref (b + r1), .int x2, .int x1]) (rest := []) (c_X8_put e_h2) my_X8_put ms_X8_put nl_X3_37 ⟨rfl, rfl, Nat.le_of_ble_eq_true rfl, Nat.le_of_ble_eq_true rfl⟩ rfl rfl (Nat.le_of_ble_eq_true rfl) dX3_toPlace_82 ⟨Nat.le_of_ble_eq_true rfl, Nat.le_of_ble_eq_true rfl⟩ (fun H locs S => ?_)
    refine W.eq (g2 := F0 m 85 ls []) rfl ?_
    obtain rfl := Option.some.inj hf
    exact Z _ _ _ _ dX3_toPlace_85 S
  · replace hf := im hf hc
    refine lv_aload_n hx hb dX3_toPlace_50 rfl (lv_at hl 0 rfl) ?_
    obtain ⟨r3, e_r3, hf⟩ := ob hf
    refine r_getR X S fl_X3_21 e_r3 dX3_toPlace_51 ?_
    refine lv_iload hx hb dX3_toPlace_54 (lv_at hl 3 rfl) ?_
    refine lv_aload_n hx hb dX3_toPlace_56 rfl (lv_at hl 0 rfl) ?_
    obtain ⟨r4, e_r4, hf⟩ := ob hf
    refine r_getR X S fl_X3_21 e_r4 dX3_toPlace_57 ?_
    refine lv_iload hx hb dX3_toPlace_60 (lv_at hl 3 rfl) ?_
    refine lv_iconst (v := 1) hx hb dX3_toPlace_62 (by decide) ?_
    refine lv_isub hx hb dX3_toPlace_63 ?_
    obtain ⟨q5, e_q5, hf⟩ := ob hf
    refine r_callSN X S hl.1 (As := [.ref (b + r4), .int (x4 - 1)]) (rest := [.int x4, .ref (b + r3)]) (c_X8_at e_q5) my_X8_at ms_X8_at nl_X3_51 ⟨rfl, rfl, Nat.le_of_ble_eq_true rfl, Nat.le_of_ble_eq_true rfl⟩ rfl rfl (Nat.le_of_ble_eq_true rfl) dX3_toPlace_64 ⟨Nat.le_of_ble_eq_true rfl, Nat.le_of_ble_eq_true rfl⟩ (fun H locs S => ?_)
    refine W.eq (g2 := F0 m 67 ls [.int q5.1, .int x4, .ref (b + r3)]) rfl ?_
    obtain ⟨h6, e_h6, hf⟩ := ob hf
    refine r_callSN X S hl.1 (As := [.ref (b + r3), .int x4, .int q5.1]) (rest := []) (c_X8_put e_h6) my_X8_put ms_X8_put nl_X3_37 ⟨rfl, rfl, Nat.le_of_ble_eq_true rfl, Nat.le_of_ble_eq_true rfl⟩ rfl rfl (Nat.le_of_ble_eq_true rfl) dX3_toPlace_67 ⟨Nat.le_of_ble_eq_true rfl, Nat.le_of_ble_eq_true rfl⟩ (fun H locs S => ?_)
    refine W.eq (g2 := F0 m 70 ls []) rfl ?_
    refine lv_iinc (v := x4 + (-1)) (lv' := [(4, .int (x4 + (-1))), (0, .ref (b + a0)), (1, .int x1), (2, .int x2)]) hx hb dX3_toPlace_70 hl (k := 3) rfl rfl (by decide) rfl (fun ls hl => ?_)
    refine lv_goto (tgt := 44) hx hb dX3_toPlace_73 (by decide) ?_
    exact hK44 _ _ _ _ _ hf _ _ _ S (lv_sub hl [1, 2, 3, 0] rfl)
def F_X3_toPlace_44  : Nat → Nat → Int32 → Int32 → Int32 → HP → Option (HP)
  | 0 => fun _ _ _ _ _ => none
  | n + 1 => fun a0 x1 x2 x4 h => f_X3_toPlace_b44 (F_X3_toPlace_44  n) a0 x1 x2 x4 h
theorem wl_X3_toPlace_44 (X : CX RX3 cX3_toPlace 5 none p s m args meth c G b) {out : HP} (Z : ZV p l e RM_X3_toPlace s m args below meth c cX3_toPlace G b False 0 0 Q out)  : ∀ (n : Nat) (a0 : Nat) (x1 : Int32) (x2 : Int32) (x4 : Int32) (h : HP), F_X3_toPlace_44  n a0 x1 x2 x4 h = some out → ∀ (H : Heap) (locs : List Loc) (ls : Array Slot), ST G b False s h H locs → lv_has ls 5 [(0, .ref (b + a0)), (1, .int x1), (2, .int x2), (4, .int x4)] → W p l e RM_X3_toPlace s m args below meth c H locs 0 0 Q (F0 m 44 ls []) := by
  intro n
  induction n with
  | zero => intro a0 x1 x2 x4 h hf; exact nn hf
  | succ n ih => exact w_X3_toPlace_b44 X Z ih
def f_X3_toPlace_b9 (K9 : Nat → Int32 → Int32 → Int32 → Int32 → HP → Option (HP)) (a0 : Nat) (x1 : Int32) (x2 : Int32) (x3 : Int32) (x4 : Int32) (h : HP) : Option (HP) :=
  if x2 ≤ x4 then
    F_X3_toPlace_44  FU a0 x1 x2 x3 h
  else
    (gR h a0 3 5).bind fun r1 =>
    (gR h a0 3 5).bind fun r2 =>
    (f_X8_at r2 (x4 + 1) h).bind fun q3 =>
    (f_X8_put r1 x4 q3.1 q3.2).bind fun h4 =>
    K9 a0 x1 x2 x3 (x4 + 1) h4
set_option maxRecDepth 100000 in
set_option maxHeartbeats 4000000 in
theorem w_X3_toPlace_b9 (X : CX RX3 cX3_toPlace 5 none p s m args meth c G b) {out : HP} (Z : ZV p l e RM_X3_toPlace s m args below meth c cX3_toPlace G b False 0 0 Q out) {K9 : Nat → Int32 → Int32 → Int32 → Int32 → HP → Option (HP)} (hK9 : ∀ (a0 : Nat) (x1 : Int32) (x2 : Int32) (x3 : Int32) (x4 : Int32) (h : HP), K9 a0 x1 x2 x3 x4 h = some out → ∀ (H : Heap) (locs : List Loc) (ls : Array Slot), ST G b False s h H locs → lv_has ls 5 [(0, .ref (b + a0)), (1, .int x1), (2, .int x2), (3, .int x3), (4, .int x4)] → W p l e RM_X3_toPlace s m args below meth c H locs 0 0 Q (F0 m 9 ls [])) : ∀ (a0 : Nat) (x1 : Int32) (x2 : Int32) (x3 : Int32) (x4 : Int32) (h : HP), f_X3_toPlace_b9 K9 a0 x1 x2 x3 x4 h = some out → ∀ (H : Heap) (locs : List Loc) (ls : Array Slot), ST G b False s h H locs → lv_has ls 5 [(0, .ref (b + a0)), (1, .int x1), (2, .int x2), (3, .int x3), (4, .int x4)] → W p l e RM_X3_toPlace s m args below meth c H locs 0 0 Q (F0 m 9 ls []) := by
  intro a0 x1 x2 x3 x4 h hf H locs ls S hl
  unfold f_X3_toPlace_b9 at hf
  have hx := X.1
  have hb := X.2.1
  refine lv_iload hx hb dX3_toPlace_9 (lv_at hl 4 rfl) ?_
  refine lv_iload_n hx hb dX3_toPlace_11 rfl (lv_at hl 2 rfl) ?_
  refine lv_icmp_ge (tgt := 41) hx hb dX3_toPlace_12 (by decide) (fun hc => ?_) (fun hc => ?_)
  · replace hf := ip hf hc
    refine lv_iload_n hx hb dX3_toPlace_41 rfl (lv_at hl 3 rfl) ?_
    refine lv_istore (lv' := [(4, .int x3), (0, .ref (b + a0)), (1, .int x1), (2, .int x2), (3, .int x3)]) hx hb dX3_toPlace_42 hl (by decide) rfl (fun ls hl => ?_)
    exact wl_X3_toPlace_44 X Z  FU _ _ _ _ _ hf _ _ _ S (lv_sub hl [1, 2, 3, 0] rfl)
  · replace hf := im hf hc
    refine lv_aload_n hx hb dX3_toPlace_15 rfl (lv_at hl 0 rfl) ?_
    obtain ⟨r1, e_r1, hf⟩ := ob hf
    refine r_getR X S fl_X3_21 e_r1 dX3_toPlace_16 ?_
    refine lv_iload hx hb dX3_toPlace_19 (lv_at hl 4 rfl) ?_
    refine lv_aload_n hx hb dX3_toPlace_21 rfl (lv_at hl 0 rfl) ?_
    obtain ⟨r2, e_r2, hf⟩ := ob hf
    refine r_getR X S fl_X3_21 e_r2 dX3_toPlace_22 ?_
    refine lv_iload hx hb dX3_toPlace_25 (lv_at hl 4 rfl) ?_
    refine lv_iconst (v := 1) hx hb dX3_toPlace_27 (by decide) ?_
    refine lv_iadd hx hb dX3_toPlace_28 ?_
    obtain ⟨q3, e_q3, hf⟩ := ob hf
    refine r_callSN X S hl.1 (As := [.ref (b + r2), .int (x4 + 1)]) (rest := [.int x4, .ref (b + r1)]) (c_X8_at e_q3) my_X8_at ms_X8_at nl_X3_51 ⟨rfl, rfl, Nat.le_of_ble_eq_true rfl, Nat.le_of_ble_eq_true rfl⟩ rfl rfl (Nat.le_of_ble_eq_true rfl) dX3_toPlace_29 ⟨Nat.le_of_ble_eq_true rfl, Nat.le_of_ble_eq_true rfl⟩ (fun H locs S => ?_)
    refine W.eq (g2 := F0 m 32 ls [.int q3.1, .int x4, .ref (b + r1)]) rfl ?_
    obtain ⟨h4, e_h4, hf⟩ := ob hf
    refine r_callSN X S hl.1 (As := [.ref (b + r1), .int x4, .int q3.1]) (rest := []) (c_X8_put e_h4) my_X8_put ms_X8_put nl_X3_37 ⟨rfl, rfl, Nat.le_of_ble_eq_true rfl, Nat.le_of_ble_eq_true rfl⟩ rfl rfl (Nat.le_of_ble_eq_true rfl) dX3_toPlace_32 ⟨Nat.le_of_ble_eq_true rfl, Nat.le_of_ble_eq_true rfl⟩ (fun H locs S => ?_)
    refine W.eq (g2 := F0 m 35 ls []) rfl ?_
    refine lv_iinc (v := x4 + 1) (lv' := [(4, .int (x4 + 1)), (0, .ref (b + a0)), (1, .int x1), (2, .int x2), (3, .int x3)]) hx hb dX3_toPlace_35 hl (k := 4) rfl rfl (by decide) rfl (fun ls hl => ?_)
    refine lv_goto (tgt := 9) hx hb dX3_toPlace_38 (by decide) ?_
    exact hK9 _ _ _ _ _ _ hf _ _ _ S (lv_sub hl [1, 2, 3, 4, 0] rfl)
def F_X3_toPlace_9  : Nat → Nat → Int32 → Int32 → Int32 → Int32 → HP → Option (HP)
  | 0 => fun _ _ _ _ _ _ => none
  | n + 1 => fun a0 x1 x2 x3 x4 h => f_X3_toPlace_b9 (F_X3_toPlace_9  n) a0 x1 x2 x3 x4 h
theorem wl_X3_toPlace_9 (X : CX RX3 cX3_toPlace 5 none p s m args meth c G b) {out : HP} (Z : ZV p l e RM_X3_toPlace s m args below meth c cX3_toPlace G b False 0 0 Q out)  : ∀ (n : Nat) (a0 : Nat) (x1 : Int32) (x2 : Int32) (x3 : Int32) (x4 : Int32) (h : HP), F_X3_toPlace_9  n a0 x1 x2 x3 x4 h = some out → ∀ (H : Heap) (locs : List Loc) (ls : Array Slot), ST G b False s h H locs → lv_has ls 5 [(0, .ref (b + a0)), (1, .int x1), (2, .int x2), (3, .int x3), (4, .int x4)] → W p l e RM_X3_toPlace s m args below meth c H locs 0 0 Q (F0 m 9 ls []) := by
  intro n
  induction n with
  | zero => intro a0 x1 x2 x3 x4 h hf; exact nn hf
  | succ n ih => exact w_X3_toPlace_b9 X Z ih
def f_X3_toPlace_e  (a0 : Nat) (x1 : Int32) (x2 : Int32) (h : HP) : Option (HP) :=
  (f_X3_placeOf a0 x1 h).bind fun q1 =>
  F_X3_toPlace_9  FU a0 x1 x2 q1.1 q1.1 q1.2
set_option maxRecDepth 100000 in
set_option maxHeartbeats 4000000 in
theorem w_X3_toPlace_e (X : CX RX3 cX3_toPlace 5 none p s m args meth c G b) {out : HP} (Z : ZV p l e RM_X3_toPlace s m args below meth c cX3_toPlace G b False 0 0 Q out)  : ∀ (a0 : Nat) (x1 : Int32) (x2 : Int32) (h : HP), f_X3_toPlace_e  a0 x1 x2 h = some out → ∀ (H : Heap) (locs : List Loc) (ls : Array Slot), ST G b False s h H locs → lv_has ls 5 [(0, .ref (b + a0)), (1, .int x1), (2, .int x2)] → W p l e RM_X3_toPlace s m args below meth c H locs 0 0 Q (F0 m 0 ls []) := by
  intro a0 x1 x2 h hf H locs ls S hl
  unfold f_X3_toPlace_e at hf
  have hx := X.1
  have hb := X.2.1
  refine lv_aload_n hx hb dX3_toPlace_0 rfl (lv_at hl 0 rfl) ?_
  refine lv_iload_n hx hb dX3_toPlace_1 rfl (lv_at hl 1 rfl) ?_
  obtain ⟨q1, e_q1, hf⟩ := ob hf
  refine r_callV X S hl.1 (As := [.int x1]) (rest := []) (c_X3_placeOf e_q1) my_X3_placeOf mv_X3_placeOf ml_X3_79 rfl (o_X3_placeOf e_q1) ⟨rfl, rfl, Nat.le_of_ble_eq_true rfl, Nat.le_of_ble_eq_true rfl⟩ rfl rfl (Nat.le_of_ble_eq_true rfl) dX3_toPlace_2 ⟨Nat.le_of_ble_eq_true rfl, Nat.le_of_ble_eq_true rfl⟩ (fun H locs S => ?_)
  refine W.eq (g2 := F0 m 5 ls [.int q1.1]) rfl ?_
  refine lv_istore_n (lv' := [(3, .int q1.1), (0, .ref (b + a0)), (1, .int x1), (2, .int x2)]) hx hb dX3_toPlace_5 rfl hl (by decide) rfl (fun ls hl => ?_)
  refine lv_iload_n hx hb dX3_toPlace_6 rfl (lv_at hl 0 rfl) ?_
  refine lv_istore (lv' := [(4, .int q1.1), (3, .int q1.1), (0, .ref (b + a0)), (1, .int x1), (2, .int x2)]) hx hb dX3_toPlace_7 hl (by decide) rfl (fun ls hl => ?_)
  exact wl_X3_toPlace_9 X Z  FU _ _ _ _ _ _ hf _ _ _ S (lv_sub hl [2, 3, 4, 1, 0] rfl)
def f_X3_toPlace (a0 : Nat) (x1 : Int32) (x2 : Int32) (h : HP) : Option (HP) := ck h a0 3 (f_X3_toPlace_e a0 x1 x2 h)
theorem o_X3_toPlace {a0 : Nat} {x1 : Int32} {x2 : Int32} {h : HP} {out : HP} (hf : f_X3_toPlace a0 x1 x2 h = some out) : ∃ fs, h[a0]? = some (.inl (3, fs)) := (ck_spec hf).1
set_option maxRecDepth 100000 in
theorem c_X3_toPlace {l : Launch} {G : GT} {b : Nat} {a0 : Nat} {x1 : Int32} {x2 : Int32} {h : HP} {out : HP} (hf : f_X3_toPlace a0 x1 x2 h = some out) : MT l G b False False yX3_toPlace cX3_toPlace 5 none RM_X3_toPlace [.ref (b + a0), .int x1, .int x2] h none out 0 0 := by
  refine met_of (by decide) (Nat.le_of_ble_eq_true rfl) ?_
  intro p e s m below meth c ls X hnm S hl
  have hl : lv_has ls 5 [(0, .ref (b + a0)), (1, .int x1), (2, .int x2)] := hl
  replace hf := (ck_spec hf).2
  exact w_X3_toPlace_e X (z_v X) _ _ _ _ hf _ _ _ S hl
end M03
