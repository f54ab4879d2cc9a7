section M02
variable {p : Program} {l : Launch} {e : Env} {s : State} {m : MethodId} {args : Array Value} {below : List Frame} {meth : Method} {c : Code} {Q : State → Prop} {G : GT} {b : Nat}
/-! RoomRings$Dealing.deal(LRoomRings$House;)V -/
abbrev RM_X1_deal : Room := { frames := 3, cells := 0, slots := 0, locals := 70 }
def f_X1_deal_b70   (h : HP) : Option (HP) :=
  some h
set_option maxRecDepth 100000 in
set_option maxHeartbeats 4000000 in
theorem w_X1_deal_b70 (X : CX RX1 cX1_deal 3 none p s m args meth c G b) {out : HP} (Z : ZV p l e RM_X1_deal s m args below meth c cX1_deal G b False 0 0 Q out)  : ∀  (h : HP), f_X1_deal_b70   h = some out → ∀ (H : Heap) (locs : List Loc) (ls : Array Slot), ST G b False s h H locs → lv_has ls 3 [] → W p l e RM_X1_deal s m args below meth c H locs 0 0 Q (F0 m 70 ls []) := by
  intro  h hf H locs ls S hl
  unfold f_X1_deal_b70 at hf
  have hx := X.1
  have hb := X.2.1
  obtain rfl := Option.some.inj hf
  exact Z _ _ _ _ dX1_deal_70 S
def f_X1_deal_b29 (K29 : Nat → Nat → Int32 → HP → Option (HP)) (a0 : Nat) (a1 : Nat) (x2 : Int32) (h : HP) : Option (HP) :=
  if 6 ≤ x2 then
    f_X1_deal_b70   h
  else
    (gI h a0 1 2).bind fun v1 =>
    if v1 = 0 then
      f_X1_deal_b70   h
    else
      (f_X1_aim a0 a1 h).bind fun h2 =>
      (f_X1_follow a0 a1 h2).bind fun h3 =>
      (f_X1_closeRings a0 a1 h3).bind fun h4 =>
      (pI h4 a0 1 0 (x2 + 1)).bind fun h5 =>
      K29 a0 a1 (x2 + 1) h5
set_option maxRecDepth 100000 in
set_option maxHeartbeats 4000000 in
theorem w_X1_deal_b29 (X : CX RX1 cX1_deal 3 none p s m args meth c G b) {out : HP} (Z : ZV p l e RM_X1_deal s m args below meth c cX1_deal G b False 0 0 Q out) {K29 : Nat → Nat → Int32 → HP → Option (HP)} (hK29 : ∀ (a0 : Nat) (a1 : Nat) (x2 : Int32) (h : HP), K29 a0 a1 x2 h = some out → ∀ (H : Heap) (locs : List Loc) (ls : Array Slot), ST G b False s h H locs → lv_has ls 3 [(0, .ref (b + a0)), (1, .ref (b + a1)), (2, .int x2)] → W p l e RM_X1_deal s m args below meth c H locs 0 0 Q (F0 m 29 ls [])) : ∀ (a0 : Nat) (a1 : Nat) (x2 : Int32) (h : HP), f_X1_deal_b29 K29 a0 a1 x2 h = some out → ∀ (H : Heap) (locs : List Loc) (ls : Array Slot), ST G b False s h H locs → lv_has ls 3 [(0, .ref (b + a0)), (1, .ref (b + a1)), (2, .int x2)] → W p l e RM_X1_deal s m args below meth c H locs 0 0 Q (F0 m 29 ls []) := by
  intro a0 a1 x2 h hf H locs ls S hl
  unfold f_X1_deal_b29 at hf
  have hx := X.1
  have hb := X.2.1
  refine lv_iload_n hx hb dX1_deal_29 rfl (lv_at hl 2 rfl) ?_
  refine lv_bipush (v := 6) hx hb dX1_deal_30 (by decide) ?_
  refine lv_icmp_ge (tgt := 70) hx hb dX1_deal_32 (by decide) (fun hc => ?_) (fun hc => ?_)
  · replace hf := ip hf hc
    exact w_X1_deal_b70 X Z  _ hf _ _ _ S (lv_sub hl [] rfl)
  · replace hf := im hf hc
    refine lv_aload_n hx hb dX1_deal_35 rfl (lv_at hl 0 rfl) ?_
    obtain ⟨v1, e_v1, hf⟩ := ob hf
    refine r_getI X S fl_X1_37 e_v1 dX1_deal_36 ?_
    refine lv_if_eq (tgt := 70) hx hb dX1_deal_39 (by decide) (fun hc => ?_) (fun hc => ?_)
    · replace hf := ip hf hc
      exact w_X1_deal_b70 X Z  _ hf _ _ _ S (lv_sub hl [] rfl)
    · replace hf := im hf hc
      refine lv_aload_n hx hb dX1_deal_42 rfl (lv_at hl 0 rfl) ?_
      refine lv_aload_n hx hb dX1_deal_43 rfl (lv_at hl 1 rfl) ?_
      obtain ⟨h2, e_h2, hf⟩ := ob hf
      refine r_callV X S hl.1 (As := [.ref (b + a1)]) (rest := []) (c_X1_aim e_h2) my_X1_aim mv_X1_aim ml_X1_49 rfl (o_X1_aim e_h2) ⟨rfl, rfl, Nat.le_of_ble_eq_true rfl, Nat.le_of_ble_eq_true rfl⟩ rfl rfl (Nat.le_of_ble_eq_true rfl) dX1_deal_44 ⟨Nat.le_of_ble_eq_true rfl, Nat.le_of_ble_eq_true rfl⟩ (fun H locs S => ?_)
      refine W.eq (g2 := F0 m 47 ls []) rfl ?_
      refine lv_aload_n hx hb dX1_deal_47 rfl (lv_at hl 0 rfl) ?_
      refine lv_aload_n hx hb dX1_deal_48 rfl (lv_at hl 1 rfl) ?_
      obtain ⟨h3, e_h3, hf⟩ := ob hf
      refine r_callV X S hl.1 (As := [.ref (b + a1)]) (rest := []) (c_X1_follow e_h3) my_X1_follow mv_X1_follow ml_X1_53 rfl (o_X1_follow e_h3) ⟨rfl, rfl, Nat.le_of_ble_eq_true rfl, Nat.le_of_ble_eq_true rfl⟩ rfl rfl (Nat.le_of_ble_eq_true rfl) dX1_deal_49 ⟨Nat.le_of_ble_eq_true rfl, Nat.le_of_ble_eq_true rfl⟩ (fun H locs S => ?_)
      refine W.eq (g2 := F0 m 52 ls []) rfl ?_
      refine lv_aload_n hx hb dX1_deal_52 rfl (lv_at hl 0 rfl) ?_
      refine lv_aload_n hx hb dX1_deal_53 rfl (lv_at hl 1 rfl) ?_
      obtain ⟨h4, e_h4, hf⟩ := ob hf
      refine r_callV X S hl.1 (As := [.ref (b + a1)]) (rest := []) (c_X1_closeRings e_h4) my_X1_closeRings mv_X1_closeRings ml_X1_56 rfl (o_X1_closeRings e_h4) ⟨rfl, rfl, Nat.le_of_ble_eq_true rfl, Nat.le_of_ble_eq_true rfl⟩ rfl rfl (Nat.le_of_ble_eq_true rfl) dX1_deal_54 ⟨Nat.le_of_ble_eq_true rfl, Nat.le_of_ble_eq_true rfl⟩ (fun H locs S => ?_)
      refine W.eq (g2 := F0 m 57 ls []) rfl ?_
      refine lv_aload_n hx hb dX1_deal_57 rfl (lv_at hl 0 rfl) ?_
      refine lv_iload_n hx hb dX1_deal_58 rfl (lv_at hl 2 rfl) ?_
      refine lv_iconst (v := 1) hx hb dX1_deal_59 (by decide) ?_
      refine lv_iadd hx hb dX1_deal_60 ?_
      obtain ⟨h5, e_h5, hf⟩ := ob hf
      refine r_put X S fp_X1_46 (fun h9 => by cases h9) rfl rfl rfl e_h5 dX1_deal_61 (fun H locs S => ?_)
      refine lv_iinc (v := x2 + 1) (lv' := [(2, .int (x2 + 1)), (0, .ref (b + a0)), (1, .ref (b + a1))]) hx hb dX1_deal_64 hl (k := 2) rfl rfl (by decide) rfl (fun ls hl => ?_)
      refine lv_goto (tgt := 29) hx hb dX1_deal_67 (by decide) ?_
      exact hK29 _ _ _ _ hf _ _ _ S (lv_sub hl [1, 2, 0] rfl)
def F_X1_deal_29  : Nat → Nat → Nat → Int32 → HP → Option (HP)
  | 0 => fun _ _ _ _ => none
  | n + 1 => fun a0 a1 x2 h => f_X1_deal_b29 (F_X1_deal_29  n) a0 a1 x2 h
theorem wl_X1_deal_29 (X : CX RX1 cX1_deal 3 none p s m args meth c G b) {out : HP} (Z : ZV p l e RM_X1_deal s m args below meth c cX1_deal G b False 0 0 Q out)  : ∀ (n : Nat) (a0 : Nat) (a1 : Nat) (x2 : Int32) (h : HP), F_X1_deal_29  n a0 a1 x2 h = some out → ∀ (H : Heap) (locs : List Loc) (ls : Array Slot), ST G b False s h H locs → lv_has ls 3 [(0, .ref (b + a0)), (1, .ref (b + a1)), (2, .int x2)] → W p l e RM_X1_deal s m args below meth c H locs 0 0 Q (F0 m 29 ls []) := by
  intro n
  induction n with
  | zero => intro a0 a1 x2 h hf; exact nn hf
  | succ n ih => exact w_X1_deal_b29 X Z ih
def f_X1_deal_e  (a0 : Nat) (a1 : Nat) (h : HP) : Option (HP) :=
  (gI h a1 3 1).bind fun v1 =>
  (f_X8_firstOnes v1 h).bind fun q2 =>
  (pI q2.2 a0 1 2 q2.1).bind fun h3 =>
  (gI h3 a1 3 0).bind fun v4 =>
  (f_X8_firstOnes v4 h3).bind fun q5 =>
  (pI q5.2 a0 1 1 q5.1).bind fun h6 =>
  (pI h6 a0 1 0 0).bind fun h7 =>
  F_X1_deal_29  FU a0 a1 0 h7
set_option maxRecDepth 100000 in
set_option maxHeartbeats 4000000 in
theorem w_X1_deal_e (X : CX RX1 cX1_deal 3 none p s m args meth c G b) {out : HP} (Z : ZV p l e RM_X1_deal s m args below meth c cX1_deal G b False 0 0 Q out)  : ∀ (a0 : Nat) (a1 : Nat) (h : HP), f_X1_deal_e  a0 a1 h = some out → ∀ (H : Heap) (locs : List Loc) (ls : Array Slot), ST G b False s h H locs → lv_has ls 3 [(0, .ref (b + a0)), (1, .ref (b + a1))] → W p l e RM_X1_deal s m args below meth c H locs 0 0 Q (F0 m 0 ls []) := by
  intro a0 a1 h hf H locs ls S hl
  unfold f_X1_deal_e at hf
  have hx := X.1
  have hb := X.2.1
  refine lv_aload_n hx hb dX1_deal_0 rfl (lv_at hl 0 rfl) ?_
  refine lv_aload_n hx hb dX1_deal_1 rfl (lv_at hl 1 rfl) ?_
  obtain ⟨v1, e_v1, hf⟩ := ob hf
  refine r_getI X S fl_X1_27 e_v1 dX1_deal_2 ?_
  obtain ⟨q2, e_q2, hf⟩ := ob hf
  refine r_callSN X S hl.1 (As := [.int v1]) (rest := [.ref (b + a0)]) (c_X8_firstOnes e_q2) my_X8_firstOnes ms_X8_firstOnes nl_X1_33 ⟨rfl, rfl, Nat.le_of_ble_eq_true rfl, Nat.le_of_ble_eq_true rfl⟩ rfl rfl (Nat.le_of_ble_eq_true rfl) dX1_deal_5 ⟨Nat.le_of_ble_eq_true rfl, Nat.le_of_ble_eq_true rfl⟩ (fun H locs S => ?_)
  refine W.eq (g2 := F0 m 8 ls [.int q2.1, .ref (b + a0)]) rfl ?_
  obtain ⟨h3, e_h3, hf⟩ := ob hf
  refine r_put X S fp_X1_37 (fun h9 => by cases h9) rfl rfl rfl e_h3 dX1_deal_8 (fun H locs S => ?_)
  refine lv_aload_n hx hb dX1_deal_11 rfl (lv_at hl 0 rfl) ?_
  refine lv_aload_n hx hb dX1_deal_12 rfl (lv_at hl 1 rfl) ?_
  obtain ⟨v4, e_v4, hf⟩ := ob hf
  refine r_getI X S fl_X1_40 e_v4 dX1_deal_13 ?_
  obtain ⟨q5, e_q5, hf⟩ := ob hf
  refine r_callSN X S hl.1 (As := [.int v4]) (rest := [.ref (b + a0)]) (c_X8_firstOnes e_q5) my_X8_firstOnes ms_X8_firstOnes nl_X1_33 ⟨rfl, rfl, Nat.le_of_ble_eq_true rfl, Nat.le_of_ble_eq_true rfl⟩ rfl rfl (Nat.le_of_ble_eq_true rfl) dX1_deal_16 ⟨Nat.le_of_ble_eq_true rfl, Nat.le_of_ble_eq_true rfl⟩ (fun H locs S => ?_)
  refine W.eq (g2 := F0 m 19 ls [.int q5.1, .ref (b + a0)]) rfl ?_
  obtain ⟨h6, e_h6, hf⟩ := ob hf
  refine r_put X S fp_X1_43 (fun h9 => by cases h9) rfl rfl rfl e_h6 dX1_deal_19 (fun H locs S => ?_)
  refine lv_aload_n hx hb dX1_deal_22 rfl (lv_at hl 0 rfl) ?_
  refine lv_iconst (v := 0) hx hb dX1_deal_23 (by decide) ?_
  obtain ⟨h7, e_h7, hf⟩ := ob hf
  refine r_put X S fp_X1_46 (fun h9 => by cases h9) rfl rfl rfl e_h7 dX1_deal_24 (fun H locs S => ?_)
  refine lv_iconst (v := 0) hx hb dX1_deal_27 (by decide) ?_
  refine lv_istore_n (lv' := [(2, .int 0), (0, .ref (b + a0)), (1, .ref (b + a1))]) hx hb dX1_deal_28 rfl hl (by decide) rfl (fun ls hl => ?_)
  exact wl_X1_deal_29 X Z  FU _ _ _ _ hf _ _ _ S (lv_sub hl [1, 2, 0] rfl)
def f_X1_deal (a0 : Nat) (a1 : Nat) (h : HP) : Option (HP) := ck h a0 1 (f_X1_deal_e a0 a1 h)
theorem o_X1_deal {a0 : Nat} {a1 : Nat} {h : HP} {out : HP} (hf : f_X1_deal a0 a1 h = some out) : ∃ fs, h[a0]? = some (.inl (1, fs)) := (ck_spec hf).1
set_option maxRecDepth 100000 in
theorem c_X1_deal {l : Launch} {G : GT} {b : Nat} {a0 : Nat} {a1 : Nat} {h : HP} {out : HP} (hf : f_X1_deal a0 a1 h = some out) : MT l G b False False yX1_deal cX1_deal 3 none RM_X1_deal [.ref (b + a0), .ref (b + a1)] h none out 0 0 := by
  refine met_of (by decide) (Nat.le_of_ble_eq_true rfl) ?_
  intro p e s m below meth c ls X hnm S hl
  have hl : lv_has ls 3 [(0, .ref (b + a0)), (1, .ref (b + a1))] := hl
  replace hf := (ck_spec hf).2
  exact w_X1_deal_e X (z_v X) _ _ _ hf _ _ _ S hl
/-! RoomRings$Dealing.roomOf(I)I -/
abbrev RM_X1_roomOf : Room := { frames := 1, cells := 0, slots := 0, locals := 21 }
def f_X1_roomOf_e  (a0 : Nat) (x1 : Int32) (h : HP) : Option (Int32 × HP) :=
  (gR h a0 1 3).bind fun r1 =>
  (f_X8_at r1 x1 h).bind fun q2 =>
  some (q2.1, q2.2)
set_option maxRecDepth 100000 in
set_option maxHeartbeats 4000000 in
theorem w_X1_roomOf_e (X : CX RX1 cX1_roomOf 2 (some .int) p s m args meth c G b) {out : Int32 × HP} (Z : ZI p l e RM_X1_roomOf s m args below meth c cX1_roomOf G b False 0 0 Q out)  : ∀ (a0 : Nat) (x1 : Int32) (h : HP), f_X1_roomOf_e  a0 x1 h = some out → ∀ (H : Heap) (locs : List Loc) (ls : Array Slot), ST G b False s h H locs → lv_has ls 2 [(0, .ref (b + a0)), (1, .int x1)] → W p l e RM_X1_roomOf s m args below meth c H locs 0 0 Q (F0 m 0 ls []) := by
  intro a0 x1 h hf H locs ls S hl
  unfold f_X1_roomOf_e at hf
  have hx := X.1
  have hb := X.2.1
  refine lv_aload_n hx hb dX1_roomOf_0 rfl (lv_at hl 0 rfl) ?_
  obtain ⟨r1, e_r1, hf⟩ := ob hf
  refine r_getR X S fl_X1_9 e_r1 dX1_roomOf_1 ?_
  refine lv_iload_n hx hb dX1_roomOf_4 rfl (lv_at hl 1 rfl) ?_
  obtain ⟨q2, e_q2, hf⟩ := ob hf
  refine r_callSN X S hl.1 (As := [.ref (b + r1), .int x1]) (rest := []) (c_X8_at e_q2) my_X8_at ms_X8_at nl_X1_59 ⟨rfl, rfl, Nat.le_of_ble_eq_true rfl, Nat.le_of_ble_eq_true rfl⟩ rfl rfl (Nat.le_of_ble_eq_true rfl) dX1_roomOf_5 ⟨Nat.le_of_ble_eq_true rfl, Nat.le_of_ble_eq_true rfl⟩ (fun H locs S => ?_)
  refine W.eq (g2 := F0 m 8 ls [.int q2.1]) rfl ?_
  obtain rfl := Option.some.inj hf
  exact Z _ _ _ _ dX1_roomOf_8 S
def f_X1_roomOf (a0 : Nat) (x1 : Int32) (h : HP) : Option (Int32 × HP) := ck h a0 1 (f_X1_roomOf_e a0 x1 h)
theorem o_X1_roomOf {a0 : Nat} {x1 : Int32} {h : HP} {out : Int32 × HP} (hf : f_X1_roomOf a0 x1 h = some out) : ∃ fs, h[a0]? = some (.inl (1, fs)) := (ck_spec hf).1
set_option maxRecDepth 100000 in
theorem c_X1_roomOf {l : Launch} {G : GT} {b : Nat} {a0 : Nat} {x1 : Int32} {h : HP} {out : Int32 × HP} (hf : f_X1_roomOf a0 x1 h = some out) : MT l G b False False yX1_roomOf cX1_roomOf 2 (some .int) RM_X1_roomOf [.ref (b + a0), .int x1] h (some (.int out.1)) out.2 0 0 := by
  refine met_of (by decide) (Nat.le_of_ble_eq_true rfl) ?_
  intro p e s m below meth c ls X hnm S hl
  have hl : lv_has ls 2 [(0, .ref (b + a0)), (1, .int x1)] := hl
  replace hf := (ck_spec hf).2
  exact w_X1_roomOf_e X (z_i X) _ _ _ hf _ _ _ S hl
/-! RoomRings$Dealing.roundOf(I)I -/
abbrev RM_X1_roundOf : Room := { frames := 1, cells := 0, slots := 0, locals := 21 }
def f_X1_roundOf_e  (a0 : Nat) (x1 : Int32) (h : HP) : Option (Int32 × HP) :=
  (gR h a0 1 4).bind fun r1 =>
  (f_X8_at r1 x1 h).bind fun q2 =>
  some (q2.1, q2.2)
set_option maxRecDepth 100000 in
set_option maxHeartbeats 4000000 in
theorem w_X1_roundOf_e (X : CX RX1 cX1_roundOf 2 (some .int) p s m args meth c G b) {out : Int32 × HP} (Z : ZI p l e RM_X1_roundOf s m args below meth c cX1_roundOf G b False 0 0 Q out)  : ∀ (a0 : Nat) (x1 : Int32) (h : HP), f_X1_roundOf_e  a0 x1 h = some out → ∀ (H : Heap) (locs : List Loc) (ls : Array Slot), ST G b False s h H locs → lv_has ls 2 [(0, .ref (b + a0)), (1, .int x1)] → W p l e RM_X1_roundOf s m args below meth c H locs 0 0 Q (F0 m 0 ls []) := by
  intro a0 x1 h hf H locs ls S hl
  unfold f_X1_roundOf_e at hf
  have hx := X.1
  have hb := X.2.1
  refine lv_aload_n hx hb dX1_roundOf_0 rfl (lv_at hl 0 rfl) ?_
  obtain ⟨r1, e_r1, hf⟩ := ob hf
  refine r_getR X S fl_X1_15 e_r1 dX1_roundOf_1 ?_
  refine lv_iload_n hx hb dX1_roundOf_4 rfl (lv_at hl 1 rfl) ?_
  obtain ⟨q2, e_q2, hf⟩ := ob hf
  refine r_callSN X S hl.1 (As := [.ref (b + r1), .int x1]) (rest := []) (c_X8_at e_q2) my_X8_at ms_X8_at nl_X1_59 ⟨rfl, rfl, Nat.le_of_ble_eq_true rfl, Nat.le_of_ble_eq_true rfl⟩ rfl rfl (Nat.le_of_ble_eq_true rfl) dX1_roundOf_5 ⟨Nat.le_of_ble_eq_true rfl, Nat.le_of_ble_eq_true rfl⟩ (fun H locs S => ?_)
  refine W.eq (g2 := F0 m 8 ls [.int q2.1]) rfl ?_
  obtain rfl := Option.some.inj hf
  exact Z _ _ _ _ dX1_roundOf_8 S
def f_X1_roundOf (a0 : Nat) (x1 : Int32) (h : HP) : Option (Int32 × HP) := ck h a0 1 (f_X1_roundOf_e a0 x1 h)
theorem o_X1_roundOf {a0 : Nat} {x1 : Int32} {h : HP} {out : Int32 × HP} (hf : f_X1_roundOf a0 x1 h = some out) : ∃ fs, h[a0]? = some (.inl (1, fs)) := (ck_spec hf).1
set_option maxRecDepth 100000 in
theorem c_X1_roundOf {l : Launch} {G : GT} {b : Nat} {a0 : Nat} {x1 : Int32} {h : HP} {out : Int32 × HP} (hf : f_X1_roundOf a0 x1 h = some out) : MT l G b False False yX1_roundOf cX1_roundOf 2 (some .int) RM_X1_roundOf [.ref (b + a0), .int x1] h (some (.int out.1)) out.2 0 0 := by
  refine met_of (by decide) (Nat.le_of_ble_eq_true rfl) ?_
  intro p e s m below meth c ls X hnm S hl
  have hl : lv_has ls 2 [(0, .ref (b + a0)), (1, .int x1)] := hl
  replace hf := (ck_spec hf).2
  exact w_X1_roundOf_e X (z_i X) _ _ _ hf _ _ _ S hl
/-! RoomRings$Dealing.ringOf(I)I -/
abbrev RM_X1_ringOf : Room := { frames := 1, cells := 0, slots := 0, locals := 21 }
def f_X1_ringOf_e  (a0 : Nat) (x1 : Int32) (h : HP) : Option (Int32 × HP) :=
  (gR h a0 1 5).bind fun r1 =>
  (f_X8_at r1 x1 h).bind fun q2 =>
  some (q2.1, q2.2)
set_option maxRecDepth 100000 in
set_option maxHeartbeats 4000000 in
theorem w_X1_ringOf_e (X : CX RX1 cX1_ringOf 2 (some .int) p s m args meth c G b) {out : Int32 × HP} (Z : ZI p l e RM_X1_ringOf s m args below meth c cX1_ringOf G b False 0 0 Q out)  : ∀ (a0 : Nat) (x1 : Int32) (h : HP), f_X1_ringOf_e  a0 x1 h = some out → ∀ (H : Heap) (locs : List Loc) (ls : Array Slot), ST G b False s h H locs → lv_has ls 2 [(0, .ref (b + a0)), (1, .int x1)] → W p l e RM_X1_ringOf s m args below meth c H locs 0 0 Q (F0 m 0 ls []) := by
  intro a0 x1 h hf H locs ls S hl
  unfold f_X1_ringOf_e at hf
  have hx := X.1
  have hb := X.2.1
  refine lv_aload_n hx hb dX1_ringOf_0 rfl (lv_at hl 0 rfl) ?_
  obtain ⟨r1, e_r1, hf⟩ := ob hf
  refine r_getR X S fl_X1_18 e_r1 dX1_ringOf_1 ?_
  refine lv_iload_n hx hb dX1_ringOf_4 rfl (lv_at hl 1 rfl) ?_
  obtain ⟨q2, e_q2, hf⟩ := ob hf
  refine r_callSN X S hl.1 (As := [.ref (b + r1), .int x1]) (rest := []) (c_X8_at e_q2) my_X8_at ms_X8_at nl_X1_59 ⟨rfl, rfl, Nat.le_of_ble_eq_true rfl, Nat.le_of_ble_eq_true rfl⟩ rfl rfl (Nat.le_of_ble_eq_true rfl) dX1_ringOf_5 ⟨Nat.le_of_ble_eq_true rfl, Nat.le_of_ble_eq_true rfl⟩ (fun H locs S => ?_)
  refine W.eq (g2 := F0 m 8 ls [.int q2.1]) rfl ?_
  obtain rfl := Option.some.inj hf
  exact Z _ _ _ _ dX1_ringOf_8 S
def f_X1_ringOf (a0 : Nat) (x1 : Int32) (h : HP) : Option (Int32 × HP) := ck h a0 1 (f_X1_ringOf_e a0 x1 h)
theorem o_X1_ringOf {a0 : Nat} {x1 : Int32} {h : HP} {out : Int32 × HP} (hf : f_X1_ringOf a0 x1 h = some out) : ∃ fs, h[a0]? = some (.inl (1, fs)) := (ck_spec hf).1
set_option maxRecDepth 100000 in
theorem c_X1_ringOf {l : Launch} {G : GT} {b : Nat} {a0 : Nat} {x1 : Int32} {h : HP} {out : Int32 × HP} (hf : f_X1_ringOf a0 x1 h = some out) : MT l G b False False yX1_ringOf cX1_ringOf 2 (some .int) RM_X1_ringOf [.ref (b + a0), .int x1] h (some (.int out.1)) out.2 0 0 := by
  refine met_of (by decide) (Nat.le_of_ble_eq_true rfl) ?_
  intro p e s m below meth c ls X hnm S hl
  have hl : lv_has ls 2 [(0, .ref (b + a0)), (1, .int x1)] := hl
  replace hf := (ck_spec hf).2
  exact w_X1_ringOf_e X (z_i X) _ _ _ hf _ _ _ S hl
/-! RoomRings$Dealing.winner(LRoomRings$House;I)I -/
abbrev RM_X1_winner : Room := { frames := 1, cells := 0, slots := 0, locals := 21 }
def f_X1_winner_b2 (K2 : Nat → Nat → Int32 → Int32 → HP → Option (Int32 × HP)) (a0 : Nat) (a1 : Nat) (x2 : Int32) (x3 : Int32) (h : HP) : Option (Int32 × HP) :=
  (gI h a1 3 1).bind fun v1 =>
  if v1 ≤ x3 then
    some ((-1), h)
  else
    (gR h a0 1 3).bind fun r2 =>
    (f_X8_at r2 x3 h).bind fun q3 =>
    if q3.1 = x2 then
      some (x3, q3.2)
    else
      K2 a0 a1 x2 (x3 + 1) q3.2
set_option maxRecDepth 100000 in
set_option maxHeartbeats 4000000 in
theorem w_X1_winner_b2 (X : CX RX1 cX1_winner 4 (some .int) p s m args meth c G b) {out : Int32 × HP} (Z : ZI p l e RM_X1_winner s m args below meth c cX1_winner G b False 0 0 Q out) {K2 : Nat → Nat → Int32 → Int32 → HP → Option (Int32 × HP)} (hK2 : ∀ (a0 : Nat) (a1 : Nat) (x2 : Int32) (x3 : Int32) (h : HP), K2 a0 a1 x2 x3 h = some out → ∀ (H : Heap) (locs : List Loc) (ls : Array Slot), ST G b False s h H locs → lv_has ls 4 [(0, .ref (b + a0)), (1, .ref (b + a1)), (2, .int x2), (3, .int x3)] → W p l e RM_X1_winner s m args below meth c H locs 0 0 Q (F0 m 2 ls [])) : ∀ (a0 : Nat) (a1 : Nat) (x2 : Int32) (x3 : Int32) (h : HP), f_X1_winner_b2 K2 a0 a1 x2 x3 h = some out → ∀ (H : Heap) (locs : List Loc) (ls : Array Slot), ST G b False s h H locs → lv_has ls 4 [(0, .ref (b + a0)), (1, .ref (b + a1)), (2, .int x2), (3, .int x3)] → W p l e RM_X1_winner s m args below meth c H locs 0 0 Q (F0 m 2 ls []) := by
  intro a0 a1 x2 x3 h hf H locs ls S hl
  unfold f_X1_winner_b2 at hf
  have hx := X.1
  have hb := X.2.1
  refine lv_iload_n hx hb dX1_winner_2 rfl (lv_at hl 3 rfl) ?_
  refine lv_aload_n hx hb dX1_winner_3 rfl (lv_at hl 1 rfl) ?_
  obtain ⟨v1, e_v1, hf⟩ := ob hf
  refine r_getI X S fl_X1_27 e_v1 dX1_winner_4 ?_
  refine lv_icmp_ge (tgt := 30) hx hb dX1_winner_7 (by decide) (fun hc => ?_) (fun hc => ?_)
  · replace hf := ip hf hc
    refine lv_iconst (v := (-1)) hx hb dX1_winner_30 (by decide) ?_
    obtain rfl := Option.some.inj hf
    exact Z _ _ _ _ dX1_winner_31 S
  · replace hf := im hf hc
    refine lv_aload_n hx hb dX1_winner_10 rfl (lv_at hl 0 rfl) ?_
    obtain ⟨r2, e_r2, hf⟩ := ob hf
    refine r_getR X S fl_X1_9 e_r2 dX1_winner_11 ?_
    refine lv_iload_n hx hb dX1_winner_14 rfl (lv_at hl 3 rfl) ?_
    obtain ⟨q3, e_q3, hf⟩ := ob hf
    refine r_callSN X S hl.1 (As := [.ref (b + r2), .int x3]) (rest := []) (c_X8_at e_q3) my_X8_at ms_X8_at nl_X1_59 ⟨rfl, rfl, Nat.le_of_ble_eq_true rfl, Nat.le_of_ble_eq_true rfl⟩ rfl rfl (Nat.le_of_ble_eq_true rfl) dX1_winner_15 ⟨Nat.le_of_ble_eq_true rfl, Nat.le_of_ble_eq_true rfl⟩ (fun H locs S => ?_)
    refine W.eq (g2 := F0 m 18 ls [.int q3.1]) rfl ?_
    refine lv_iload_n hx hb dX1_winner_18 rfl (lv_at hl 2 rfl) ?_
    refine lv_icmp_ne (tgt := 24) hx hb dX1_winner_19 (by decide) (fun hc => ?_) (fun hc => ?_)
    · replace hf := im hf hc
      refine lv_iinc (v := x3 + 1) (lv' := [(3, .int (x3 + 1)), (0, .ref (b + a0)), (1, .ref (b + a1)), (2, .int x2)]) hx hb dX1_winner_24 hl (k := 3) rfl rfl (by decide) rfl (fun ls hl => ?_)
      refine lv_goto (tgt := 2) hx hb dX1_winner_27 (by decide) ?_
      exact hK2 _ _ _ _ _ hf _ _ _ S (lv_sub hl [1, 2, 3, 0] rfl)
    · replace hf := ip hf hc
      refine lv_iload_n hx hb dX1_winner_22 rfl (lv_at hl 3 rfl) ?_
      obtain rfl := Option.some.inj hf
      exact Z _ _ _ _ dX1_winner_23 S
def F_X1_winner_2  : Nat → Nat → Nat → Int32 → Int32 → HP → Option (Int32 × HP)
  | 0 => fun _ _ _ _ _ => none
  | n + 1 => fun a0 a1 x2 x3 h => f_X1_winner_b2 (F_X1_winner_2  n) a0 a1 x2 x3 h
theorem wl_X1_winner_2 (X : CX RX1 cX1_winner 4 (some .int) p s m args meth c G b) {out : Int32 × HP} (Z : ZI p l e RM_X1_winner s m args below meth c cX1_winner G b False 0 0 Q out)  : ∀ (n : Nat) (a0 : Nat) (a1 : Nat) (x2 : Int32) (x3 : Int32) (h : HP), F_X1_winner_2  n a0 a1 x2 x3 h = some out → ∀ (H : Heap) (locs : List Loc) (ls : Array Slot), ST G b False s h H locs → lv_has ls 4 [(0, .ref (b + a0)), (1, .ref (b + a1)), (2, .int x2), (3, .int x3)] → W p l e RM_X1_winner s m args below meth c H locs 0 0 Q (F0 m 2 ls []) := by
  intro n
  induction n with
  | zero => intro a0 a1 x2 x3 h hf; exact nn hf
  | succ n ih => exact w_X1_winner_b2 X Z ih
def f_X1_winner_e  (a0 : Nat) (a1 : Nat) (x2 : Int32) (h : HP) : Option (Int32 × HP) :=
  F_X1_winner_2  FU a0 a1 x2 0 h
set_option maxRecDepth 100000 in
set_option maxHeartbeats 4000000 in
theorem w_X1_winner_e (X : CX RX1 cX1_winner 4 (some .int) p s m args meth c G b) {out : Int32 × HP} (Z : ZI p l e RM_X1_winner s m args below meth c cX1_winner G b False 0 0 Q out)  : ∀ (a0 : Nat) (a1 : Nat) (x2 : Int32) (h : HP), f_X1_winner_e  a0 a1 x2 h = some out → ∀ (H : Heap) (locs : List Loc) (ls : Array Slot), ST G b False s h H locs → lv_has ls 4 [(0, .ref (b + a0)), (1, .ref (b + a1)), (2, .int x2)] → W p l e RM_X1_winner s m args below meth c H locs 0 0 Q (F0 m 0 ls []) := by
  intro a0 a1 x2 h hf H locs ls S hl
  unfold f_X1_winner_e at hf
  have hx := X.1
  have hb := X.2.1
  refine lv_iconst (v := 0) hx hb dX1_winner_0 (by decide) ?_
  refine lv_istore_n (lv' := [(3, .int 0), (0, .ref (b + a0)), (1, .ref (b + a1)), (2, .int x2)]) hx hb dX1_winner_1 rfl hl (by decide) rfl (fun ls hl => ?_)
  exact wl_X1_winner_2 X Z  FU _ _ _ _ _ hf _ _ _ S (lv_sub hl [1, 2, 3, 0] rfl)
def f_X1_winner (a0 : Nat) (a1 : Nat) (x2 : Int32) (h : HP) : Option (Int32 × HP) := ck h a0 1 (f_X1_winner_e a0 a1 x2 h)
theorem o_X1_winner {a0 : Nat} {a1 : Nat} {x2 : Int32} {h : HP} {out : Int32 × HP} (hf : f_X1_winner a0 a1 x2 h = some out) : ∃ fs, h[a0]? = some (.inl (1, fs)) := (ck_spec hf).1
set_option maxRecDepth 100000 in
theorem c_X1_winner {l : Launch} {G : GT} {b : Nat} {a0 : Nat} {a1 : Nat} {x2 : Int32} {h : HP} {out : Int32 × HP} (hf : f_X1_winner a0 a1 x2 h = some out) : MT l G b False False yX1_winner cX1_winner 4 (some .int) RM_X1_winner [.ref (b + a0), .ref (b + a1), .int x2] h (some (.int out.1)) out.2 0 0 := by
  refine met_of (by decide) (Nat.le_of_ble_eq_true rfl) ?_
  intro p e s m below meth c ls X hnm S hl
  have hl : lv_has ls 4 [(0, .ref (b + a0)), (1, .ref (b + a1)), (2, .int x2)] := hl
  replace hf := (ck_spec hf).2
  exact w_X1_winner_e X (z_i X) _ _ _ _ hf _ _ _ S hl
/-! RoomRings$Dealing.emptyHanded(LRoomRings$House;)I -/
abbrev RM_X1_emptyHanded : Room := { frames := 1, cells := 0, slots := 0, locals := 21 }
def f_X1_emptyHanded_b30 (K4 : Nat → Nat → Int32 → Int32 → HP → Option (Int32 × HP)) (a0 : Nat) (a1 : Nat) (x2 : Int32) (x3 : Int32) (h : HP) : Option (Int32 × HP) :=
  K4 a0 a1 x2 (x3 + 1) h
set_option maxRecDepth 100000 in
set_option maxHeartbeats 4000000 in
theorem w_X1_emptyHanded_b30 (X : CX RX1 cX1_emptyHanded 4 (some .int) p s m args meth c G b) {out : Int32 × HP} (Z : ZI p l e RM_X1_emptyHanded s m args below meth c cX1_emptyHanded G b False 0 0 Q out) {K4 : Nat → Nat → Int32 → Int32 → HP → Option (Int32 × HP)} (hK4 : ∀ (a0 : Nat) (a1 : Nat) (x2 : Int32) (x3 : Int32) (h : HP), K4 a0 a1 x2 x3 h = some out → ∀ (H : Heap) (locs : List Loc) (ls : Array Slot), ST G b False s h H locs → lv_has ls 4 [(0, .ref (b + a0)), (1, .ref (b + a1)), (2, .int x2), (3, .int x3)] → W p l e RM_X1_emptyHanded s m args below meth c H locs 0 0 Q (F0 m 4 ls [])) : ∀ (a0 : Nat) (a1 : Nat) (x2 : Int32) (x3 : Int32) (h : HP), f_X1_emptyHanded_b30 K4 a0 a1 x2 x3 h = some out → ∀ (H : Heap) (locs : List Loc) (ls : Array Slot), ST G b False s h H locs → lv_has ls 4 [(0, .ref (b + a0)), (1, .ref (b + a1)), (2, .int x2), (3, .int x3)] → W p l e RM_X1_emptyHanded s m args below meth c H locs 0 0 Q (F0 m 30 ls []) := by
  intro a0 a1 x2 x3 h hf H locs ls S hl
  unfold f_X1_emptyHanded_b30 at hf
  have hx := X.1
  have hb := X.2.1
  refine lv_iinc (v := x3 + 1) (lv' := [(3, .int (x3 + 1)), (0, .ref (b + a0)), (1, .ref (b + a1)), (2, .int x2)]) hx hb dX1_emptyHanded_30 hl (k := 3) rfl rfl (by decide) rfl (fun ls hl => ?_)
  refine lv_goto (tgt := 4) hx hb dX1_emptyHanded_33 (by decide) ?_
  exact hK4 _ _ _ _ _ hf _ _ _ S (lv_sub hl [1, 2, 3, 0] rfl)
def f_X1_emptyHanded_b4 (K4 : Nat → Nat → Int32 → Int32 → HP → Option (Int32 × HP)) (a0 : Nat) (a1 : Nat) (x2 : Int32) (x3 : Int32) (h : HP) : Option (Int32 × HP) :=
  (gI h a1 3 1).bind fun v1 =>
  if v1 ≤ x3 then
    some (x2, h)
  else
    (gR h a0 1 3).bind fun r2 =>
    (f_X8_at r2 x3 h).bind fun q3 =>
    if q3.1 = (-1) then
      (f_X8_with x2 x3 q3.2).bind fun q4 =>
      f_X1_emptyHanded_b30 K4 a0 a1 q4.1 x3 q4.2
    else
      f_X1_emptyHanded_b30 K4 a0 a1 x2 x3 q3.2
set_option maxRecDepth 100000 in
set_option maxHeartbeats 4000000 in
theorem w_X1_emptyHanded_b4 (X : CX RX1 cX1_emptyHanded 4 (some .int) p s m args meth c G b) {out : Int32 × HP} (Z : ZI p l e RM_X1_emptyHanded s m args below meth c cX1_emptyHanded G b False 0 0 Q out) {K4 : Nat → Nat → Int32 → Int32 → HP → Option (Int32 × HP)} (hK4 : ∀ (a0 : Nat) (a1 : Nat) (x2 : Int32) (x3 : Int32) (h : HP), K4 a0 a1 x2 x3 h = some out → ∀ (H : Heap) (locs : List Loc) (ls : Array Slot), ST G b False s h H locs → lv_has ls 4 [(0, .ref (b + a0)), (1, .ref (b + a1)), (2, .int x2), (3, .int x3)] → W p l e RM_X1_emptyHanded s m args below meth c H locs 0 0 Q (F0 m 4 ls [])) : ∀ (a0 : Nat) (a1 : Nat) (x2 : Int32) (x3 : Int32) (h : HP), f_X1_emptyHanded_b4 K4 a0 a1 x2 x3 h = some out → ∀ (H : Heap) (locs : List Loc) (ls : Array Slot), ST G b False s h H locs → lv_has ls 4 [(0, .ref (b + a0)), (1, .ref (b + a1)), (2, .int x2), (3, .int x3)] → W p l e RM_X1_emptyHanded s m args below meth c H locs 0 0 Q (F0 m 4 ls []) := by
  intro a0 a1 x2 x3 h hf H locs ls S hl
  unfold f_X1_emptyHanded_b4 at hf
  have hx := X.1
  have hb := X.2.1
  refine lv_iload_n hx hb dX1_emptyHanded_4 rfl (lv_at hl 3 rfl) ?_
  refine lv_aload_n hx hb dX1_emptyHanded_5 rfl (lv_at hl 1 rfl) ?_
  obtain ⟨v1, e_v1, hf⟩ := ob hf
  refine r_getI X S fl_X1_27 e_v1 dX1_emptyHanded_6 ?_
  refine lv_icmp_ge (tgt := 36) hx hb dX1_emptyHanded_9 (by decide) (fun hc => ?_) (fun hc => ?_)
  · replace hf := ip hf hc
    refine lv_iload_n hx hb dX1_emptyHanded_36 rfl (lv_at hl 2 rfl) ?_
    obtain rfl := Option.some.inj hf
    exact Z _ _ _ _ dX1_emptyHanded_37 S
  · replace hf := im hf hc
    refine lv_aload_n hx hb dX1_emptyHanded_12 rfl (lv_at hl 0 rfl) ?_
    obtain ⟨r2, e_r2, hf⟩ := ob hf
    refine r_getR X S fl_X1_9 e_r2 dX1_emptyHanded_13 ?_
    refine lv_iload_n hx hb dX1_emptyHanded_16 rfl (lv_at hl 3 rfl) ?_
    obtain ⟨q3, e_q3, hf⟩ := ob hf
    refine r_callSN X S hl.1 (As := [.ref (b + r2), .int x3]) (rest := []) (c_X8_at e_q3) my_X8_at ms_X8_at nl_X1_59 ⟨rfl, rfl, Nat.le_of_ble_eq_true rfl, Nat.le_of_ble_eq_true rfl⟩ rfl rfl (Nat.le_of_ble_eq_true rfl) dX1_emptyHanded_17 ⟨Nat.le_of_ble_eq_true rfl, Nat.le_of_ble_eq_true rfl⟩ (fun H locs S => ?_)
    refine W.eq (g2 := F0 m 20 ls [.int q3.1]) rfl ?_
    refine lv_iconst (v := (-1)) hx hb dX1_emptyHanded_20 (by decide) ?_
    refine lv_icmp_ne (tgt := 30) hx hb dX1_emptyHanded_21 (by decide) (fun hc => ?_) (fun hc => ?_)
    · replace hf := im hf hc
      exact w_X1_emptyHanded_b30 X Z hK4 _ _ _ _ _ hf _ _ _ S (lv_sub hl [0, 1, 2, 3] rfl)
    · replace hf := ip hf hc
      refine lv_iload_n hx hb dX1_emptyHanded_24 rfl (lv_at hl 2 rfl) ?_
      refine lv_iload_n hx hb dX1_emptyHanded_25 rfl (lv_at hl 3 rfl) ?_
      obtain ⟨q4, e_q4, hf⟩ := ob hf
      refine r_callSN X S hl.1 (As := [.int x2, .int x3]) (rest := []) (c_X8_with e_q4) my_X8_with ms_X8_with nl_X1_63 ⟨rfl, rfl, Nat.le_of_ble_eq_true rfl, Nat.le_of_ble_eq_true rfl⟩ rfl rfl (Nat.le_of_ble_eq_true rfl) dX1_emptyHanded_26 ⟨Nat.le_of_ble_eq_true rfl, Nat.le_of_ble_eq_true rfl⟩ (fun H locs S => ?_)
      refine W.eq (g2 := F0 m 29 ls [.int q4.1]) rfl ?_
      refine lv_istore_n (lv' := [(2, .int q4.1), (0, .ref (b + a0)), (1, .ref (b + a1)), (3, .int x3)]) hx hb dX1_emptyHanded_29 rfl hl (by decide) rfl (fun ls hl => ?_)
      exact w_X1_emptyHanded_b30 X Z hK4 _ _ _ _ _ hf _ _ _ S (lv_sub hl [1, 2, 0, 3] rfl)
def F_X1_emptyHanded_4  : Nat → Nat → Nat → Int32 → Int32 → HP → Option (Int32 × HP)
  | 0 => fun _ _ _ _ _ => none
  | n + 1 => fun a0 a1 x2 x3 h => f_X1_emptyHanded_b4 (F_X1_emptyHanded_4  n) a0 a1 x2 x3 h
theorem wl_X1_emptyHanded_4 (X : CX RX1 cX1_emptyHanded 4 (some .int) p s m args meth c G b) {out : Int32 × HP} (Z : ZI p l e RM_X1_emptyHanded s m args below meth c cX1_emptyHanded G b False 0 0 Q out)  : ∀ (n : Nat) (a0 : Nat) (a1 : Nat) (x2 : Int32) (x3 : Int32) (h : HP), F_X1_emptyHanded_4  n a0 a1 x2 x3 h = some out → ∀ (H : Heap) (locs : List Loc) (ls : Array Slot), ST G b False s h H locs → lv_has ls 4 [(0, .ref (b + a0)), (1, .ref (b + a1)), (2, .int x2), (3, .int x3)] → W p l e RM_X1_emptyHanded s m args below meth c H locs 0 0 Q (F0 m 4 ls []) := by
  intro n
  induction n with
  | zero => intro a0 a1 x2 x3 h hf; exact nn hf
  | succ n ih => exact w_X1_emptyHanded_b4 X Z ih
def f_X1_emptyHanded_e  (a0 : Nat) (a1 : Nat) (h : HP) : Option (Int32 × HP) :=
  F_X1_emptyHanded_4  FU a0 a1 0 0 h
set_option maxRecDepth 100000 in
set_option maxHeartbeats 4000000 in
theorem w_X1_emptyHanded_e (X : CX RX1 cX1_emptyHanded 4 (some .int) p s m args meth c G b) {out : Int32 × HP} (Z : ZI p l e RM_X1_emptyHanded s m args below meth c cX1_emptyHanded G b False 0 0 Q out)  : ∀ (a0 : Nat) (a1 : Nat) (h : HP), f_X1_emptyHanded_e  a0 a1 h = some out → ∀ (H : Heap) (locs : List Loc) (ls : Array Slot), ST G b False s h H locs → lv_has ls 4 [(0, .ref (b + a0)), (1, .ref (b + a1))] → W p l e RM_X1_emptyHanded s m args below meth c H locs 0 0 Q (F0 m 0 ls []) := by
  intro a0 a1 h hf H locs ls S hl
  unfold f_X1_emptyHanded_e at hf
  have hx := X.1
  have hb := X.2.1
  refine lv_iconst (v := 0) hx hb dX1_emptyHanded_0 (by decide) ?_
  refine lv_istore_n (lv' := [(2, .int 0), (0, .ref (b + a0)), (1, .ref (b + a1))]) hx hb dX1_emptyHanded_1 rfl hl (by decide) rfl (fun ls hl => ?_)
  refine lv_iconst (v := 0) hx hb dX1_emptyHanded_2 (by decide) ?_
  refine lv_istore_n (lv' := [(3, .int 0), (2, .int 0), (0, .ref (b + a0)), (1, .ref (b + a1))]) hx hb dX1_emptyHanded_3 rfl hl (by decide) rfl (fun ls hl => ?_)
  exact wl_X1_emptyHanded_4 X Z  FU _ _ _ _ _ hf _ _ _ S (lv_sub hl [2, 3, 1, 0] rfl)
def f_X1_emptyHanded (a0 : Nat) (a1 : Nat) (h : HP) : Option (Int32 × HP) := ck h a0 1 (f_X1_emptyHanded_e a0 a1 h)
theorem o_X1_emptyHanded {a0 : Nat} {a1 : Nat} {h : HP} {out : Int32 × HP} (hf : f_X1_emptyHanded a0 a1 h = some out) : ∃ fs, h[a0]? = some (.inl (1, fs)) := (ck_spec hf).1
set_option maxRecDepth 100000 in
theorem c_X1_emptyHanded {l : Launch} {G : GT} {b : Nat} {a0 : Nat} {a1 : Nat} {h : HP} {out : Int32 × HP} (hf : f_X1_emptyHanded a0 a1 h = some out) : MT l G b False False yX1_emptyHanded cX1_emptyHanded 4 (some .int) RM_X1_emptyHanded [.ref (b + a0), .ref (b + a1)] h (some (.int out.1)) out.2 0 0 := by
  refine met_of (by decide) (Nat.le_of_ble_eq_true rfl) ?_
  intro p e s m below meth c ls X hnm S hl
  have hl : lv_has ls 4 [(0, .ref (b + a0)), (1, .ref (b + a1))] := hl
  replace hf := (ck_spec hf).2
  exact w_X1_emptyHanded_e X (z_i X) _ _ _ hf _ _ _ S hl
/-! RoomRings$Dice.<init>()V -/
abbrev RM_X2_init : Room := { frames := 1, cells := 0, slots := 0, locals := 12 }
def f_X2_init_e  (a0 : Nat) (h : HP) : Option (HP) :=
  some h
set_option maxRecDepth 100000 in
set_option maxHeartbeats 4000000 in
theorem w_X2_init_e (X : CX RX2 cX2_init 1 none p s m args meth c G b) (hnm : meth.name = "<init>") {out : HP} (Z : ZV p l e RM_X2_init s m args below meth c cX2_init G b True 0 0 Q out)  : ∀ (a0 : Nat) (h : HP), f_X2_init_e  a0 h = some out → ∀ (H : Heap) (locs : List Loc) (ls : Array Slot), ST G b True s h H locs → lv_has ls 1 [(0, .ref (b + a0))] → W p l e RM_X2_init s m args below meth c H locs 0 0 Q (F0 m 0 ls []) := by
  intro a0 h hf H locs ls S hl
  unfold f_X2_init_e at hf
  have hx := X.1
  have hb := X.2.1
  refine lv_aload_n hx hb dX2_init_0 rfl (lv_at hl 0 rfl) ?_
  refine W.objInit hx hb X.2.2.2.1 (X.2.2.2.2.1 _ ml_X2_1) (X.2.2.2.2.1 _ oi_i) (X.2.2.2.2.1 _ oi_c) rfl (by rw [X.2.2.1]; exact hl.1) rfl dX2_init_1 (Nat.le_of_ble_eq_true rfl) (Nat.le_of_ble_eq_true rfl) ?_
  refine W.eq (g2 := F0 m 4 ls []) rfl ?_
  obtain rfl := Option.some.inj hf
  exact Z _ _ _ _ dX2_init_4 S
def f_X2_init (a0 : Nat) (h : HP) : Option (HP) := f_X2_init_e a0 h
set_option maxRecDepth 100000 in
theorem c_X2_init {l : Launch} {G : GT} {b : Nat} {a0 : Nat} {h : HP} {out : HP} (hf : f_X2_init a0 h = some out) : MT l G b True True yX2_init cX2_init 1 none RM_X2_init [.ref (b + a0)] h none out 0 0 := by
  refine met_of (by decide) (Nat.le_of_ble_eq_true rfl) ?_
  intro p e s m below meth c ls X hnm S hl
  have hl : lv_has ls 1 [(0, .ref (b + a0))] := hl
  exact w_X2_init_e X hnm (z_v X) _ _ hf _ _ _ S hl
/-! RoomRings$Dice.draw(I)I -/
abbrev RM_X2_draw : Room := { frames := 0, cells := 0, slots := 0, locals := 0 }
def f_X2_draw_b39  (s0 : Int32) (h : HP) : Option (Int32 × HP) :=
  some (s0, h)
set_option maxRecDepth 100000 in
set_option maxHeartbeats 4000000 in
theorem w_X2_draw_b39 (X : CX RX2 cX2_draw 2 (some .int) p s m args meth c G b) {out : Int32 × HP} (Z : ZI p l e RM_X2_draw s m args below meth c cX2_draw G b False 0 0 Q out)  : ∀ (s0 : Int32) (h : HP), f_X2_draw_b39  s0 h = some out → ∀ (H : Heap) (locs : List Loc) (ls : Array Slot), ST G b False s h H locs → lv_has ls 2 [] → W p l e RM_X2_draw s m args below meth c H locs 0 0 Q (F0 m 39 ls [.int s0]) := by
  intro s0 h hf H locs ls S hl
  unfold f_X2_draw_b39 at hf
  have hx := X.1
  have hb := X.2.1
  obtain rfl := Option.some.inj hf
  exact Z _ _ _ _ dX2_draw_39 S
def f_X2_draw_e  (a0 : Nat) (x1 : Int32) (h : HP) : Option (Int32 × HP) :=
  (gI h a0 2 0).bind fun v1 =>
  (pI h a0 2 0 (Int64.toInt32 ((((Int32.toInt64 v1) * 1103515245) + 12345) - (((Int32.toInt64 v1) * 1103515245) + 12345) / 2147483648 * 2147483648))).bind fun h2 =>
  if x1 ≤ 0 then
    f_X2_draw_b39  0 h2
  else
    (gI h2 a0 2 0).bind fun v3 =>
    if x1 = 0 then none else
    f_X2_draw_b39  ((v3 / 65536) - (v3 / 65536) / x1 * x1) h2
set_option maxRecDepth 100000 in
set_option maxHeartbeats 4000000 in
theorem w_X2_draw_e (X : CX RX2 cX2_draw 2 (some .int) p s m args meth c G b) {out : Int32 × HP} (Z : ZI p l e RM_X2_draw s m args below meth c cX2_draw G b False 0 0 Q out)  : ∀ (a0 : Nat) (x1 : Int32) (h : HP), f_X2_draw_e  a0 x1 h = some out → ∀ (H : Heap) (locs : List Loc) (ls : Array Slot), ST G b False s h H locs → lv_has ls 2 [(0, .ref (b + a0)), (1, .int x1)] → W p l e RM_X2_draw s m args below meth c H locs 0 0 Q (F0 m 0 ls []) := by
  intro a0 x1 h hf H locs ls S hl
  unfold f_X2_draw_e at hf
  have hx := X.1
  have hb := X.2.1
  refine lv_aload_n hx hb dX2_draw_0 rfl (lv_at hl 0 rfl) ?_
  refine lv_aload_n hx hb dX2_draw_1 rfl (lv_at hl 0 rfl) ?_
  obtain ⟨v1, e_v1, hf⟩ := ob hf
  refine r_getI X S fl_X2_7 e_v1 dX2_draw_2 ?_
  refine lv_i2l (v := Int32.toInt64 v1) hx hb dX2_draw_5 rfl ?_
  refine lv_ldc2 (v := 1103515245) hx hb X.2.2.2.1 (X.2.2.2.2.1 _ cl_X2_13) dX2_draw_6 ?_
  refine lv_lmul hx hb dX2_draw_9 ?_
  refine lv_ldc2 (v := 12345) hx hb X.2.2.2.1 (X.2.2.2.2.1 _ cl_X2_15) dX2_draw_10 ?_
  refine lv_ladd hx hb dX2_draw_13 ?_
  refine lv_ldc2 (v := 2147483648) hx hb X.2.2.2.1 (X.2.2.2.2.1 _ cl_X2_17) dX2_draw_14 ?_
  refine lv_lrem hx hb dX2_draw_17 (by decide) ?_
  refine lv_l2i (v := Int64.toInt32 ((((Int32.toInt64 v1) * 1103515245) + 12345) - (((Int32.toInt64 v1) * 1103515245) + 12345) / 2147483648 * 2147483648)) hx hb dX2_draw_18 rfl ?_
  obtain ⟨h2, e_h2, hf⟩ := ob hf
  refine r_put X S fp_X2_7 (fun h9 => by cases h9) rfl rfl rfl e_h2 dX2_draw_19 (fun H locs S => ?_)
  refine lv_iload_n hx hb dX2_draw_22 rfl (lv_at hl 1 rfl) ?_
  refine lv_if_le (tgt := 38) hx hb dX2_draw_23 (by decide) (fun hc => ?_) (fun hc => ?_)
  · replace hf := ip hf hc
    refine lv_iconst (v := 0) hx hb dX2_draw_38 (by decide) ?_
    exact w_X2_draw_b39 X Z  _ _ hf _ _ _ S (lv_sub hl [] rfl)
  · replace hf := im hf hc
    refine lv_aload_n hx hb dX2_draw_26 rfl (lv_at hl 0 rfl) ?_
    obtain ⟨v3, e_v3, hf⟩ := ob hf
    refine r_getI X S fl_X2_7 e_v3 dX2_draw_27 ?_
    refine lv_ldc (v := 65536) hx hb X.2.2.2.1 (X.2.2.2.2.1 _ cn_X2_19) dX2_draw_30 ?_
    refine lv_idiv hx hb dX2_draw_32 (by decide) ?_
    refine lv_iload_n hx hb dX2_draw_33 rfl (lv_at hl 1 rfl) ?_
    obtain ⟨hne, hf⟩ := ign hf
    refine lv_irem hx hb dX2_draw_34 hne ?_
    refine lv_goto (tgt := 39) hx hb dX2_draw_35 (by decide) ?_
    exact w_X2_draw_b39 X Z  _ _ hf _ _ _ S (lv_sub hl [] rfl)
def f_X2_draw (a0 : Nat) (x1 : Int32) (h : HP) : Option (Int32 × HP) := ck h a0 2 (f_X2_draw_e a0 x1 h)
theorem o_X2_draw {a0 : Nat} {x1 : Int32} {h : HP} {out : Int32 × HP} (hf : f_X2_draw a0 x1 h = some out) : ∃ fs, h[a0]? = some (.inl (2, fs)) := (ck_spec hf).1
set_option maxRecDepth 100000 in
theorem c_X2_draw {l : Launch} {G : GT} {b : Nat} {a0 : Nat} {x1 : Int32} {h : HP} {out : Int32 × HP} (hf : f_X2_draw a0 x1 h = some out) : MT l G b False False yX2_draw cX2_draw 2 (some .int) RM_X2_draw [.ref (b + a0), .int x1] h (some (.int out.1)) out.2 0 0 := by
  refine met_of (by decide) (Nat.le_of_ble_eq_true rfl) ?_
  intro p e s m below meth c ls X hnm S hl
  have hl : lv_has ls 2 [(0, .ref (b + a0)), (1, .int x1)] := hl
  replace hf := (ck_spec hf).2
  exact w_X2_draw_e X (z_i X) _ _ _ hf _ _ _ S hl
/-! RoomRings$House.<init>()V -/
abbrev RM_X3_init : Room := { frames := 1, cells := 4, slots := 66, locals := 12 }
def f_X3_init_e  (a0 : Nat) (h : HP) : Option (HP) :=
  (pR (hpush h (.inr (.inl (6, fun _ => 0)))) a0 3 2 (List.length h)).bind fun h1 =>
  (pR (hpush h1 (.inr (.inl (6, fun _ => 0)))) a0 3 3 (List.length h1)).bind fun h2 =>
  (pR (hpush h2 (.inr (.inl (48, fun _ => 0)))) a0 3 4 (List.length h2)).bind fun h3 =>
  (pR (hpush h3 (.inr (.inl (6, fun _ => 0)))) a0 3 5 (List.length h3)).bind fun h4 =>
  some h4
set_option maxRecDepth 100000 in
set_option maxHeartbeats 4000000 in
theorem w_X3_init_e (X : CX RX3 cX3_init 1 none p s m args meth c G b) (hnm : meth.name = "<init>") {out : HP} (Z : ZV p l e RM_X3_init s m args below meth c cX3_init G b True 4 66 Q out)  : ∀ (a0 : Nat) (h : HP), f_X3_init_e  a0 h = some out → ∀ (H : Heap) (locs : List Loc) (ls : Array Slot), ST G b True s h H locs → lv_has ls 1 [(0, .ref (b + a0))] → W p l e RM_X3_init s m args below meth c H locs 0 0 Q (F0 m 0 ls []) := by
  intro a0 h hf H locs ls S hl
  unfold f_X3_init_e at hf
  have hx := X.1
  have hb := X.2.1
  refine lv_aload_n hx hb dX3_init_0 rfl (lv_at hl 0 rfl) ?_
  refine W.objInit hx hb X.2.2.2.1 (X.2.2.2.2.1 _ ml_X3_3) (X.2.2.2.2.1 _ oi_i) (X.2.2.2.2.1 _ oi_c) rfl (by rw [X.2.2.1]; exact hl.1) rfl dX3_init_1 (Nat.le_of_ble_eq_true rfl) (Nat.le_of_ble_eq_true rfl) ?_
  refine W.eq (g2 := F0 m 4 ls []) rfl ?_
  refine lv_aload_n hx hb dX3_init_4 rfl (lv_at hl 0 rfl) ?_
  refine lv_bipush (v := 6) hx hb dX3_init_5 (by decide) ?_
  refine r_newI (N := 6) X S ac_int (by decide) (by decide) (by decide) (Nat.le_of_ble_eq_true rfl) (Nat.le_of_ble_eq_true rfl) dX3_init_7 (fun H locs S => ?_)
  refine W.widen (k := 1) (n := 6) (Nat.le_of_ble_eq_true rfl) (Nat.le_of_ble_eq_true rfl) ?_
  obtain ⟨h1, e_h1, hf⟩ := ob hf
  refine r_put X S fp_X3_9 (fun _ => hnm) rfl rfl rfl e_h1 dX3_init_9 (fun H locs S => ?_)
  refine lv_aload_n hx hb dX3_init_12 rfl (lv_at hl 0 rfl) ?_
  refine lv_bipush (v := 6) hx hb dX3_init_13 (by decide) ?_
  refine r_newI (N := 6) X S ac_int (by decide) (by decide) (by decide) (Nat.le_of_ble_eq_true rfl) (Nat.le_of_ble_eq_true rfl) dX3_init_15 (fun H locs S => ?_)
  refine W.widen (k := 2) (n := 12) (Nat.le_of_ble_eq_true rfl) (Nat.le_of_ble_eq_true rfl) ?_
  obtain ⟨h2, e_h2, hf⟩ := ob hf
  refine r_put X S fp_X3_15 (fun _ => hnm) rfl rfl rfl e_h2 dX3_init_17 (fun H locs S => ?_)
  refine lv_aload_n hx hb dX3_init_20 rfl (lv_at hl 0 rfl) ?_
  refine lv_bipush (v := 48) hx hb dX3_init_21 (by decide) ?_
  refine r_newI (N := 48) X S ac_int (by decide) (by decide) (by decide) (Nat.le_of_ble_eq_true rfl) (Nat.le_of_ble_eq_true rfl) dX3_init_23 (fun H locs S => ?_)
  refine W.widen (k := 3) (n := 60) (Nat.le_of_ble_eq_true rfl) (Nat.le_of_ble_eq_true rfl) ?_
  obtain ⟨h3, e_h3, hf⟩ := ob hf
  refine r_put X S fp_X3_18 (fun _ => hnm) rfl rfl rfl e_h3 dX3_init_25 (fun H locs S => ?_)
  refine lv_aload_n hx hb dX3_init_28 rfl (lv_at hl 0 rfl) ?_
  refine lv_bipush (v := 6) hx hb dX3_init_29 (by decide) ?_
  refine r_newI (N := 6) X S ac_int (by decide) (by decide) (by decide) (Nat.le_of_ble_eq_true rfl) (Nat.le_of_ble_eq_true rfl) dX3_init_31 (fun H locs S => ?_)
  refine W.widen (k := 4) (n := 66) (Nat.le_of_ble_eq_true rfl) (Nat.le_of_ble_eq_true rfl) ?_
  obtain ⟨h4, e_h4, hf⟩ := ob hf
  refine r_put X S fp_X3_21 (fun _ => hnm) rfl rfl rfl e_h4 dX3_init_33 (fun H locs S => ?_)
  obtain rfl := Option.some.inj hf
  exact Z _ _ _ _ dX3_init_36 S
def f_X3_init (a0 : Nat) (h : HP) : Option (HP) := f_X3_init_e a0 h
set_option maxRecDepth 100000 in
theorem c_X3_init {l : Launch} {G : GT} {b : Nat} {a0 : Nat} {h : HP} {out : HP} (hf : f_X3_init a0 h = some out) : MT l G b True True yX3_init cX3_init 1 none RM_X3_init [.ref (b + a0)] h none out 4 66 := by
  refine met_of (by decide) (Nat.le_of_ble_eq_true rfl) ?_
  intro p e s m below meth c ls X hnm S hl
  have hl : lv_has ls 1 [(0, .ref (b + a0))] := hl
  exact w_X3_init_e X hnm (z_v X) _ _ hf _ _ _ S hl
/-! RoomRings$House.clear()V -/
abbrev RM_X3_clear : Room := { frames := 0, cells := 0, slots := 0, locals := 0 }
def f_X3_clear_e  (a0 : Nat) (h : HP) : Option (HP) :=
  (pI h a0 3 0 0).bind fun h1 =>
  (pI h1 a0 3 1 0).bind fun h2 =>
  some h2
set_option maxRecDepth 100000 in
set_option maxHeartbeats 4000000 in
theorem w_X3_clear_e (X : CX RX3 cX3_clear 1 none p s m args meth c G b) {out : HP} (Z : ZV p l e RM_X3_clear s m args below meth c cX3_clear G b False 0 0 Q out)  : ∀ (a0 : Nat) (h : HP), f_X3_clear_e  a0 h = some out → ∀ (H : Heap) (locs : List Loc) (ls : Array Slot), ST G b False s h H locs → lv_has ls 1 [(0, .ref (b + a0))] → W p l e RM_X3_clear s m args below meth c H locs 0 0 Q (F0 m 0 ls []) := by
  intro a0 h hf H locs ls S hl
  unfold f_X3_clear_e at hf
  have hx := X.1
  have hb := X.2.1
  refine lv_aload_n hx hb dX3_clear_0 rfl (lv_at hl 0 rfl) ?_
  refine lv_iconst (v := 0) hx hb dX3_clear_1 (by decide) ?_
  obtain ⟨h1, e_h1, hf⟩ := ob hf
  refine r_put X S fp_X3_24 (fun h9 => by cases h9) rfl rfl rfl e_h1 dX3_clear_2 (fun H locs S => ?_)
  refine lv_aload_n hx hb dX3_clear_5 rfl (lv_at hl 0 rfl) ?_
  refine lv_iconst (v := 0) hx hb dX3_clear_6 (by decide) ?_
  obtain ⟨h2, e_h2, hf⟩ := ob hf
  refine r_put X S fp_X3_28 (fun h9 => by cases h9) rfl rfl rfl e_h2 dX3_clear_7 (fun H locs S => ?_)
  obtain rfl := Option.some.inj hf
  exact Z _ _ _ _ dX3_clear_10 S
def f_X3_clear (a0 : Nat) (h : HP) : Option (HP) := ck h a0 3 (f_X3_clear_e a0 h)
theorem o_X3_clear {a0 : Nat} {h : HP} {out : HP} (hf : f_X3_clear a0 h = some out) : ∃ fs, h[a0]? = some (.inl (3, fs)) := (ck_spec hf).1
set_option maxRecDepth 100000 in
theorem c_X3_clear {l : Launch} {G : GT} {b : Nat} {a0 : Nat} {h : HP} {out : HP} (hf : f_X3_clear a0 h = some out) : MT l G b False False yX3_clear cX3_clear 1 none RM_X3_clear [.ref (b + a0)] h none out 0 0 := by
  refine met_of (by decide) (Nat.le_of_ble_eq_true rfl) ?_
  intro p e s m below meth c ls X hnm S hl
  have hl : lv_has ls 1 [(0, .ref (b + a0))] := hl
  replace hf := (ck_spec hf).2
  exact w_X3_clear_e X (z_v X) _ _ hf _ _ _ S hl
/-! RoomRings$House.copy(LRoomRings$House;)V -/
abbrev RM_X3_copy : Room := { frames := 1, cells := 0, slots := 0, locals := 18 }
def f_X3_copy_e  (a0 : Nat) (a1 : Nat) (h : HP) : Option (HP) :=
  (gI h a1 3 0).bind fun v1 =>
  (pI h a0 3 0 v1).bind fun h2 =>
  (gI h2 a1 3 1).bind fun v3 =>
  (pI h2 a0 3 1 v3).bind fun h4 =>
  (gR h4 a1 3 2).bind fun r5 =>
  (gR h4 a0 3 2).bind fun r6 =>
  (gR h4 a0 3 2).bind fun r7 =>
  (alen h4 r7).bind fun v8 =>
  (cpy h4 r5 0 r6 0 v8).bind fun h9 =>
  (gR h9 a1 3 3).bind fun r10 =>
  (gR h9 a0 3 3).bind fun r11 =>
  (gR h9 a0 3 3).bind fun r12 =>
  (alen h9 r12).bind fun v13 =>
  (cpy h9 r10 0 r11 0 v13).bind fun h14 =>
  (gR h14 a1 3 4).bind fun r15 =>
  (gR h14 a0 3 4).bind fun r16 =>
  (gR h14 a0 3 4).bind fun r17 =>
  (alen h14 r17).bind fun v18 =>
  (cpy h14 r15 0 r16 0 v18).bind fun h19 =>
  (gR h19 a1 3 5).bind fun r20 =>
  (gR h19 a0 3 5).bind fun r21 =>
  (gR h19 a0 3 5).bind fun r22 =>
  (alen h19 r22).bind fun v23 =>
  (cpy h19 r20 0 r21 0 v23).bind fun h24 =>
  some h24
set_option maxRecDepth 100000 in
set_option maxHeartbeats 4000000 in
theorem w_X3_copy_e (X : CX RX3 cX3_copy 2 none p s m args meth c G b) {out : HP} (Z : ZV p l e RM_X3_copy s m args below meth c cX3_copy G b False 0 0 Q out)  : ∀ (a0 : Nat) (a1 : Nat) (h : HP), f_X3_copy_e  a0 a1 h = some out → ∀ (H : Heap) (locs : List Loc) (ls : Array Slot), ST G b False s h H locs → lv_has ls 2 [(0, .ref (b + a0)), (1, .ref (b + a1))] → W p l e RM_X3_copy s m args below meth c H locs 0 0 Q (F0 m 0 ls []) := by
  intro a0 a1 h hf H locs ls S hl
  unfold f_X3_copy_e at hf
  have hx := X.1
  have hb := X.2.1
  refine lv_aload_n hx hb dX3_copy_0 rfl (lv_at hl 0 rfl) ?_
  refine lv_aload_n hx hb dX3_copy_1 rfl (lv_at hl 1 rfl) ?_
  obtain ⟨v1, e_v1, hf⟩ := ob hf
  refine r_getI X S fl_X3_24 e_v1 dX3_copy_2 ?_
  obtain ⟨h2, e_h2, hf⟩ := ob hf
  refine r_put X S fp_X3_24 (fun h9 => by cases h9) rfl rfl rfl e_h2 dX3_copy_5 (fun H locs S => ?_)
  refine lv_aload_n hx hb dX3_copy_8 rfl (lv_at hl 0 rfl) ?_
  refine lv_aload_n hx hb dX3_copy_9 rfl (lv_at hl 1 rfl) ?_
  obtain ⟨v3, e_v3, hf⟩ := ob hf
  refine r_getI X S fl_X3_28 e_v3 dX3_copy_10 ?_
  obtain ⟨h4, e_h4, hf⟩ := ob hf
  refine r_put X S fp_X3_28 (fun h9 => by cases h9) rfl rfl rfl e_h4 dX3_copy_13 (fun H locs S => ?_)
  refine lv_aload_n hx hb dX3_copy_16 rfl (lv_at hl 1 rfl) ?_
  obtain ⟨r5, e_r5, hf⟩ := ob hf
  refine r_getR X S fl_X3_9 e_r5 dX3_copy_17 ?_
  refine lv_iconst (v := 0) hx hb dX3_copy_20 (by decide) ?_
  refine lv_aload_n hx hb dX3_copy_21 rfl (lv_at hl 0 rfl) ?_
  obtain ⟨r6, e_r6, hf⟩ := ob hf
  refine r_getR X S fl_X3_9 e_r6 dX3_copy_22 ?_
  refine lv_iconst (v := 0) hx hb dX3_copy_25 (by decide) ?_
  refine lv_aload_n hx hb dX3_copy_26 rfl (lv_at hl 0 rfl) ?_
  obtain ⟨r7, e_r7, hf⟩ := ob hf
  refine r_getR X S fl_X3_9 e_r7 dX3_copy_27 ?_
  obtain ⟨v8, e_v8, hf⟩ := ob hf
  refine r_alen X S e_v8 dX3_copy_30 ?_
  obtain ⟨h9, e_h9, hf⟩ := ob hf
  refine r_cpy X S hl.1 cp_X3_31 e_h9 (Nat.le_of_ble_eq_true rfl) (Nat.le_of_ble_eq_true rfl) dX3_copy_31 (fun H locs S => ?_)
  refine lv_aload_n hx hb dX3_copy_34 rfl (lv_at hl 1 rfl) ?_
  obtain ⟨r10, e_r10, hf⟩ := ob hf
  refine r_getR X S fl_X3_15 e_r10 dX3_copy_35 ?_
  refine lv_iconst (v := 0) hx hb dX3_copy_38 (by decide) ?_
  refine lv_aload_n hx hb dX3_copy_39 rfl (lv_at hl 0 rfl) ?_
  obtain ⟨r11, e_r11, hf⟩ := ob hf
  refine r_getR X S fl_X3_15 e_r11 dX3_copy_40 ?_
  refine lv_iconst (v := 0) hx hb dX3_copy_43 (by decide) ?_
  refine lv_aload_n hx hb dX3_copy_44 rfl (lv_at hl 0 rfl) ?_
  obtain ⟨r12, e_r12, hf⟩ := ob hf
  refine r_getR X S fl_X3_15 e_r12 dX3_copy_45 ?_
  obtain ⟨v13, e_v13, hf⟩ := ob hf
  refine r_alen X S e_v13 dX3_copy_48 ?_
  obtain ⟨h14, e_h14, hf⟩ := ob hf
  refine r_cpy X S hl.1 cp_X3_31 e_h14 (Nat.le_of_ble_eq_true rfl) (Nat.le_of_ble_eq_true rfl) dX3_copy_49 (fun H locs S => ?_)
  refine lv_aload_n hx hb dX3_copy_52 rfl (lv_at hl 1 rfl) ?_
  obtain ⟨r15, e_r15, hf⟩ := ob hf
  refine r_getR X S fl_X3_18 e_r15 dX3_copy_53 ?_
  refine lv_iconst (v := 0) hx hb dX3_copy_56 (by decide) ?_
  refine lv_aload_n hx hb dX3_copy_57 rfl (lv_at hl 0 rfl) ?_
  obtain ⟨r16, e_r16, hf⟩ := ob hf
  refine r_getR X S fl_X3_18 e_r16 dX3_copy_58 ?_
  refine lv_iconst (v := 0) hx hb dX3_copy_61 (by decide) ?_
  refine lv_aload_n hx hb dX3_copy_62 rfl (lv_at hl 0 rfl) ?_
  obtain ⟨r17, e_r17, hf⟩ := ob hf
  refine r_getR X S fl_X3_18 e_r17 dX3_copy_63 ?_
  obtain ⟨v18, e_v18, hf⟩ := ob hf
  refine r_alen X S e_v18 dX3_copy_66 ?_
  obtain ⟨h19, e_h19, hf⟩ := ob hf
  refine r_cpy X S hl.1 cp_X3_31 e_h19 (Nat.le_of_ble_eq_true rfl) (Nat.le_of_ble_eq_true rfl) dX3_copy_67 (fun H locs S => ?_)
  refine lv_aload_n hx hb dX3_copy_70 rfl (lv_at hl 1 rfl) ?_
  obtain ⟨r20, e_r20, hf⟩ := ob hf
  refine r_getR X S fl_X3_21 e_r20 dX3_copy_71 ?_
  refine lv_iconst (v := 0) hx hb dX3_copy_74 (by decide) ?_
  refine lv_aload_n hx hb dX3_copy_75 rfl (lv_at hl 0 rfl) ?_
  obtain ⟨r21, e_r21, hf⟩ := ob hf
  refine r_getR X S fl_X3_21 e_r21 dX3_copy_76 ?_
  refine lv_iconst (v := 0) hx hb dX3_copy_79 (by decide) ?_
  refine lv_aload_n hx hb dX3_copy_80 rfl (lv_at hl 0 rfl) ?_
  obtain ⟨r22, e_r22, hf⟩ := ob hf
  refine r_getR X S fl_X3_21 e_r22 dX3_copy_81 ?_
  obtain ⟨v23, e_v23, hf⟩ := ob hf
  refine r_alen X S e_v23 dX3_copy_84 ?_
  obtain ⟨h24, e_h24, hf⟩ := ob hf
  refine r_cpy X S hl.1 cp_X3_31 e_h24 (Nat.le_of_ble_eq_true rfl) (Nat.le_of_ble_eq_true rfl) dX3_copy_85 (fun H locs S => ?_)
  obtain rfl := Option.some.inj hf
  exact Z _ _ _ _ dX3_copy_88 S
def f_X3_copy (a0 : Nat) (a1 : Nat) (h : HP) : Option (HP) := ck h a0 3 (f_X3_copy_e a0 a1 h)
theorem o_X3_copy {a0 : Nat} {a1 : Nat} {h : HP} {out : HP} (hf : f_X3_copy a0 a1 h = some out) : ∃ fs, h[a0]? = some (.inl (3, fs)) := (ck_spec hf).1
set_option maxRecDepth 100000 in
theorem c_X3_copy {l : Launch} {G : GT} {b : Nat} {a0 : Nat} {a1 : Nat} {h : HP} {out : HP} (hf : f_X3_copy a0 a1 h = some out) : MT l G b False False yX3_copy cX3_copy 2 none RM_X3_copy [.ref (b + a0), .ref (b + a1)] h none out 0 0 := by
  refine met_of (by decide) (Nat.le_of_ble_eq_true rfl) ?_
  intro p e s m below meth c ls X hnm S hl
  have hl : lv_has ls 2 [(0, .ref (b + a0)), (1, .ref (b + a1))] := hl
  replace hf := (ck_spec hf).2
  exact w_X3_copy_e X (z_v X) _ _ _ hf _ _ _ S hl
/-! RoomRings$House.addPerson()I -/
abbrev RM_X3_addPerson : Room := { frames := 1, cells := 0, slots := 0, locals := 22 }
def f_X3_addPerson_e  (a0 : Nat) (h : HP) : Option (Int32 × HP) :=
  (gI h a0 3 1).bind fun v1 =>
  (gR h a0 3 2).bind fun r2 =>
  (f_X8_put r2 v1 (-1) h).bind fun h3 =>
  (gR h3 a0 3 3).bind fun r4 =>
  (f_X8_put r4 v1 0 h3).bind fun h5 =>
  (gR h5 a0 3 5).bind fun r6 =>
  (f_X8_put r6 v1 v1 h5).bind fun h7 =>
  (pI h7 a0 3 1 (if 6 < (v1 + 1) then 6 else (v1 + 1))).bind fun h8 =>
  some (v1, h8)
set_option maxRecDepth 100000 in
set_option maxHeartbeats 4000000 in
theorem w_X3_addPerson_e (X : CX RX3 cX3_addPerson 2 (some .int) p s m args meth c G b) {out : Int32 × HP} (Z : ZI p l e RM_X3_addPerson s m args below meth c cX3_addPerson G b False 0 0 Q out)  : ∀ (a0 : Nat) (h : HP), f_X3_addPerson_e  a0 h = some out → ∀ (H : Heap) (locs : List Loc) (ls : Array Slot), ST G b False s h H locs → lv_has ls 2 [(0, .ref (b + a0))] → W p l e RM_X3_addPerson s m args below meth c H locs 0 0 Q (F0 m 0 ls []) := by
  intro a0 h hf H locs ls S hl
  unfold f_X3_addPerson_e at hf
  have hx := X.1
  have hb := X.2.1
  refine lv_aload_n hx hb dX3_addPerson_0 rfl (lv_at hl 0 rfl) ?_
  obtain ⟨v1, e_v1, hf⟩ := ob hf
  refine r_getI X S fl_X3_28 e_v1 dX3_addPerson_1 ?_
  refine lv_istore_n (lv' := [(1, .int v1), (0, .ref (b + a0))]) hx hb dX3_addPerson_4 rfl hl (by decide) rfl (fun ls hl => ?_)
  refine lv_aload_n hx hb dX3_addPerson_5 rfl (lv_at hl 1 rfl) ?_
  obtain ⟨r2, e_r2, hf⟩ := ob hf
  refine r_getR X S fl_X3_9 e_r2 dX3_addPerson_6 ?_
  refine lv_iload_n hx hb dX3_addPerson_9 rfl (lv_at hl 0 rfl) ?_
  refine lv_iconst (v := (-1)) hx hb dX3_addPerson_10 (by decide) ?_
  obtain ⟨h3, e_h3, hf⟩ := ob hf
  refine r_callSN X S hl.1 (As := [.ref (b + r2), .int v1, .int (-1)]) (rest := []) (c_X8_put e_h3) my_X8_put ms_X8_put nl_X3_37 ⟨rfl, rfl, Nat.le_of_ble_eq_true rfl, Nat.le_of_ble_eq_true rfl⟩ rfl rfl (Nat.le_of_ble_eq_true rfl) dX3_addPerson_11 ⟨Nat.le_of_ble_eq_true rfl, Nat.le_of_ble_eq_true rfl⟩ (fun H locs S => ?_)
  refine W.eq (g2 := F0 m 14 ls []) rfl ?_
  refine lv_aload_n hx hb dX3_addPerson_14 rfl (lv_at hl 1 rfl) ?_
  obtain ⟨r4, e_r4, hf⟩ := ob hf
  refine r_getR X S fl_X3_15 e_r4 dX3_addPerson_15 ?_
  refine lv_iload_n hx hb dX3_addPerson_18 rfl (lv_at hl 0 rfl) ?_
  refine lv_iconst (v := 0) hx hb dX3_addPerson_19 (by decide) ?_
  obtain ⟨h5, e_h5, hf⟩ := ob hf
  refine r_callSN X S hl.1 (As := [.ref (b + r4), .int v1, .int 0]) (rest := []) (c_X8_put e_h5) my_X8_put ms_X8_put nl_X3_37 ⟨rfl, rfl, Nat.le_of_ble_eq_true rfl, Nat.le_of_ble_eq_true rfl⟩ rfl rfl (Nat.le_of_ble_eq_true rfl) dX3_addPerson_20 ⟨Nat.le_of_ble_eq_true rfl, Nat.le_of_ble_eq_true rfl⟩ (fun H locs S => ?_)
  refine W.eq (g2 := F0 m 23 ls []) rfl ?_
  refine lv_aload_n hx hb dX3_addPerson_23 rfl (lv_at hl 1 rfl) ?_
  obtain ⟨r6, e_r6, hf⟩ := ob hf
  refine r_getR X S fl_X3_21 e_r6 dX3_addPerson_24 ?_
  refine lv_iload_n hx hb dX3_addPerson_27 rfl (lv_at hl 0 rfl) ?_
  refine lv_iload_n hx hb dX3_addPerson_28 rfl (lv_at hl 0 rfl) ?_
  obtain ⟨h7, e_h7, hf⟩ := ob hf
  refine r_callSN X S hl.1 (As := [.ref (b + r6), .int v1, .int v1]) (rest := []) (c_X8_put e_h7) my_X8_put ms_X8_put nl_X3_37 ⟨rfl, rfl, Nat.le_of_ble_eq_true rfl, Nat.le_of_ble_eq_true rfl⟩ rfl rfl (Nat.le_of_ble_eq_true rfl) dX3_addPerson_29 ⟨Nat.le_of_ble_eq_true rfl, Nat.le_of_ble_eq_true rfl⟩ (fun H locs S => ?_)
  refine W.eq (g2 := F0 m 32 ls []) rfl ?_
  refine lv_aload_n hx hb dX3_addPerson_32 rfl (lv_at hl 1 rfl) ?_
  refine lv_iload_n hx hb dX3_addPerson_33 rfl (lv_at hl 0 rfl) ?_
  refine lv_iconst (v := 1) hx hb dX3_addPerson_34 (by decide) ?_
  refine lv_iadd hx hb dX3_addPerson_35 ?_
  refine lv_bipush (v := 6) hx hb dX3_addPerson_36 (by decide) ?_
  refine va_mmin hx hb (X.2.2.1.trans hl.1.symm) X.2.2.2.1 (X.2.2.2.2.1 _ mm_X3_41.1) (X.2.2.2.2.1 _ mm_X3_41.2.1) (X.2.2.2.2.1 _ mm_X3_41.2.2.1) (X.2.2.2.2.1 _ mm_X3_41.2.2.2) (Nat.le_of_ble_eq_true rfl) (Nat.le_of_ble_eq_true rfl) (Nat.zero_le _) (Nat.zero_le _) dX3_addPerson_38 ?_
  obtain ⟨h8, e_h8, hf⟩ := ob hf
  refine r_put X S fp_X3_28 (fun h9 => by cases h9) rfl rfl rfl e_h8 dX3_addPerson_41 (fun H locs S => ?_)
  refine lv_iload_n hx hb dX3_addPerson_44 rfl (lv_at hl 0 rfl) ?_
  obtain rfl := Option.some.inj hf
  exact Z _ _ _ _ dX3_addPerson_45 S
def f_X3_addPerson (a0 : Nat) (h : HP) : Option (Int32 × HP) := ck h a0 3 (f_X3_addPerson_e a0 h)
theorem o_X3_addPerson {a0 : Nat} {h : HP} {out : Int32 × HP} (hf : f_X3_addPerson a0 h = some out) : ∃ fs, h[a0]? = some (.inl (3, fs)) := (ck_spec hf).1
set_option maxRecDepth 100000 in
theorem c_X3_addPerson {l : Launch} {G : GT} {b : Nat} {a0 : Nat} {h : HP} {out : Int32 × HP} (hf : f_X3_addPerson a0 h = some out) : MT l G b False False yX3_addPerson cX3_addPerson 2 (some .int) RM_X3_addPerson [.ref (b + a0)] h (some (.int out.1)) out.2 0 0 := by
  refine met_of (by decide) (Nat.le_of_ble_eq_true rfl) ?_
  intro p e s m below meth c ls X hnm S hl
  have hl : lv_has ls 2 [(0, .ref (b + a0))] := hl
  replace hf := (ck_spec hf).2
  exact w_X3_addPerson_e X (z_i X) _ _ hf _ _ _ S hl
/-! RoomRings$House.hasPerson(I)Z -/
abbrev RM_X3_hasPerson : Room := { frames := 0, cells := 0, slots := 0, locals := 0 }
def f_X3_hasPerson_b17  (s0 : Int32) (h : HP) : Option (Int32 × HP) :=
  if s0 = 0 ∨ s0 = 1 then some (s0, h) else none
set_option maxRecDepth 100000 in
set_option maxHeartbeats 4000000 in
theorem w_X3_hasPerson_b17 (X : CX RX3 cX3_hasPerson 2 (some .boolean) p s m args meth c G b) {out : Int32 × HP} (Z : ZZ p l e RM_X3_hasPerson s m args below meth c cX3_hasPerson G b False 0 0 Q out)  : ∀ (s0 : Int32) (h : HP), f_X3_hasPerson_b17  s0 h = some out → ∀ (H : Heap) (locs : List Loc) (ls : Array Slot), ST G b False s h H locs → lv_has ls 2 [] → W p l e RM_X3_hasPerson s m args below meth c H locs 0 0 Q (F0 m 17 ls [.int s0]) := by
  intro s0 h hf H locs ls S hl
  unfold f_X3_hasPerson_b17 at hf
  have hx := X.1
  have hb := X.2.1
  obtain ⟨hz, hf⟩ := ig hf
  obtain rfl := Option.some.inj hf
  exact Z _ _ _ _ dX3_hasPerson_17 S hz
def f_X3_hasPerson_b16   (h : HP) : Option (Int32 × HP) :=
  f_X3_hasPerson_b17  0 h
set_option maxRecDepth 100000 in
set_option maxHeartbeats 4000000 in
theorem w_X3_hasPerson_b16 (X : CX RX3 cX3_hasPerson 2 (some .boolean) p s m args meth c G b) {out : Int32 × HP} (Z : ZZ p l e RM_X3_hasPerson s m args below meth c cX3_hasPerson G b False 0 0 Q out)  : ∀  (h : HP), f_X3_hasPerson_b16   h = some out → ∀ (H : Heap) (locs : List Loc) (ls : Array Slot), ST G b False s h H locs → lv_has ls 2 [] → W p l e RM_X3_hasPerson s m args below meth c H locs 0 0 Q (F0 m 16 ls []) := by
  intro  h hf H locs ls S hl
  unfold f_X3_hasPerson_b16 at hf
  have hx := X.1
  have hb := X.2.1
  refine lv_iconst (v := 0) hx hb dX3_hasPerson_16 (by decide) ?_
  exact w_X3_hasPerson_b17 X Z  _ _ hf _ _ _ S (lv_sub hl [] rfl)
def f_X3_hasPerson_e  (a0 : Nat) (x1 : Int32) (h : HP) : Option (Int32 × HP) :=
  if x1 < 0 then
    f_X3_hasPerson_b16   h
  else
    (gI h a0 3 1).bind fun v1 =>
    if v1 ≤ x1 then
      f_X3_hasPerson_b16   h
    else
      f_X3_hasPerson_b17  1 h
set_option maxRecDepth 100000 in
set_option maxHeartbeats 4000000 in
theorem w_X3_hasPerson_e (X : CX RX3 cX3_hasPerson 2 (some .boolean) p s m args meth c G b) {out : Int32 × HP} (Z : ZZ p l e RM_X3_hasPerson s m args below meth c cX3_hasPerson G b False 0 0 Q out)  : ∀ (a0 : Nat) (x1 : Int32) (h : HP), f_X3_hasPerson_e  a0 x1 h = some out → ∀ (H : Heap) (locs : List Loc) (ls : Array Slot), ST G b False s h H locs → lv_has ls 2 [(0, .ref (b + a0)), (1, .int x1)] → W p l e RM_X3_hasPerson s m args below meth c H locs 0 0 Q (F0 m 0 ls []) := by
  intro a0 x1 h hf H locs ls S hl
  unfold f_X3_hasPerson_e at hf
  have hx := X.1
  have hb := X.2.1
  refine lv_iload_n hx hb dX3_hasPerson_0 rfl (lv_at hl 1 rfl) ?_
  refine lv_if_lt (tgt := 16) hx hb dX3_hasPerson_1 (by decide) (fun hc => ?_) (fun hc => ?_)
  · replace hf := ip hf hc
    exact w_X3_hasPerson_b16 X Z  _ hf _ _ _ S (lv_sub hl [] rfl)
  · replace hf := im hf hc
    refine lv_iload_n hx hb dX3_hasPerson_4 rfl (lv_at hl 1 rfl) ?_
    refine lv_aload_n hx hb dX3_hasPerson_5 rfl (lv_at hl 0 rfl) ?_
    obtain ⟨v1, e_v1, hf⟩ := ob hf
    refine r_getI X S fl_X3_28 e_v1 dX3_hasPerson_6 ?_
    refine lv_icmp_ge (tgt := 16) hx hb dX3_hasPerson_9 (by decide) (fun hc => ?_) (fun hc => ?_)
    · replace hf := ip hf hc
      exact w_X3_hasPerson_b16 X Z  _ hf _ _ _ S (lv_sub hl [] rfl)
    · replace hf := im hf hc
      refine lv_iconst (v := 1) hx hb dX3_hasPerson_12 (by decide) ?_
      refine lv_goto (tgt := 17) hx hb dX3_hasPerson_13 (by decide) ?_
      exact w_X3_hasPerson_b17 X Z  _ _ hf _ _ _ S (lv_sub hl [] rfl)
def f_X3_hasPerson (a0 : Nat) (x1 : Int32) (h : HP) : Option (Int32 × HP) := ck h a0 3 (f_X3_hasPerson_e a0 x1 h)
theorem o_X3_hasPerson {a0 : Nat} {x1 : Int32} {h : HP} {out : Int32 × HP} (hf : f_X3_hasPerson a0 x1 h = some out) : ∃ fs, h[a0]? = some (.inl (3, fs)) := (ck_spec hf).1
set_option maxRecDepth 100000 in
theorem c_X3_hasPerson {l : Launch} {G : GT} {b : Nat} {a0 : Nat} {x1 : Int32} {h : HP} {out : Int32 × HP} (hf : f_X3_hasPerson a0 x1 h = some out) : MT l G b False False yX3_hasPerson cX3_hasPerson 2 (some .boolean) RM_X3_hasPerson [.ref (b + a0), .int x1] h (some (.int out.1)) out.2 0 0 := by
  refine met_of (by decide) (Nat.le_of_ble_eq_true rfl) ?_
  intro p e s m below meth c ls X hnm S hl
  have hl : lv_has ls 2 [(0, .ref (b + a0)), (1, .int x1)] := hl
  replace hf := (ck_spec hf).2
  exact w_X3_hasPerson_e X (z_zz X) _ _ _ hf _ _ _ S hl
/-! RoomRings$House.hasRoom(I)Z -/
abbrev RM_X3_hasRoom : Room := { frames := 0, cells := 0, slots := 0, locals := 0 }
def f_X3_hasRoom_b17  (s0 : Int32) (h : HP) : Option (Int32 × HP) :=
  if s0 = 0 ∨ s0 = 1 then some (s0, h) else none
set_option maxRecDepth 100000 in
set_option maxHeartbeats 4000000 in
theorem w_X3_hasRoom_b17 (X : CX RX3 cX3_hasRoom 2 (some .boolean) p s m args meth c G b) {out : Int32 × HP} (Z : ZZ p l e RM_X3_hasRoom s m args below meth c cX3_hasRoom G b False 0 0 Q out)  : ∀ (s0 : Int32) (h : HP), f_X3_hasRoom_b17  s0 h = some out → ∀ (H : Heap) (locs : List Loc) (ls : Array Slot), ST G b False s h H locs → lv_has ls 2 [] → W p l e RM_X3_hasRoom s m args below meth c H locs 0 0 Q (F0 m 17 ls [.int s0]) := by
  intro s0 h hf H locs ls S hl
  unfold f_X3_hasRoom_b17 at hf
  have hx := X.1
  have hb := X.2.1
  obtain ⟨hz, hf⟩ := ig hf
  obtain rfl := Option.some.inj hf
  exact Z _ _ _ _ dX3_hasRoom_17 S hz
def f_X3_hasRoom_b16   (h : HP) : Option (Int32 × HP) :=
  f_X3_hasRoom_b17  0 h
set_option maxRecDepth 100000 in
set_option maxHeartbeats 4000000 in
theorem w_X3_hasRoom_b16 (X : CX RX3 cX3_hasRoom 2 (some .boolean) p s m args meth c G b) {out : Int32 × HP} (Z : ZZ p l e RM_X3_hasRoom s m args below meth c cX3_hasRoom G b False 0 0 Q out)  : ∀  (h : HP), f_X3_hasRoom_b16   h = some out → ∀ (H : Heap) (locs : List Loc) (ls : Array Slot), ST G b False s h H locs → lv_has ls 2 [] → W p l e RM_X3_hasRoom s m args below meth c H locs 0 0 Q (F0 m 16 ls []) := by
  intro  h hf H locs ls S hl
  unfold f_X3_hasRoom_b16 at hf
  have hx := X.1
  have hb := X.2.1
  refine lv_iconst (v := 0) hx hb dX3_hasRoom_16 (by decide) ?_
  exact w_X3_hasRoom_b17 X Z  _ _ hf _ _ _ S (lv_sub hl [] rfl)
def f_X3_hasRoom_e  (a0 : Nat) (x1 : Int32) (h : HP) : Option (Int32 × HP) :=
  if x1 < 0 then
    f_X3_hasRoom_b16   h
  else
    (gI h a0 3 0).bind fun v1 =>
    if v1 ≤ x1 then
      f_X3_hasRoom_b16   h
    else
      f_X3_hasRoom_b17  1 h
set_option maxRecDepth 100000 in
set_option maxHeartbeats 4000000 in
theorem w_X3_hasRoom_e (X : CX RX3 cX3_hasRoom 2 (some .boolean) p s m args meth c G b) {out : Int32 × HP} (Z : ZZ p l e RM_X3_hasRoom s m args below meth c cX3_hasRoom G b False 0 0 Q out)  : ∀ (a0 : Nat) (x1 : Int32) (h : HP), f_X3_hasRoom_e  a0 x1 h = some out → ∀ (H : Heap) (locs : List Loc) (ls : Array Slot), ST G b False s h H locs → lv_has ls 2 [(0, .ref (b + a0)), (1, .int x1)] → W p l e RM_X3_hasRoom s m args below meth c H locs 0 0 Q (F0 m 0 ls []) := by
  intro a0 x1 h hf H locs ls S hl
  unfold f_X3_hasRoom_e at hf
  have hx := X.1
  have hb := X.2.1
  refine lv_iload_n hx hb dX3_hasRoom_0 rfl (lv_at hl 1 rfl) ?_
  refine lv_if_lt (tgt := 16) hx hb dX3_hasRoom_1 (by decide) (fun hc => ?_) (fun hc => ?_)
  · replace hf := ip hf hc
    exact w_X3_hasRoom_b16 X Z  _ hf _ _ _ S (lv_sub hl [] rfl)
  · replace hf := im hf hc
    refine lv_iload_n hx hb dX3_hasRoom_4 rfl (lv_at hl 1 rfl) ?_
    refine lv_aload_n hx hb dX3_hasRoom_5 rfl (lv_at hl 0 rfl) ?_
    obtain ⟨v1, e_v1, hf⟩ := ob hf
    refine r_getI X S fl_X3_24 e_v1 dX3_hasRoom_6 ?_
    refine lv_icmp_ge (tgt := 16) hx hb dX3_hasRoom_9 (by decide) (fun hc => ?_) (fun hc => ?_)
    · replace hf := ip hf hc
      exact w_X3_hasRoom_b16 X Z  _ hf _ _ _ S (lv_sub hl [] rfl)
    · replace hf := im hf hc
      refine lv_iconst (v := 1) hx hb dX3_hasRoom_12 (by decide) ?_
      refine lv_goto (tgt := 17) hx hb dX3_hasRoom_13 (by decide) ?_
      exact w_X3_hasRoom_b17 X Z  _ _ hf _ _ _ S (lv_sub hl [] rfl)
def f_X3_hasRoom (a0 : Nat) (x1 : Int32) (h : HP) : Option (Int32 × HP) := ck h a0 3 (f_X3_hasRoom_e a0 x1 h)
theorem o_X3_hasRoom {a0 : Nat} {x1 : Int32} {h : HP} {out : Int32 × HP} (hf : f_X3_hasRoom a0 x1 h = some out) : ∃ fs, h[a0]? = some (.inl (3, fs)) := (ck_spec hf).1
set_option maxRecDepth 100000 in
theorem c_X3_hasRoom {l : Launch} {G : GT} {b : Nat} {a0 : Nat} {x1 : Int32} {h : HP} {out : Int32 × HP} (hf : f_X3_hasRoom a0 x1 h = some out) : MT l G b False False yX3_hasRoom cX3_hasRoom 2 (some .boolean) RM_X3_hasRoom [.ref (b + a0), .int x1] h (some (.int out.1)) out.2 0 0 := by
  refine met_of (by decide) (Nat.le_of_ble_eq_true rfl) ?_
  intro p e s m below meth c ls X hnm S hl
  have hl : lv_has ls 2 [(0, .ref (b + a0)), (1, .int x1)] := hl
  replace hf := (ck_spec hf).2
  exact w_X3_hasRoom_e X (z_zz X) _ _ _ hf _ _ _ S hl
/-! RoomRings$House.hasRoomOrNone(I)Z -/
abbrev RM_X3_hasRoomOrNone : Room := { frames := 1, cells := 0, slots := 0, locals := 21 }
def f_X3_hasRoomOrNone_b18  (s0 : Int32) (h : HP) : Option (Int32 × HP) :=
  if s0 = 0 ∨ s0 = 1 then some (s0, h) else none
set_option maxRecDepth 100000 in
set_option maxHeartbeats 4000000 in
theorem w_X3_hasRoomOrNone_b18 (X : CX RX3 cX3_hasRoomOrNone 2 (some .boolean) p s m args meth c G b) {out : Int32 × HP} (Z : ZZ p l e RM_X3_hasRoomOrNone s m args below meth c cX3_hasRoomOrNone G b False 0 0 Q out)  : ∀ (s0 : Int32) (h : HP), f_X3_hasRoomOrNone_b18  s0 h = some out → ∀ (H : Heap) (locs : List Loc) (ls : Array Slot), ST G b False s h H locs → lv_has ls 2 [] → W p l e RM_X3_hasRoomOrNone s m args below meth c H locs 0 0 Q (F0 m 18 ls [.int s0]) := by
  intro s0 h hf H locs ls S hl
  unfold f_X3_hasRoomOrNone_b18 at hf
  have hx := X.1
  have hb := X.2.1
  obtain ⟨hz, hf⟩ := ig hf
  obtain rfl := Option.some.inj hf
  exact Z _ _ _ _ dX3_hasRoomOrNone_18 S hz
def f_X3_hasRoomOrNone_b13   (h : HP) : Option (Int32 × HP) :=
  f_X3_hasRoomOrNone_b18  1 h
set_option maxRecDepth 100000 in
set_option maxHeartbeats 4000000 in
theorem w_X3_hasRoomOrNone_b13 (X : CX RX3 cX3_hasRoomOrNone 2 (some .boolean) p s m args meth c G b) {out : Int32 × HP} (Z : ZZ p l e RM_X3_hasRoomOrNone s m args below meth c cX3_hasRoomOrNone G b False 0 0 Q out)  : ∀  (h : HP), f_X3_hasRoomOrNone_b13   h = some out → ∀ (H : Heap) (locs : List Loc) (ls : Array Slot), ST G b False s h H locs → lv_has ls 2 [] → W p l e RM_X3_hasRoomOrNone s m args below meth c H locs 0 0 Q (F0 m 13 ls []) := by
  intro  h hf H locs ls S hl
  unfold f_X3_hasRoomOrNone_b13 at hf
  have hx := X.1
  have hb := X.2.1
  refine lv_iconst (v := 1) hx hb dX3_hasRoomOrNone_13 (by decide) ?_
  refine lv_goto (tgt := 18) hx hb dX3_hasRoomOrNone_14 (by decide) ?_
  exact w_X3_hasRoomOrNone_b18 X Z  _ _ hf _ _ _ S (lv_sub hl [] rfl)
def f_X3_hasRoomOrNone_e  (a0 : Nat) (x1 : Int32) (h : HP) : Option (Int32 × HP) :=
  if x1 = (-1) then
    f_X3_hasRoomOrNone_b13   h
  else
    (f_X3_hasRoom a0 x1 h).bind fun q1 =>
    if q1.1 = 0 then
      f_X3_hasRoomOrNone_b18  0 q1.2
    else
      f_X3_hasRoomOrNone_b13   q1.2
set_option maxRecDepth 100000 in
set_option maxHeartbeats 4000000 in
theorem w_X3_hasRoomOrNone_e (X : CX RX3 cX3_hasRoomOrNone 2 (some .boolean) p s m args meth c G b) {out : Int32 × HP} (Z : ZZ p l e RM_X3_hasRoomOrNone s m args below meth c cX3_hasRoomOrNone G b False 0 0 Q out)  : ∀ (a0 : Nat) (x1 : Int32) (h : HP), f_X3_hasRoomOrNone_e  a0 x1 h = some out → ∀ (H : Heap) (locs : List Loc) (ls : Array Slot), ST G b False s h H locs → lv_has ls 2 [(0, .ref (b + a0)), (1, .int x1)] → W p l e RM_X3_hasRoomOrNone s m args below meth c H locs 0 0 Q (F0 m 0 ls []) := by
  intro a0 x1 h hf H locs ls S hl
  unfold f_X3_hasRoomOrNone_e at hf
  have hx := X.1
  have hb := X.2.1
  refine lv_iload_n hx hb dX3_hasRoomOrNone_0 rfl (lv_at hl 1 rfl) ?_
  refine lv_iconst (v := (-1)) hx hb dX3_hasRoomOrNone_1 (by decide) ?_
  refine lv_icmp_eq (tgt := 13) hx hb dX3_hasRoomOrNone_2 (by decide) (fun hc => ?_) (fun hc => ?_)
  · replace hf := ip hf hc
    exact w_X3_hasRoomOrNone_b13 X Z  _ hf _ _ _ S (lv_sub hl [] rfl)
  · replace hf := im hf hc
    refine lv_aload_n hx hb dX3_hasRoomOrNone_5 rfl (lv_at hl 0 rfl) ?_
    refine lv_iload_n hx hb dX3_hasRoomOrNone_6 rfl (lv_at hl 1 rfl) ?_
    obtain ⟨q1, e_q1, hf⟩ := ob hf
    refine r_callV X S hl.1 (As := [.int x1]) (rest := []) (c_X3_hasRoom e_q1) my_X3_hasRoom mv_X3_hasRoom ml_X3_47 rfl (o_X3_hasRoom e_q1) ⟨rfl, rfl, Nat.le_of_ble_eq_true rfl, Nat.le_of_ble_eq_true rfl⟩ rfl rfl (Nat.le_of_ble_eq_true rfl) dX3_hasRoomOrNone_7 ⟨Nat.le_of_ble_eq_true rfl, Nat.le_of_ble_eq_true rfl⟩ (fun H locs S => ?_)
    refine W.eq (g2 := F0 m 10 ls [.int q1.1]) rfl ?_
    refine lv_if_eq (tgt := 17) hx hb dX3_hasRoomOrNone_10 (by decide) (fun hc => ?_) (fun hc => ?_)
    · replace hf := ip hf hc
      refine lv_iconst (v := 0) hx hb dX3_hasRoomOrNone_17 (by decide) ?_
      exact w_X3_hasRoomOrNone_b18 X Z  _ _ hf _ _ _ S (lv_sub hl [] rfl)
    · replace hf := im hf hc
      exact w_X3_hasRoomOrNone_b13 X Z  _ hf _ _ _ S (lv_sub hl [] rfl)
def f_X3_hasRoomOrNone (a0 : Nat) (x1 : Int32) (h : HP) : Option (Int32 × HP) := ck h a0 3 (f_X3_hasRoomOrNone_e a0 x1 h)
theorem o_X3_hasRoomOrNone {a0 : Nat} {x1 : Int32} {h : HP} {out : Int32 × HP} (hf : f_X3_hasRoomOrNone a0 x1 h = some out) : ∃ fs, h[a0]? = some (.inl (3, fs)) := (ck_spec hf).1
set_option maxRecDepth 100000 in
theorem c_X3_hasRoomOrNone {l : Launch} {G : GT} {b : Nat} {a0 : Nat} {x1 : Int32} {h : HP} {out : Int32 × HP} (hf : f_X3_hasRoomOrNone a0 x1 h = some out) : MT l G b False False yX3_hasRoomOrNone cX3_hasRoomOrNone 2 (some .boolean) RM_X3_hasRoomOrNone [.ref (b + a0), .int x1] h (some (.int out.1)) out.2 0 0 := by
  refine met_of (by decide) (Nat.le_of_ble_eq_true rfl) ?_
  intro p e s m below meth c ls X hnm S hl
  have hl : lv_has ls 2 [(0, .ref (b + a0)), (1, .int x1)] := hl
  replace hf := (ck_spec hf).2
  exact w_X3_hasRoomOrNone_e X (z_zz X) _ _ _ hf _ _ _ S hl
end M02
