section M00
variable {p : Program} {l : Launch} {e : Env} {s : State} {m : MethodId} {args : Array Value} {below : List Frame} {meth : Method} {c : Code} {Q : State → Prop} {G : GT} {b : Nat}
/-! java/lang/Integer.bitCount(I)I -/
abbrev RM_J6_bitCount_0f7a4 : Room := { frames := 0, cells := 0, slots := 0, locals := 0 }
def f_J6_bitCount_0f7a4_e  (x0 : Int32) (h : HP) : Option (Int32 × HP) :=
  (some (x0 - (((Int32.toUInt32 x0 >>> (Int32.toUInt32 1 &&& Int32.toUInt32 31)).toInt32) &&& 1431655765))).bind fun y1 =>
  (some ((y1 &&& 858993459) + (((Int32.toUInt32 y1 >>> (Int32.toUInt32 2 &&& Int32.toUInt32 31)).toInt32) &&& 858993459))).bind fun y2 =>
  (some ((y2 + ((Int32.toUInt32 y2 >>> (Int32.toUInt32 4 &&& Int32.toUInt32 31)).toInt32)) &&& 252645135)).bind fun y3 =>
  (some (y3 + ((Int32.toUInt32 y3 >>> (Int32.toUInt32 8 &&& Int32.toUInt32 31)).toInt32))).bind fun y4 =>
  (some (y4 + ((Int32.toUInt32 y4 >>> (Int32.toUInt32 16 &&& Int32.toUInt32 31)).toInt32))).bind fun y5 =>
  some ((y5 &&& 63), h)
set_option maxRecDepth 100000 in
set_option maxHeartbeats 4000000 in
theorem w_J6_bitCount_0f7a4_e (X : CX RJ6 cJ6_bitCount_0f7a4 1 (some .int) p s m args meth c G b) {out : Int32 × HP} (Z : ZI p l e RM_J6_bitCount_0f7a4 s m args below meth c cJ6_bitCount_0f7a4 G b False 0 0 Q out)  : ∀ (x0 : Int32) (h : HP), f_J6_bitCount_0f7a4_e  x0 h = some out → ∀ (H : Heap) (locs : List Loc) (ls : Array Slot), ST G b False s h H locs → lv_has ls 1 [(0, .int x0)] → W p l e RM_J6_bitCount_0f7a4 s m args below meth c H locs 0 0 Q (F0 m 0 ls []) := by
  intro x0 h hf H locs ls S hl
  unfold f_J6_bitCount_0f7a4_e at hf
  have hx := X.1
  have hb := X.2.1
  refine lv_iload_n hx hb dJ6_bitCount_0f7a4_0 rfl (lv_at hl 0 rfl) ?_
  refine lv_iload_n hx hb dJ6_bitCount_0f7a4_1 rfl (lv_at hl 0 rfl) ?_
  refine lv_iconst (v := 1) hx hb dJ6_bitCount_0f7a4_2 (by decide) ?_
  refine lv_iushr (v := (Int32.toUInt32 x0 >>> (Int32.toUInt32 1 &&& Int32.toUInt32 31)).toInt32) hx hb dJ6_bitCount_0f7a4_3 rfl ?_
  refine lv_ldcw (v := 1431655765) hx hb X.2.2.2.1 (X.2.2.2.2.1 _ cn_J6_265) dJ6_bitCount_0f7a4_4 ?_
  refine lv_iand hx hb dJ6_bitCount_0f7a4_7 ?_
  refine lv_isub hx hb dJ6_bitCount_0f7a4_8 ?_
  obtain ⟨y1, e_y1, hf⟩ := ob hf
  rw [Option.some.inj e_y1]
  refine lv_istore_n (lv' := [(0, .int y1)]) hx hb dJ6_bitCount_0f7a4_9 rfl hl (by decide) rfl (fun ls hl => ?_)
  refine lv_iload_n hx hb dJ6_bitCount_0f7a4_10 rfl (lv_at hl 0 rfl) ?_
  refine lv_ldcw (v := 858993459) hx hb X.2.2.2.1 (X.2.2.2.2.1 _ cn_J6_266) dJ6_bitCount_0f7a4_11 ?_
  refine lv_iand hx hb dJ6_bitCount_0f7a4_14 ?_
  refine lv_iload_n hx hb dJ6_bitCount_0f7a4_15 rfl (lv_at hl 0 rfl) ?_
  refine lv_iconst (v := 2) hx hb dJ6_bitCount_0f7a4_16 (by decide) ?_
  refine lv_iushr (v := (Int32.toUInt32 y1 >>> (Int32.toUInt32 2 &&& Int32.toUInt32 31)).toInt32) hx hb dJ6_bitCount_0f7a4_17 rfl ?_
  refine lv_ldcw (v := 858993459) hx hb X.2.2.2.1 (X.2.2.2.2.1 _ cn_J6_266) dJ6_bitCount_0f7a4_18 ?_
  refine lv_iand hx hb dJ6_bitCount_0f7a4_21 ?_
  refine lv_iadd hx hb dJ6_bitCount_0f7a4_22 ?_
  obtain ⟨y2, e_y2, hf⟩ := ob hf
  rw [Option.some.inj e_y2]
  refine lv_istore_n (lv' := [(0, .int y2)]) hx hb dJ6_bitCount_0f7a4_23 rfl hl (by decide) rfl (fun ls hl => ?_)
  refine lv_iload_n hx hb dJ6_bitCount_0f7a4_24 rfl (lv_at hl 0 rfl) ?_
  refine lv_iload_n hx hb dJ6_bitCount_0f7a4_25 rfl (lv_at hl 0 rfl) ?_
  refine lv_iconst (v := 4) hx hb dJ6_bitCount_0f7a4_26 (by decide) ?_
  refine lv_iushr (v := (Int32.toUInt32 y2 >>> (Int32.toUInt32 4 &&& Int32.toUInt32 31)).toInt32) hx hb dJ6_bitCount_0f7a4_27 rfl ?_
  refine lv_iadd hx hb dJ6_bitCount_0f7a4_28 ?_
  refine lv_ldcw (v := 252645135) hx hb X.2.2.2.1 (X.2.2.2.2.1 _ cn_J6_267) dJ6_bitCount_0f7a4_29 ?_
  refine lv_iand hx hb dJ6_bitCount_0f7a4_32 ?_
  obtain ⟨y3, e_y3, hf⟩ := ob hf
  rw [Option.some.inj e_y3]
  refine lv_istore_n (lv' := [(0, .int y3)]) hx hb dJ6_bitCount_0f7a4_33 rfl hl (by decide) rfl (fun ls hl => ?_)
  refine lv_iload_n hx hb dJ6_bitCount_0f7a4_34 rfl (lv_at hl 0 rfl) ?_
  refine lv_iload_n hx hb dJ6_bitCount_0f7a4_35 rfl (lv_at hl 0 rfl) ?_
  refine lv_bipush (v := 8) hx hb dJ6_bitCount_0f7a4_36 (by decide) ?_
  refine lv_iushr (v := (Int32.toUInt32 y3 >>> (Int32.toUInt32 8 &&& Int32.toUInt32 31)).toInt32) hx hb dJ6_bitCount_0f7a4_38 rfl ?_
  refine lv_iadd hx hb dJ6_bitCount_0f7a4_39 ?_
  obtain ⟨y4, e_y4, hf⟩ := ob hf
  rw [Option.some.inj e_y4]
  refine lv_istore_n (lv' := [(0, .int y4)]) hx hb dJ6_bitCount_0f7a4_40 rfl hl (by decide) rfl (fun ls hl => ?_)
  refine lv_iload_n hx hb dJ6_bitCount_0f7a4_41 rfl (lv_at hl 0 rfl) ?_
  refine lv_iload_n hx hb dJ6_bitCount_0f7a4_42 rfl (lv_at hl 0 rfl) ?_
  refine lv_bipush (v := 16) hx hb dJ6_bitCount_0f7a4_43 (by decide) ?_
  refine lv_iushr (v := (Int32.toUInt32 y4 >>> (Int32.toUInt32 16 &&& Int32.toUInt32 31)).toInt32) hx hb dJ6_bitCount_0f7a4_45 rfl ?_
  refine lv_iadd hx hb dJ6_bitCount_0f7a4_46 ?_
  obtain ⟨y5, e_y5, hf⟩ := ob hf
  rw [Option.some.inj e_y5]
  refine lv_istore_n (lv' := [(0, .int y5)]) hx hb dJ6_bitCount_0f7a4_47 rfl hl (by decide) rfl (fun ls hl => ?_)
  refine lv_iload_n hx hb dJ6_bitCount_0f7a4_48 rfl (lv_at hl 0 rfl) ?_
  refine lv_bipush (v := 63) hx hb dJ6_bitCount_0f7a4_49 (by decide) ?_
  refine lv_iand hx hb dJ6_bitCount_0f7a4_51 ?_
  obtain rfl := Option.some.inj hf
  exact Z _ _ _ _ dJ6_bitCount_0f7a4_52 S
def f_J6_bitCount_0f7a4 (x0 : Int32) (h : HP) : Option (Int32 × HP) := f_J6_bitCount_0f7a4_e x0 h
set_option maxRecDepth 100000 in
theorem c_J6_bitCount_0f7a4 {l : Launch} {G : GT} {b : Nat} {x0 : Int32} {h : HP} {out : Int32 × HP} (hf : f_J6_bitCount_0f7a4 x0 h = some out) : MT l G b False False yJ6_bitCount_0f7a4 cJ6_bitCount_0f7a4 1 (some .int) RM_J6_bitCount_0f7a4 [.int x0] h (some (.int out.1)) out.2 0 0 := by
  refine met_of (by decide) (Nat.le_of_ble_eq_true rfl) ?_
  intro p e s m below meth c ls X hnm S hl
  have hl : lv_has ls 1 [(0, .int x0)] := hl
  exact w_J6_bitCount_0f7a4_e X (z_i X) _ _ hf _ _ _ S hl
/-! RoomRings$Bartering.<init>()V -/
abbrev RM_X0_init : Room := { frames := 1, cells := 1, slots := 6, locals := 12 }
def f_X0_init_e  (a0 : Nat) (h : HP) : Option (HP) :=
  (pR (hpush h (.inr (.inl (6, fun _ => 0)))) a0 0 2 (List.length h)).bind fun h1 =>
  some h1
set_option maxRecDepth 100000 in
set_option maxHeartbeats 4000000 in
theorem w_X0_init_e (X : CX RX0 cX0_init 1 none p s m args meth c G b) (hnm : meth.name = "<init>") {out : HP} (Z : ZV p l e RM_X0_init s m args below meth c cX0_init G b True 1 6 Q out)  : ∀ (a0 : Nat) (h : HP), f_X0_init_e  a0 h = some out → ∀ (H : Heap) (locs : List Loc) (ls : Array Slot), ST G b True s h H locs → lv_has ls 1 [(0, .ref (b + a0))] → W p l e RM_X0_init s m args below meth c H locs 0 0 Q (F0 m 0 ls []) := by
  intro a0 h hf H locs ls S hl
  unfold f_X0_init_e at hf
  have hx := X.1
  have hb := X.2.1
  refine lv_aload_n hx hb dX0_init_0 rfl (lv_at hl 0 rfl) ?_
  refine W.objInit hx hb X.2.2.2.1 (X.2.2.2.2.1 _ ml_X0_3) (X.2.2.2.2.1 _ oi_i) (X.2.2.2.2.1 _ oi_c) rfl (by rw [X.2.2.1]; exact hl.1) rfl dX0_init_1 (Nat.le_of_ble_eq_true rfl) (Nat.le_of_ble_eq_true rfl) ?_
  refine W.eq (g2 := F0 m 4 ls []) rfl ?_
  refine lv_aload_n hx hb dX0_init_4 rfl (lv_at hl 0 rfl) ?_
  refine lv_bipush (v := 6) hx hb dX0_init_5 (by decide) ?_
  refine r_newI (N := 6) X S ac_int (by decide) (by decide) (by decide) (Nat.le_of_ble_eq_true rfl) (Nat.le_of_ble_eq_true rfl) dX0_init_7 (fun H locs S => ?_)
  refine W.widen (k := 1) (n := 6) (Nat.le_of_ble_eq_true rfl) (Nat.le_of_ble_eq_true rfl) ?_
  obtain ⟨h1, e_h1, hf⟩ := ob hf
  refine r_put X S fp_X0_9 (fun _ => hnm) rfl rfl rfl e_h1 dX0_init_9 (fun H locs S => ?_)
  obtain rfl := Option.some.inj hf
  exact Z _ _ _ _ dX0_init_12 S
def f_X0_init (a0 : Nat) (h : HP) : Option (HP) := f_X0_init_e a0 h
set_option maxRecDepth 100000 in
theorem c_X0_init {l : Launch} {G : GT} {b : Nat} {a0 : Nat} {h : HP} {out : HP} (hf : f_X0_init a0 h = some out) : MT l G b True True yX0_init cX0_init 1 none RM_X0_init [.ref (b + a0)] h none out 1 6 := by
  refine met_of (by decide) (Nat.le_of_ble_eq_true rfl) ?_
  intro p e s m below meth c ls X hnm S hl
  have hl : lv_has ls 1 [(0, .ref (b + a0))] := hl
  exact w_X0_init_e X hnm (z_v X) _ _ hf _ _ _ S hl
/-! RoomRings.at([II)I -/
abbrev RM_X8_at : Room := { frames := 0, cells := 0, slots := 0, locals := 0 }
def f_X8_at_b17  (s0 : Int32) (h : HP) : Option (Int32 × HP) :=
  some (s0, h)
set_option maxRecDepth 100000 in
set_option maxHeartbeats 4000000 in
theorem w_X8_at_b17 (X : CX RX8 cX8_at 2 (some .int) p s m args meth c G b) {out : Int32 × HP} (Z : ZI p l e RM_X8_at s m args below meth c cX8_at G b False 0 0 Q out)  : ∀ (s0 : Int32) (h : HP), f_X8_at_b17  s0 h = some out → ∀ (H : Heap) (locs : List Loc) (ls : Array Slot), ST G b False s h H locs → lv_has ls 2 [] → W p l e RM_X8_at s m args below meth c H locs 0 0 Q (F0 m 17 ls [.int s0]) := by
  intro s0 h hf H locs ls S hl
  unfold f_X8_at_b17 at hf
  have hx := X.1
  have hb := X.2.1
  obtain rfl := Option.some.inj hf
  exact Z _ _ _ _ dX8_at_17 S
def f_X8_at_b16   (h : HP) : Option (Int32 × HP) :=
  f_X8_at_b17  (-1) h
set_option maxRecDepth 100000 in
set_option maxHeartbeats 4000000 in
theorem w_X8_at_b16 (X : CX RX8 cX8_at 2 (some .int) p s m args meth c G b) {out : Int32 × HP} (Z : ZI p l e RM_X8_at s m args below meth c cX8_at G b False 0 0 Q out)  : ∀  (h : HP), f_X8_at_b16   h = some out → ∀ (H : Heap) (locs : List Loc) (ls : Array Slot), ST G b False s h H locs → lv_has ls 2 [] → W p l e RM_X8_at s m args below meth c H locs 0 0 Q (F0 m 16 ls []) := by
  intro  h hf H locs ls S hl
  unfold f_X8_at_b16 at hf
  have hx := X.1
  have hb := X.2.1
  refine lv_iconst (v := (-1)) hx hb dX8_at_16 (by decide) ?_
  exact w_X8_at_b17 X Z  _ _ hf _ _ _ S (lv_sub hl [] rfl)
def f_X8_at_e  (a0 : Nat) (x1 : Int32) (h : HP) : Option (Int32 × HP) :=
  if x1 < 0 then
    f_X8_at_b16   h
  else
    (alen h a0).bind fun v1 =>
    if v1 ≤ x1 then
      f_X8_at_b16   h
    else
      (ald h a0 x1).bind fun v2 =>
      f_X8_at_b17  v2 h
set_option maxRecDepth 100000 in
set_option maxHeartbeats 4000000 in
theorem w_X8_at_e (X : CX RX8 cX8_at 2 (some .int) p s m args meth c G b) {out : Int32 × HP} (Z : ZI p l e RM_X8_at s m args below meth c cX8_at G b False 0 0 Q out)  : ∀ (a0 : Nat) (x1 : Int32) (h : HP), f_X8_at_e  a0 x1 h = some out → ∀ (H : Heap) (locs : List Loc) (ls : Array Slot), ST G b False s h H locs → lv_has ls 2 [(0, .ref (b + a0)), (1, .int x1)] → W p l e RM_X8_at s m args below meth c H locs 0 0 Q (F0 m 0 ls []) := by
  intro a0 x1 h hf H locs ls S hl
  unfold f_X8_at_e at hf
  have hx := X.1
  have hb := X.2.1
  refine lv_iload_n hx hb dX8_at_0 rfl (lv_at hl 1 rfl) ?_
  refine lv_if_lt (tgt := 16) hx hb dX8_at_1 (by decide) (fun hc => ?_) (fun hc => ?_)
  · replace hf := ip hf hc
    exact w_X8_at_b16 X Z  _ hf _ _ _ S (lv_sub hl [] rfl)
  · replace hf := im hf hc
    refine lv_iload_n hx hb dX8_at_4 rfl (lv_at hl 1 rfl) ?_
    refine lv_aload_n hx hb dX8_at_5 rfl (lv_at hl 0 rfl) ?_
    obtain ⟨v1, e_v1, hf⟩ := ob hf
    refine r_alen X S e_v1 dX8_at_6 ?_
    refine lv_icmp_ge (tgt := 16) hx hb dX8_at_7 (by decide) (fun hc => ?_) (fun hc => ?_)
    · replace hf := ip hf hc
      exact w_X8_at_b16 X Z  _ hf _ _ _ S (lv_sub hl [] rfl)
    · replace hf := im hf hc
      refine lv_aload_n hx hb dX8_at_10 rfl (lv_at hl 0 rfl) ?_
      refine lv_iload_n hx hb dX8_at_11 rfl (lv_at hl 1 rfl) ?_
      obtain ⟨v2, e_v2, hf⟩ := ob hf
      refine r_ald X S e_v2 dX8_at_12 ?_
      refine lv_goto (tgt := 17) hx hb dX8_at_13 (by decide) ?_
      exact w_X8_at_b17 X Z  _ _ hf _ _ _ S (lv_sub hl [] rfl)
def f_X8_at (a0 : Nat) (x1 : Int32) (h : HP) : Option (Int32 × HP) := f_X8_at_e a0 x1 h
set_option maxRecDepth 100000 in
theorem c_X8_at {l : Launch} {G : GT} {b : Nat} {a0 : Nat} {x1 : Int32} {h : HP} {out : Int32 × HP} (hf : f_X8_at a0 x1 h = some out) : MT l G b False False yX8_at cX8_at 2 (some .int) RM_X8_at [.ref (b + a0), .int x1] h (some (.int out.1)) out.2 0 0 := by
  refine met_of (by decide) (Nat.le_of_ble_eq_true rfl) ?_
  intro p e s m below meth c ls X hnm S hl
  have hl : lv_has ls 2 [(0, .ref (b + a0)), (1, .int x1)] := hl
  exact w_X8_at_e X (z_i X) _ _ _ hf _ _ _ S hl
/-! RoomRings$House.seatOf(I)I -/
abbrev RM_X3_seatOf : Room := { frames := 1, cells := 0, slots := 0, locals := 21 }
def f_X3_seatOf_e  (a0 : Nat) (x1 : Int32) (h : HP) : Option (Int32 × HP) :=
  (gR h a0 3 2).bind fun r1 =>
  (f_X8_at r1 x1 h).bind fun q2 =>
  some (q2.1, q2.2)
set_option maxRecDepth 100000 in
set_option maxHeartbeats 4000000 in
theorem w_X3_seatOf_e (X : CX RX3 cX3_seatOf 2 (some .int) p s m args meth c G b) {out : Int32 × HP} (Z : ZI p l e RM_X3_seatOf s m args below meth c cX3_seatOf G b False 0 0 Q out)  : ∀ (a0 : Nat) (x1 : Int32) (h : HP), f_X3_seatOf_e  a0 x1 h = some out → ∀ (H : Heap) (locs : List Loc) (ls : Array Slot), ST G b False s h H locs → lv_has ls 2 [(0, .ref (b + a0)), (1, .int x1)] → W p l e RM_X3_seatOf s m args below meth c H locs 0 0 Q (F0 m 0 ls []) := by
  intro a0 x1 h hf H locs ls S hl
  unfold f_X3_seatOf_e at hf
  have hx := X.1
  have hb := X.2.1
  refine lv_aload_n hx hb dX3_seatOf_0 rfl (lv_at hl 0 rfl) ?_
  obtain ⟨r1, e_r1, hf⟩ := ob hf
  refine r_getR X S fl_X3_9 e_r1 dX3_seatOf_1 ?_
  refine lv_iload_n hx hb dX3_seatOf_4 rfl (lv_at hl 1 rfl) ?_
  obtain ⟨q2, e_q2, hf⟩ := ob hf
  refine r_callSN X S hl.1 (As := [.ref (b + r1), .int x1]) (rest := []) (c_X8_at e_q2) my_X8_at ms_X8_at nl_X3_51 ⟨rfl, rfl, Nat.le_of_ble_eq_true rfl, Nat.le_of_ble_eq_true rfl⟩ rfl rfl (Nat.le_of_ble_eq_true rfl) dX3_seatOf_5 ⟨Nat.le_of_ble_eq_true rfl, Nat.le_of_ble_eq_true rfl⟩ (fun H locs S => ?_)
  refine W.eq (g2 := F0 m 8 ls [.int q2.1]) rfl ?_
  obtain rfl := Option.some.inj hf
  exact Z _ _ _ _ dX3_seatOf_8 S
def f_X3_seatOf (a0 : Nat) (x1 : Int32) (h : HP) : Option (Int32 × HP) := ck h a0 3 (f_X3_seatOf_e a0 x1 h)
theorem o_X3_seatOf {a0 : Nat} {x1 : Int32} {h : HP} {out : Int32 × HP} (hf : f_X3_seatOf a0 x1 h = some out) : ∃ fs, h[a0]? = some (.inl (3, fs)) := (ck_spec hf).1
set_option maxRecDepth 100000 in
theorem c_X3_seatOf {l : Launch} {G : GT} {b : Nat} {a0 : Nat} {x1 : Int32} {h : HP} {out : Int32 × HP} (hf : f_X3_seatOf a0 x1 h = some out) : MT l G b False False yX3_seatOf cX3_seatOf 2 (some .int) RM_X3_seatOf [.ref (b + a0), .int x1] h (some (.int out.1)) out.2 0 0 := by
  refine met_of (by decide) (Nat.le_of_ble_eq_true rfl) ?_
  intro p e s m below meth c ls X hnm S hl
  have hl : lv_has ls 2 [(0, .ref (b + a0)), (1, .int x1)] := hl
  replace hf := (ck_spec hf).2
  exact w_X3_seatOf_e X (z_i X) _ _ _ hf _ _ _ S hl
/-! RoomRings.with(II)I -/
abbrev RM_X8_with : Room := { frames := 0, cells := 0, slots := 0, locals := 0 }
def f_X8_with_b19  (s0 : Int32) (h : HP) : Option (Int32 × HP) :=
  some (s0, h)
set_option maxRecDepth 100000 in
set_option maxHeartbeats 4000000 in
theorem w_X8_with_b19 (X : CX RX8 cX8_with 2 (some .int) p s m args meth c G b) {out : Int32 × HP} (Z : ZI p l e RM_X8_with s m args below meth c cX8_with G b False 0 0 Q out)  : ∀ (s0 : Int32) (h : HP), f_X8_with_b19  s0 h = some out → ∀ (H : Heap) (locs : List Loc) (ls : Array Slot), ST G b False s h H locs → lv_has ls 2 [] → W p l e RM_X8_with s m args below meth c H locs 0 0 Q (F0 m 19 ls [.int s0]) := by
  intro s0 h hf H locs ls S hl
  unfold f_X8_with_b19 at hf
  have hx := X.1
  have hb := X.2.1
  obtain rfl := Option.some.inj hf
  exact Z _ _ _ _ dX8_with_19 S
def f_X8_with_b18  (x0 : Int32) (h : HP) : Option (Int32 × HP) :=
  f_X8_with_b19  x0 h
set_option maxRecDepth 100000 in
set_option maxHeartbeats 4000000 in
theorem w_X8_with_b18 (X : CX RX8 cX8_with 2 (some .int) p s m args meth c G b) {out : Int32 × HP} (Z : ZI p l e RM_X8_with s m args below meth c cX8_with G b False 0 0 Q out)  : ∀ (x0 : Int32) (h : HP), f_X8_with_b18  x0 h = some out → ∀ (H : Heap) (locs : List Loc) (ls : Array Slot), ST G b False s h H locs → lv_has ls 2 [(0, .int x0)] → W p l e RM_X8_with s m args below meth c H locs 0 0 Q (F0 m 18 ls []) := by
  intro x0 h hf H locs ls S hl
  unfold f_X8_with_b18 at hf
  have hx := X.1
  have hb := X.2.1
  refine lv_iload_n hx hb dX8_with_18 rfl (lv_at hl 0 rfl) ?_
  exact w_X8_with_b19 X Z  _ _ hf _ _ _ S (lv_sub hl [] rfl)
def f_X8_with_e  (x0 : Int32) (x1 : Int32) (h : HP) : Option (Int32 × HP) :=
  if x1 < 0 then
    f_X8_with_b18  x0 h
  else
    if 31 ≤ x1 then
      f_X8_with_b18  x0 h
    else
      f_X8_with_b19  (x0 ||| (1 <<< (x1 &&& 31))) h
set_option maxRecDepth 100000 in
set_option maxHeartbeats 4000000 in
theorem w_X8_with_e (X : CX RX8 cX8_with 2 (some .int) p s m args meth c G b) {out : Int32 × HP} (Z : ZI p l e RM_X8_with s m args below meth c cX8_with G b False 0 0 Q out)  : ∀ (x0 : Int32) (x1 : Int32) (h : HP), f_X8_with_e  x0 x1 h = some out → ∀ (H : Heap) (locs : List Loc) (ls : Array Slot), ST G b False s h H locs → lv_has ls 2 [(0, .int x0), (1, .int x1)] → W p l e RM_X8_with s m args below meth c H locs 0 0 Q (F0 m 0 ls []) := by
  intro x0 x1 h hf H locs ls S hl
  unfold f_X8_with_e at hf
  have hx := X.1
  have hb := X.2.1
  refine lv_iload_n hx hb dX8_with_0 rfl (lv_at hl 1 rfl) ?_
  refine lv_if_lt (tgt := 18) hx hb dX8_with_1 (by decide) (fun hc => ?_) (fun hc => ?_)
  · replace hf := ip hf hc
    exact w_X8_with_b18 X Z  _ _ hf _ _ _ S (lv_sub hl [0] rfl)
  · replace hf := im hf hc
    refine lv_iload_n hx hb dX8_with_4 rfl (lv_at hl 1 rfl) ?_
    refine lv_bipush (v := 31) hx hb dX8_with_5 (by decide) ?_
    refine lv_icmp_ge (tgt := 18) hx hb dX8_with_7 (by decide) (fun hc => ?_) (fun hc => ?_)
    · replace hf := ip hf hc
      exact w_X8_with_b18 X Z  _ _ hf _ _ _ S (lv_sub hl [0] rfl)
    · replace hf := im hf hc
      refine lv_iload_n hx hb dX8_with_10 rfl (lv_at hl 0 rfl) ?_
      refine lv_iconst (v := 1) hx hb dX8_with_11 (by decide) ?_
      refine lv_iload_n hx hb dX8_with_12 rfl (lv_at hl 1 rfl) ?_
      refine lv_ishl hx hb dX8_with_13 ?_
      refine lv_ior hx hb dX8_with_14 ?_
      refine lv_goto (tgt := 19) hx hb dX8_with_15 (by decide) ?_
      exact w_X8_with_b19 X Z  _ _ hf _ _ _ S (lv_sub hl [] rfl)
def f_X8_with (x0 : Int32) (x1 : Int32) (h : HP) : Option (Int32 × HP) := f_X8_with_e x0 x1 h
set_option maxRecDepth 100000 in
theorem c_X8_with {l : Launch} {G : GT} {b : Nat} {x0 : Int32} {x1 : Int32} {h : HP} {out : Int32 × HP} (hf : f_X8_with x0 x1 h = some out) : MT l G b False False yX8_with cX8_with 2 (some .int) RM_X8_with [.int x0, .int x1] h (some (.int out.1)) out.2 0 0 := by
  refine met_of (by decide) (Nat.le_of_ble_eq_true rfl) ?_
  intro p e s m below meth c ls X hnm S hl
  have hl : lv_has ls 2 [(0, .int x0), (1, .int x1)] := hl
  exact w_X8_with_e X (z_i X) _ _ _ hf _ _ _ S hl
/-! RoomRings$House.rank(II)I -/
abbrev RM_X3_rank : Room := { frames := 1, cells := 0, slots := 0, locals := 21 }
def f_X3_rank_b90  (s0 : Int32) (h : HP) : Option (Int32 × HP) :=
  some (s0, h)
set_option maxRecDepth 100000 in
set_option maxHeartbeats 4000000 in
theorem w_X3_rank_b90 (X : CX RX3 cX3_rank 7 (some .int) p s m args meth c G b) {out : Int32 × HP} (Z : ZI p l e RM_X3_rank s m args below meth c cX3_rank G b False 0 0 Q out)  : ∀ (s0 : Int32) (h : HP), f_X3_rank_b90  s0 h = some out → ∀ (H : Heap) (locs : List Loc) (ls : Array Slot), ST G b False s h H locs → lv_has ls 7 [] → W p l e RM_X3_rank s m args below meth c H locs 0 0 Q (F0 m 90 ls [.int s0]) := by
  intro s0 h hf H locs ls S hl
  unfold f_X3_rank_b90 at hf
  have hx := X.1
  have hb := X.2.1
  obtain rfl := Option.some.inj hf
  exact Z _ _ _ _ dX3_rank_90 S
def f_X3_rank_b81  (x4 : Int32) (h : HP) : Option (Int32 × HP) :=
  f_X3_rank_b90  x4 h
set_option maxRecDepth 100000 in
set_option maxHeartbeats 4000000 in
theorem w_X3_rank_b81 (X : CX RX3 cX3_rank 7 (some .int) p s m args meth c G b) {out : Int32 × HP} (Z : ZI p l e RM_X3_rank s m args below meth c cX3_rank G b False 0 0 Q out)  : ∀ (x4 : Int32) (h : HP), f_X3_rank_b81  x4 h = some out → ∀ (H : Heap) (locs : List Loc) (ls : Array Slot), ST G b False s h H locs → lv_has ls 7 [(4, .int x4)] → W p l e RM_X3_rank s m args below meth c H locs 0 0 Q (F0 m 81 ls []) := by
  intro x4 h hf H locs ls S hl
  unfold f_X3_rank_b81 at hf
  have hx := X.1
  have hb := X.2.1
  refine lv_iload hx hb dX3_rank_81 (lv_at hl 0 rfl) ?_
  refine lv_goto (tgt := 90) hx hb dX3_rank_83 (by decide) ?_
  exact w_X3_rank_b90 X Z  _ _ hf _ _ _ S (lv_sub hl [] rfl)
def f_X3_rank_b22 (K22 : Nat → Int32 → Int32 → Int32 → Int32 → Int32 → HP → Option (Int32 × HP)) (a0 : Nat) (x1 : Int32) (x2 : Int32) (x3 : Int32) (x4 : Int32) (x5 : Int32) (h : HP) : Option (Int32 × HP) :=
  if x4 ≤ x5 then
    if x3 = (-1) then
      f_X3_rank_b81  x4 h
    else
      if x3 = x2 then
        f_X3_rank_b81  x4 h
      else
        f_X3_rank_b90  (x4 + 1) h
  else
    (gR h a0 3 4).bind fun r1 =>
    (f_X8_at r1 ((x1 * 8) + x5) h).bind fun q2 =>
    if q2.1 = x2 then
      some (x5, q2.2)
    else
      if q2.1 = x3 then
        some ((x5 + 1), q2.2)
      else
        K22 a0 x1 x2 x3 x4 (x5 + 1) q2.2
set_option maxRecDepth 100000 in
set_option maxHeartbeats 4000000 in
theorem w_X3_rank_b22 (X : CX RX3 cX3_rank 7 (some .int) p s m args meth c G b) {out : Int32 × HP} (Z : ZI p l e RM_X3_rank s m args below meth c cX3_rank G b False 0 0 Q out) {K22 : Nat → Int32 → Int32 → Int32 → Int32 → Int32 → HP → Option (Int32 × HP)} (hK22 : ∀ (a0 : Nat) (x1 : Int32) (x2 : Int32) (x3 : Int32) (x4 : Int32) (x5 : Int32) (h : HP), K22 a0 x1 x2 x3 x4 x5 h = some out → ∀ (H : Heap) (locs : List Loc) (ls : Array Slot), ST G b False s h H locs → lv_has ls 7 [(0, .ref (b + a0)), (1, .int x1), (2, .int x2), (3, .int x3), (4, .int x4), (5, .int x5)] → W p l e RM_X3_rank s m args below meth c H locs 0 0 Q (F0 m 22 ls [])) : ∀ (a0 : Nat) (x1 : Int32) (x2 : Int32) (x3 : Int32) (x4 : Int32) (x5 : Int32) (h : HP), f_X3_rank_b22 K22 a0 x1 x2 x3 x4 x5 h = some out → ∀ (H : Heap) (locs : List Loc) (ls : Array Slot), ST G b False s h H locs → lv_has ls 7 [(0, .ref (b + a0)), (1, .int x1), (2, .int x2), (3, .int x3), (4, .int x4), (5, .int x5)] → W p l e RM_X3_rank s m args below meth c H locs 0 0 Q (F0 m 22 ls []) := by
  intro a0 x1 x2 x3 x4 x5 h hf H locs ls S hl
  unfold f_X3_rank_b22 at hf
  have hx := X.1
  have hb := X.2.1
  refine lv_iload hx hb dX3_rank_22 (lv_at hl 5 rfl) ?_
  refine lv_iload hx hb dX3_rank_24 (lv_at hl 4 rfl) ?_
  refine lv_icmp_ge (tgt := 71) hx hb dX3_rank_26 (by decide) (fun hc => ?_) (fun hc => ?_)
  · replace hf := ip hf hc
    refine lv_iload_n hx hb dX3_rank_71 rfl (lv_at hl 3 rfl) ?_
    refine lv_iconst (v := (-1)) hx hb dX3_rank_72 (by decide) ?_
    refine lv_icmp_eq (tgt := 81) hx hb dX3_rank_73 (by decide) (fun hc => ?_) (fun hc => ?_)
    · replace hf := ip hf hc
      exact w_X3_rank_b81 X Z  _ _ hf _ _ _ S (lv_sub hl [4] rfl)
    · replace hf := im hf hc
      refine lv_iload_n hx hb dX3_rank_76 rfl (lv_at hl 3 rfl) ?_
      refine lv_iload_n hx hb dX3_rank_77 rfl (lv_at hl 2 rfl) ?_
      refine lv_icmp_ne (tgt := 86) hx hb dX3_rank_78 (by decide) (fun hc => ?_) (fun hc => ?_)
      · replace hf := im hf hc
        refine lv_iload hx hb dX3_rank_86 (lv_at hl 4 rfl) ?_
        refine lv_iconst (v := 1) hx hb dX3_rank_88 (by decide) ?_
        refine lv_iadd hx hb dX3_rank_89 ?_
        exact w_X3_rank_b90 X Z  _ _ hf _ _ _ S (lv_sub hl [] rfl)
      · replace hf := ip hf hc
        exact w_X3_rank_b81 X Z  _ _ hf _ _ _ S (lv_sub hl [4] rfl)
  · replace hf := im hf hc
    refine lv_aload_n hx hb dX3_rank_29 rfl (lv_at hl 0 rfl) ?_
    obtain ⟨r1, e_r1, hf⟩ := ob hf
    refine r_getR X S fl_X3_18 e_r1 dX3_rank_30 ?_
    refine lv_iload_n hx hb dX3_rank_33 rfl (lv_at hl 1 rfl) ?_
    refine lv_bipush (v := 8) hx hb dX3_rank_34 (by decide) ?_
    refine lv_imul hx hb dX3_rank_36 ?_
    refine lv_iload hx hb dX3_rank_37 (lv_at hl 5 rfl) ?_
    refine lv_iadd hx hb dX3_rank_39 ?_
    obtain ⟨q2, e_q2, hf⟩ := ob hf
    refine r_callSN X S hl.1 (As := [.ref (b + r1), .int ((x1 * 8) + x5)]) (rest := []) (c_X8_at e_q2) my_X8_at ms_X8_at nl_X3_51 ⟨rfl, rfl, Nat.le_of_ble_eq_true rfl, Nat.le_of_ble_eq_true rfl⟩ rfl rfl (Nat.le_of_ble_eq_true rfl) dX3_rank_40 ⟨Nat.le_of_ble_eq_true rfl, Nat.le_of_ble_eq_true rfl⟩ (fun H locs S => ?_)
    refine W.eq (g2 := F0 m 43 ls [.int q2.1]) rfl ?_
    refine lv_istore (lv' := [(6, .int q2.1), (0, .ref (b + a0)), (1, .int x1), (2, .int x2), (3, .int x3), (4, .int x4), (5, .int x5)]) hx hb dX3_rank_43 hl (by decide) rfl (fun ls hl => ?_)
    refine lv_iload hx hb dX3_rank_45 (lv_at hl 0 rfl) ?_
    refine lv_iload_n hx hb dX3_rank_47 rfl (lv_at hl 3 rfl) ?_
    refine lv_icmp_ne (tgt := 54) hx hb dX3_rank_48 (by decide) (fun hc => ?_) (fun hc => ?_)
    · replace hf := im hf hc
      refine lv_iload hx hb dX3_rank_54 (lv_at hl 0 rfl) ?_
      refine lv_iload_n hx hb dX3_rank_56 rfl (lv_at hl 4 rfl) ?_
      refine lv_icmp_ne (tgt := 65) hx hb dX3_rank_57 (by decide) (fun hc => ?_) (fun hc => ?_)
      · replace hf := im hf hc
        refine lv_iinc (v := x5 + 1) (lv' := [(5, .int (x5 + 1)), (6, .int q2.1), (0, .ref (b + a0)), (1, .int x1), (2, .int x2), (3, .int x3), (4, .int x4)]) hx hb dX3_rank_65 hl (k := 6) rfl rfl (by decide) rfl (fun ls hl => ?_)
        refine lv_goto (tgt := 22) hx hb dX3_rank_68 (by decide) ?_
        exact hK22 _ _ _ _ _ _ _ hf _ _ _ S (lv_sub hl [2, 3, 4, 5, 6, 0] rfl)
      · replace hf := ip hf hc
        refine lv_iload hx hb dX3_rank_60 (lv_at hl 6 rfl) ?_
        refine lv_iconst (v := 1) hx hb dX3_rank_62 (by decide) ?_
        refine lv_iadd hx hb dX3_rank_63 ?_
        obtain rfl := Option.some.inj hf
        exact Z _ _ _ _ dX3_rank_64 S
    · replace hf := ip hf hc
      refine lv_iload hx hb dX3_rank_51 (lv_at hl 6 rfl) ?_
      obtain rfl := Option.some.inj hf
      exact Z _ _ _ _ dX3_rank_53 S
def F_X3_rank_22  : Nat → Nat → Int32 → Int32 → Int32 → Int32 → Int32 → HP → Option (Int32 × HP)
  | 0 => fun _ _ _ _ _ _ _ => none
  | n + 1 => fun a0 x1 x2 x3 x4 x5 h => f_X3_rank_b22 (F_X3_rank_22  n) a0 x1 x2 x3 x4 x5 h
theorem wl_X3_rank_22 (X : CX RX3 cX3_rank 7 (some .int) p s m args meth c G b) {out : Int32 × HP} (Z : ZI p l e RM_X3_rank s m args below meth c cX3_rank G b False 0 0 Q out)  : ∀ (n : Nat) (a0 : Nat) (x1 : Int32) (x2 : Int32) (x3 : Int32) (x4 : Int32) (x5 : Int32) (h : HP), F_X3_rank_22  n a0 x1 x2 x3 x4 x5 h = some out → ∀ (H : Heap) (locs : List Loc) (ls : Array Slot), ST G b False s h H locs → lv_has ls 7 [(0, .ref (b + a0)), (1, .int x1), (2, .int x2), (3, .int x3), (4, .int x4), (5, .int x5)] → W p l e RM_X3_rank s m args below meth c H locs 0 0 Q (F0 m 22 ls []) := by
  intro n
  induction n with
  | zero => intro a0 x1 x2 x3 x4 x5 h hf; exact nn hf
  | succ n ih => exact w_X3_rank_b22 X Z ih
def f_X3_rank_e  (a0 : Nat) (x1 : Int32) (x2 : Int32) (h : HP) : Option (Int32 × HP) :=
  (gR h a0 3 2).bind fun r1 =>
  (f_X8_at r1 x1 h).bind fun q2 =>
  (gR q2.2 a0 3 3).bind fun r3 =>
  (f_X8_at r3 x1 q2.2).bind fun q4 =>
  F_X3_rank_22  FU a0 x1 x2 q2.1 q4.1 0 q4.2
set_option maxRecDepth 100000 in
set_option maxHeartbeats 4000000 in
theorem w_X3_rank_e (X : CX RX3 cX3_rank 7 (some .int) p s m args meth c G b) {out : Int32 × HP} (Z : ZI p l e RM_X3_rank s m args below meth c cX3_rank G b False 0 0 Q out)  : ∀ (a0 : Nat) (x1 : Int32) (x2 : Int32) (h : HP), f_X3_rank_e  a0 x1 x2 h = some out → ∀ (H : Heap) (locs : List Loc) (ls : Array Slot), ST G b False s h H locs → lv_has ls 7 [(0, .ref (b + a0)), (1, .int x1), (2, .int x2)] → W p l e RM_X3_rank s m args below meth c H locs 0 0 Q (F0 m 0 ls []) := by
  intro a0 x1 x2 h hf H locs ls S hl
  unfold f_X3_rank_e at hf
  have hx := X.1
  have hb := X.2.1
  refine lv_aload_n hx hb dX3_rank_0 rfl (lv_at hl 0 rfl) ?_
  obtain ⟨r1, e_r1, hf⟩ := ob hf
  refine r_getR X S fl_X3_9 e_r1 dX3_rank_1 ?_
  refine lv_iload_n hx hb dX3_rank_4 rfl (lv_at hl 1 rfl) ?_
  obtain ⟨q2, e_q2, hf⟩ := ob hf
  refine r_callSN X S hl.1 (As := [.ref (b + r1), .int x1]) (rest := []) (c_X8_at e_q2) my_X8_at ms_X8_at nl_X3_51 ⟨rfl, rfl, Nat.le_of_ble_eq_true rfl, Nat.le_of_ble_eq_true rfl⟩ rfl rfl (Nat.le_of_ble_eq_true rfl) dX3_rank_5 ⟨Nat.le_of_ble_eq_true rfl, Nat.le_of_ble_eq_true rfl⟩ (fun H locs S => ?_)
  refine W.eq (g2 := F0 m 8 ls [.int q2.1]) rfl ?_
  refine lv_istore_n (lv' := [(3, .int q2.1), (0, .ref (b + a0)), (1, .int x1), (2, .int x2)]) hx hb dX3_rank_8 rfl hl (by decide) rfl (fun ls hl => ?_)
  refine lv_aload_n hx hb dX3_rank_9 rfl (lv_at hl 1 rfl) ?_
  obtain ⟨r3, e_r3, hf⟩ := ob hf
  refine r_getR X S fl_X3_15 e_r3 dX3_rank_10 ?_
  refine lv_iload_n hx hb dX3_rank_13 rfl (lv_at hl 2 rfl) ?_
  obtain ⟨q4, e_q4, hf⟩ := ob hf
  refine r_callSN X S hl.1 (As := [.ref (b + r3), .int x1]) (rest := []) (c_X8_at e_q4) my_X8_at ms_X8_at nl_X3_51 ⟨rfl, rfl, Nat.le_of_ble_eq_true rfl, Nat.le_of_ble_eq_true rfl⟩ rfl rfl (Nat.le_of_ble_eq_true rfl) dX3_rank_14 ⟨Nat.le_of_ble_eq_true rfl, Nat.le_of_ble_eq_true rfl⟩ (fun H locs S => ?_)
  refine W.eq (g2 := F0 m 17 ls [.int q4.1]) rfl ?_
  refine lv_istore (lv' := [(4, .int q4.1), (3, .int q2.1), (0, .ref (b + a0)), (1, .int x1), (2, .int x2)]) hx hb dX3_rank_17 hl (by decide) rfl (fun ls hl => ?_)
  refine lv_iconst (v := 0) hx hb dX3_rank_19 (by decide) ?_
  refine lv_istore (lv' := [(5, .int 0), (4, .int q4.1), (3, .int q2.1), (0, .ref (b + a0)), (1, .int x1), (2, .int x2)]) hx hb dX3_rank_20 hl (by decide) rfl (fun ls hl => ?_)
  exact wl_X3_rank_22 X Z  FU _ _ _ _ _ _ _ hf _ _ _ S (lv_sub hl [3, 4, 5, 2, 1, 0] rfl)
def f_X3_rank (a0 : Nat) (x1 : Int32) (x2 : Int32) (h : HP) : Option (Int32 × HP) := ck h a0 3 (f_X3_rank_e a0 x1 x2 h)
theorem o_X3_rank {a0 : Nat} {x1 : Int32} {x2 : Int32} {h : HP} {out : Int32 × HP} (hf : f_X3_rank a0 x1 x2 h = some out) : ∃ fs, h[a0]? = some (.inl (3, fs)) := (ck_spec hf).1
set_option maxRecDepth 100000 in
theorem c_X3_rank {l : Launch} {G : GT} {b : Nat} {a0 : Nat} {x1 : Int32} {x2 : Int32} {h : HP} {out : Int32 × HP} (hf : f_X3_rank a0 x1 x2 h = some out) : MT l G b False False yX3_rank cX3_rank 7 (some .int) RM_X3_rank [.ref (b + a0), .int x1, .int x2] h (some (.int out.1)) out.2 0 0 := by
  refine met_of (by decide) (Nat.le_of_ble_eq_true rfl) ?_
  intro p e s m below meth c ls X hnm S hl
  have hl : lv_has ls 7 [(0, .ref (b + a0)), (1, .int x1), (2, .int x2)] := hl
  replace hf := (ck_spec hf).2
  exact w_X3_rank_e X (z_i X) _ _ _ _ hf _ _ _ S hl
/-! RoomRings$Bartering.whomEnvies(LRoomRings$House;I)I -/
abbrev RM_X0_whomEnvies : Room := { frames := 2, cells := 0, slots := 0, locals := 47 }
def f_X0_whomEnvies_b69 (K20 : Nat → Int32 → Int32 → Int32 → Int32 → Int32 → HP → Option (Int32 × HP)) (a1 : Nat) (x2 : Int32) (x3 : Int32) (x4 : Int32) (x5 : Int32) (x6 : Int32) (h : HP) : Option (Int32 × HP) :=
  K20 a1 x2 x3 x4 x5 (x6 + 1) h
set_option maxRecDepth 100000 in
set_option maxHeartbeats 4000000 in
theorem w_X0_whomEnvies_b69 (X : CX RX0 cX0_whomEnvies 8 (some .int) p s m args meth c G b) {out : Int32 × HP} (Z : ZI p l e RM_X0_whomEnvies s m args below meth c cX0_whomEnvies G b False 0 0 Q out) {K20 : Nat → Int32 → Int32 → Int32 → Int32 → Int32 → HP → Option (Int32 × HP)} (hK20 : ∀ (a1 : Nat) (x2 : Int32) (x3 : Int32) (x4 : Int32) (x5 : Int32) (x6 : Int32) (h : HP), K20 a1 x2 x3 x4 x5 x6 h = some out → ∀ (H : Heap) (locs : List Loc) (ls : Array Slot), ST G b False s h H locs → lv_has ls 8 [(1, .ref (b + a1)), (2, .int x2), (3, .int x3), (4, .int x4), (5, .int x5), (6, .int x6)] → W p l e RM_X0_whomEnvies s m args below meth c H locs 0 0 Q (F0 m 20 ls [])) : ∀ (a1 : Nat) (x2 : Int32) (x3 : Int32) (x4 : Int32) (x5 : Int32) (x6 : Int32) (h : HP), f_X0_whomEnvies_b69 K20 a1 x2 x3 x4 x5 x6 h = some out → ∀ (H : Heap) (locs : List Loc) (ls : Array Slot), ST G b False s h H locs → lv_has ls 8 [(1, .ref (b + a1)), (2, .int x2), (3, .int x3), (4, .int x4), (5, .int x5), (6, .int x6)] → W p l e RM_X0_whomEnvies s m args below meth c H locs 0 0 Q (F0 m 69 ls []) := by
  intro a1 x2 x3 x4 x5 x6 h hf H locs ls S hl
  unfold f_X0_whomEnvies_b69 at hf
  have hx := X.1
  have hb := X.2.1
  refine lv_iinc (v := x6 + 1) (lv' := [(6, .int (x6 + 1)), (1, .ref (b + a1)), (2, .int x2), (3, .int x3), (4, .int x4), (5, .int x5)]) hx hb dX0_whomEnvies_69 hl (k := 5) rfl rfl (by decide) rfl (fun ls hl => ?_)
  refine lv_goto (tgt := 20) hx hb dX0_whomEnvies_72 (by decide) ?_
  exact hK20 _ _ _ _ _ _ _ hf _ _ _ S (lv_sub hl [1, 2, 3, 4, 5, 0] rfl)
def f_X0_whomEnvies_b20 (K20 : Nat → Int32 → Int32 → Int32 → Int32 → Int32 → HP → Option (Int32 × HP)) (a1 : Nat) (x2 : Int32) (x3 : Int32) (x4 : Int32) (x5 : Int32) (x6 : Int32) (h : HP) : Option (Int32 × HP) :=
  (gI h a1 3 1).bind fun v1 =>
  if v1 ≤ x6 then
    some (x5, h)
  else
    (f_X3_seatOf a1 x6 h).bind fun q2 =>
    if x3 = (-1) then
      f_X0_whomEnvies_b69 K20 a1 x2 x3 x4 x5 x6 q2.2
    else
      if q2.1 = (-1) then
        f_X0_whomEnvies_b69 K20 a1 x2 x3 x4 x5 x6 q2.2
      else
        (f_X3_rank a1 x2 q2.1 q2.2).bind fun q3 =>
        if x4 ≤ q3.1 then
          f_X0_whomEnvies_b69 K20 a1 x2 x3 x4 x5 x6 q3.2
        else
          (f_X8_with x5 x6 q3.2).bind fun q4 =>
          f_X0_whomEnvies_b69 K20 a1 x2 x3 x4 q4.1 x6 q4.2
set_option maxRecDepth 100000 in
set_option maxHeartbeats 4000000 in
theorem w_X0_whomEnvies_b20 (X : CX RX0 cX0_whomEnvies 8 (some .int) p s m args meth c G b) {out : Int32 × HP} (Z : ZI p l e RM_X0_whomEnvies s m args below meth c cX0_whomEnvies G b False 0 0 Q out) {K20 : Nat → Int32 → Int32 → Int32 → Int32 → Int32 → HP → Option (Int32 × HP)} (hK20 : ∀ (a1 : Nat) (x2 : Int32) (x3 : Int32) (x4 : Int32) (x5 : Int32) (x6 : Int32) (h : HP), K20 a1 x2 x3 x4 x5 x6 h = some out → ∀ (H : Heap) (locs : List Loc) (ls : Array Slot), ST G b False s h H locs → lv_has ls 8 [(1, .ref (b + a1)), (2, .int x2), (3, .int x3), (4, .int x4), (5, .int x5), (6, .int x6)] → W p l e RM_X0_whomEnvies s m args below meth c H locs 0 0 Q (F0 m 20 ls [])) : ∀ (a1 : Nat) (x2 : Int32) (x3 : Int32) (x4 : Int32) (x5 : Int32) (x6 : Int32) (h : HP), f_X0_whomEnvies_b20 K20 a1 x2 x3 x4 x5 x6 h = some out → ∀ (H : Heap) (locs : List Loc) (ls : Array Slot), ST G b False s h H locs → lv_has ls 8 [(1, .ref (b + a1)), (2, .int x2), (3, .int x3), (4, .int x4), (5, .int x5), (6, .int x6)] → W p l e RM_X0_whomEnvies s m args below meth c H locs 0 0 Q (F0 m 20 ls []) := by
  intro a1 x2 x3 x4 x5 x6 h hf H locs ls S hl
  unfold f_X0_whomEnvies_b20 at hf
  have hx := X.1
  have hb := X.2.1
  refine lv_iload hx hb dX0_whomEnvies_20 (lv_at hl 5 rfl) ?_
  refine lv_aload_n hx hb dX0_whomEnvies_22 rfl (lv_at hl 0 rfl) ?_
  obtain ⟨v1, e_v1, hf⟩ := ob hf
  refine r_getI X S fl_X0_15 e_v1 dX0_whomEnvies_23 ?_
  refine lv_icmp_ge (tgt := 75) hx hb dX0_whomEnvies_26 (by decide) (fun hc => ?_) (fun hc => ?_)
  · replace hf := ip hf hc
    refine lv_iload hx hb dX0_whomEnvies_75 (lv_at hl 4 rfl) ?_
    obtain rfl := Option.some.inj hf
    exact Z _ _ _ _ dX0_whomEnvies_77 S
  · replace hf := im hf hc
    refine lv_aload_n hx hb dX0_whomEnvies_29 rfl (lv_at hl 0 rfl) ?_
    refine lv_iload hx hb dX0_whomEnvies_30 (lv_at hl 5 rfl) ?_
    obtain ⟨q2, e_q2, hf⟩ := ob hf
    refine r_callV X S hl.1 (As := [.int x6]) (rest := []) (c_X3_seatOf e_q2) my_X3_seatOf mv_X3_seatOf ml_X0_21 rfl (o_X3_seatOf e_q2) ⟨rfl, rfl, Nat.le_of_ble_eq_true rfl, Nat.le_of_ble_eq_true rfl⟩ rfl rfl (Nat.le_of_ble_eq_true rfl) dX0_whomEnvies_32 ⟨Nat.le_of_ble_eq_true rfl, Nat.le_of_ble_eq_true rfl⟩ (fun H locs S => ?_)
    refine W.eq (g2 := F0 m 35 ls [.int q2.1]) rfl ?_
    refine lv_istore (lv' := [(7, .int q2.1), (1, .ref (b + a1)), (2, .int x2), (3, .int x3), (4, .int x4), (5, .int x5), (6, .int x6)]) hx hb dX0_whomEnvies_35 hl (by decide) rfl (fun ls hl => ?_)
    refine lv_iload_n hx hb dX0_whomEnvies_37 rfl (lv_at hl 3 rfl) ?_
    refine lv_iconst (v := (-1)) hx hb dX0_whomEnvies_38 (by decide) ?_
    refine lv_icmp_eq (tgt := 69) hx hb dX0_whomEnvies_39 (by decide) (fun hc => ?_) (fun hc => ?_)
    · replace hf := ip hf hc
      exact w_X0_whomEnvies_b69 X Z hK20 _ _ _ _ _ _ _ hf _ _ _ S (lv_sub hl [1, 2, 3, 4, 5, 6] rfl)
    · replace hf := im hf hc
      refine lv_iload hx hb dX0_whomEnvies_42 (lv_at hl 0 rfl) ?_
      refine lv_iconst (v := (-1)) hx hb dX0_whomEnvies_44 (by decide) ?_
      refine lv_icmp_eq (tgt := 69) hx hb dX0_whomEnvies_45 (by decide) (fun hc => ?_) (fun hc => ?_)
      · replace hf := ip hf hc
        exact w_X0_whomEnvies_b69 X Z hK20 _ _ _ _ _ _ _ hf _ _ _ S (lv_sub hl [1, 2, 3, 4, 5, 6] rfl)
      · replace hf := im hf hc
        refine lv_aload_n hx hb dX0_whomEnvies_48 rfl (lv_at hl 1 rfl) ?_
        refine lv_iload_n hx hb dX0_whomEnvies_49 rfl (lv_at hl 2 rfl) ?_
        refine lv_iload hx hb dX0_whomEnvies_50 (lv_at hl 0 rfl) ?_
        obtain ⟨q3, e_q3, hf⟩ := ob hf
        refine r_callV X S hl.1 (As := [.int x2, .int q2.1]) (rest := []) (c_X3_rank e_q3) my_X3_rank mv_X3_rank ml_X0_52 rfl (o_X3_rank e_q3) ⟨rfl, rfl, Nat.le_of_ble_eq_true rfl, Nat.le_of_ble_eq_true rfl⟩ rfl rfl (Nat.le_of_ble_eq_true rfl) dX0_whomEnvies_52 ⟨Nat.le_of_ble_eq_true rfl, Nat.le_of_ble_eq_true rfl⟩ (fun H locs S => ?_)
        refine W.eq (g2 := F0 m 55 ls [.int q3.1]) rfl ?_
        refine lv_iload hx hb dX0_whomEnvies_55 (lv_at hl 4 rfl) ?_
        refine lv_icmp_ge (tgt := 69) hx hb dX0_whomEnvies_57 (by decide) (fun hc => ?_) (fun hc => ?_)
        · replace hf := ip hf hc
          exact w_X0_whomEnvies_b69 X Z hK20 _ _ _ _ _ _ _ hf _ _ _ S (lv_sub hl [1, 2, 3, 4, 5, 6] rfl)
        · replace hf := im hf hc
          refine lv_iload hx hb dX0_whomEnvies_60 (lv_at hl 5 rfl) ?_
          refine lv_iload hx hb dX0_whomEnvies_62 (lv_at hl 6 rfl) ?_
          obtain ⟨q4, e_q4, hf⟩ := ob hf
          refine r_callSN X S hl.1 (As := [.int x5, .int x6]) (rest := []) (c_X8_with e_q4) my_X8_with ms_X8_with nl_X0_25 ⟨rfl, rfl, Nat.le_of_ble_eq_true rfl, Nat.le_of_ble_eq_true rfl⟩ rfl rfl (Nat.le_of_ble_eq_true rfl) dX0_whomEnvies_64 ⟨Nat.le_of_ble_eq_true rfl, Nat.le_of_ble_eq_true rfl⟩ (fun H locs S => ?_)
          refine W.eq (g2 := F0 m 67 ls [.int q4.1]) rfl ?_
          refine lv_istore (lv' := [(5, .int q4.1), (7, .int q2.1), (1, .ref (b + a1)), (2, .int x2), (3, .int x3), (4, .int x4), (6, .int x6)]) hx hb dX0_whomEnvies_67 hl (by decide) rfl (fun ls hl => ?_)
          exact w_X0_whomEnvies_b69 X Z hK20 _ _ _ _ _ _ _ hf _ _ _ S (lv_sub hl [2, 3, 4, 5, 0, 6] rfl)
def F_X0_whomEnvies_20  : Nat → Nat → Int32 → Int32 → Int32 → Int32 → Int32 → HP → Option (Int32 × HP)
  | 0 => fun _ _ _ _ _ _ _ => none
  | n + 1 => fun a1 x2 x3 x4 x5 x6 h => f_X0_whomEnvies_b20 (F_X0_whomEnvies_20  n) a1 x2 x3 x4 x5 x6 h
theorem wl_X0_whomEnvies_20 (X : CX RX0 cX0_whomEnvies 8 (some .int) p s m args meth c G b) {out : Int32 × HP} (Z : ZI p l e RM_X0_whomEnvies s m args below meth c cX0_whomEnvies G b False 0 0 Q out)  : ∀ (n : Nat) (a1 : Nat) (x2 : Int32) (x3 : Int32) (x4 : Int32) (x5 : Int32) (x6 : Int32) (h : HP), F_X0_whomEnvies_20  n a1 x2 x3 x4 x5 x6 h = some out → ∀ (H : Heap) (locs : List Loc) (ls : Array Slot), ST G b False s h H locs → lv_has ls 8 [(1, .ref (b + a1)), (2, .int x2), (3, .int x3), (4, .int x4), (5, .int x5), (6, .int x6)] → W p l e RM_X0_whomEnvies s m args below meth c H locs 0 0 Q (F0 m 20 ls []) := by
  intro n
  induction n with
  | zero => intro a1 x2 x3 x4 x5 x6 h hf; exact nn hf
  | succ n ih => exact w_X0_whomEnvies_b20 X Z ih
def f_X0_whomEnvies_e  (a0 : Nat) (a1 : Nat) (x2 : Int32) (h : HP) : Option (Int32 × HP) :=
  (f_X3_seatOf a1 x2 h).bind fun q1 =>
  (f_X3_rank a1 x2 q1.1 q1.2).bind fun q2 =>
  F_X0_whomEnvies_20  FU a1 x2 q1.1 q2.1 0 0 q2.2
set_option maxRecDepth 100000 in
set_option maxHeartbeats 4000000 in
theorem w_X0_whomEnvies_e (X : CX RX0 cX0_whomEnvies 8 (some .int) p s m args meth c G b) {out : Int32 × HP} (Z : ZI p l e RM_X0_whomEnvies s m args below meth c cX0_whomEnvies G b False 0 0 Q out)  : ∀ (a0 : Nat) (a1 : Nat) (x2 : Int32) (h : HP), f_X0_whomEnvies_e  a0 a1 x2 h = some out → ∀ (H : Heap) (locs : List Loc) (ls : Array Slot), ST G b False s h H locs → lv_has ls 8 [(0, .ref (b + a0)), (1, .ref (b + a1)), (2, .int x2)] → W p l e RM_X0_whomEnvies s m args below meth c H locs 0 0 Q (F0 m 0 ls []) := by
  intro a0 a1 x2 h hf H locs ls S hl
  unfold f_X0_whomEnvies_e at hf
  have hx := X.1
  have hb := X.2.1
  refine lv_aload_n hx hb dX0_whomEnvies_0 rfl (lv_at hl 1 rfl) ?_
  refine lv_iload_n hx hb dX0_whomEnvies_1 rfl (lv_at hl 2 rfl) ?_
  obtain ⟨q1, e_q1, hf⟩ := ob hf
  refine r_callV X S hl.1 (As := [.int x2]) (rest := []) (c_X3_seatOf e_q1) my_X3_seatOf mv_X3_seatOf ml_X0_21 rfl (o_X3_seatOf e_q1) ⟨rfl, rfl, Nat.le_of_ble_eq_true rfl, Nat.le_of_ble_eq_true rfl⟩ rfl rfl (Nat.le_of_ble_eq_true rfl) dX0_whomEnvies_2 ⟨Nat.le_of_ble_eq_true rfl, Nat.le_of_ble_eq_true rfl⟩ (fun H locs S => ?_)
  refine W.eq (g2 := F0 m 5 ls [.int q1.1]) rfl ?_
  refine lv_istore_n (lv' := [(3, .int q1.1), (0, .ref (b + a0)), (1, .ref (b + a1)), (2, .int x2)]) hx hb dX0_whomEnvies_5 rfl hl (by decide) rfl (fun ls hl => ?_)
  refine lv_aload_n hx hb dX0_whomEnvies_6 rfl (lv_at hl 2 rfl) ?_
  refine lv_iload_n hx hb dX0_whomEnvies_7 rfl (lv_at hl 3 rfl) ?_
  refine lv_iload_n hx hb dX0_whomEnvies_8 rfl (lv_at hl 0 rfl) ?_
  obtain ⟨q2, e_q2, hf⟩ := ob hf
  refine r_callV X S hl.1 (As := [.int x2, .int q1.1]) (rest := []) (c_X3_rank e_q2) my_X3_rank mv_X3_rank ml_X0_52 rfl (o_X3_rank e_q2) ⟨rfl, rfl, Nat.le_of_ble_eq_true rfl, Nat.le_of_ble_eq_true rfl⟩ rfl rfl (Nat.le_of_ble_eq_true rfl) dX0_whomEnvies_9 ⟨Nat.le_of_ble_eq_true rfl, Nat.le_of_ble_eq_true rfl⟩ (fun H locs S => ?_)
  refine W.eq (g2 := F0 m 12 ls [.int q2.1]) rfl ?_
  refine lv_istore (lv' := [(4, .int q2.1), (3, .int q1.1), (0, .ref (b + a0)), (1, .ref (b + a1)), (2, .int x2)]) hx hb dX0_whomEnvies_12 hl (by decide) rfl (fun ls hl => ?_)
  refine lv_iconst (v := 0) hx hb dX0_whomEnvies_14 (by decide) ?_
  refine lv_istore (lv' := [(5, .int 0), (4, .int q2.1), (3, .int q1.1), (0, .ref (b + a0)), (1, .ref (b + a1)), (2, .int x2)]) hx hb dX0_whomEnvies_15 hl (by decide) rfl (fun ls hl => ?_)
  refine lv_iconst (v := 0) hx hb dX0_whomEnvies_17 (by decide) ?_
  refine lv_istore (lv' := [(6, .int 0), (5, .int 0), (4, .int q2.1), (3, .int q1.1), (0, .ref (b + a0)), (1, .ref (b + a1)), (2, .int x2)]) hx hb dX0_whomEnvies_18 hl (by decide) rfl (fun ls hl => ?_)
  exact wl_X0_whomEnvies_20 X Z  FU _ _ _ _ _ _ _ hf _ _ _ S (lv_sub hl [5, 6, 3, 2, 1, 0] rfl)
def f_X0_whomEnvies (a0 : Nat) (a1 : Nat) (x2 : Int32) (h : HP) : Option (Int32 × HP) := ck h a0 0 (f_X0_whomEnvies_e a0 a1 x2 h)
theorem o_X0_whomEnvies {a0 : Nat} {a1 : Nat} {x2 : Int32} {h : HP} {out : Int32 × HP} (hf : f_X0_whomEnvies a0 a1 x2 h = some out) : ∃ fs, h[a0]? = some (.inl (0, fs)) := (ck_spec hf).1
set_option maxRecDepth 100000 in
theorem c_X0_whomEnvies {l : Launch} {G : GT} {b : Nat} {a0 : Nat} {a1 : Nat} {x2 : Int32} {h : HP} {out : Int32 × HP} (hf : f_X0_whomEnvies a0 a1 x2 h = some out) : MT l G b False False yX0_whomEnvies cX0_whomEnvies 8 (some .int) RM_X0_whomEnvies [.ref (b + a0), .ref (b + a1), .int x2] h (some (.int out.1)) out.2 0 0 := by
  refine met_of (by decide) (Nat.le_of_ble_eq_true rfl) ?_
  intro p e s m below meth c ls X hnm S hl
  have hl : lv_has ls 8 [(0, .ref (b + a0)), (1, .ref (b + a1)), (2, .int x2)] := hl
  replace hf := (ck_spec hf).2
  exact w_X0_whomEnvies_e X (z_i X) _ _ _ _ hf _ _ _ S hl
/-! RoomRings.put([III)V -/
abbrev RM_X8_put : Room := { frames := 0, cells := 0, slots := 0, locals := 0 }
def f_X8_put_b14   (h : HP) : Option (HP) :=
  some h
set_option maxRecDepth 100000 in
set_option maxHeartbeats 4000000 in
theorem w_X8_put_b14 (X : CX RX8 cX8_put 3 none p s m args meth c G b) {out : HP} (Z : ZV p l e RM_X8_put s m args below meth c cX8_put G b False 0 0 Q out)  : ∀  (h : HP), f_X8_put_b14   h = some out → ∀ (H : Heap) (locs : List Loc) (ls : Array Slot), ST G b False s h H locs → lv_has ls 3 [] → W p l e RM_X8_put s m args below meth c H locs 0 0 Q (F0 m 14 ls []) := by
  intro  h hf H locs ls S hl
  unfold f_X8_put_b14 at hf
  have hx := X.1
  have hb := X.2.1
  obtain rfl := Option.some.inj hf
  exact Z _ _ _ _ dX8_put_14 S
def f_X8_put_e  (a0 : Nat) (x1 : Int32) (x2 : Int32) (h : HP) : Option (HP) :=
  if x1 < 0 then
    f_X8_put_b14   h
  else
    (alen h a0).bind fun v1 =>
    if v1 ≤ x1 then
      f_X8_put_b14   h
    else
      (ast h a0 x1 x2).bind fun h2 =>
      f_X8_put_b14   h2
set_option maxRecDepth 100000 in
set_option maxHeartbeats 4000000 in
theorem w_X8_put_e (X : CX RX8 cX8_put 3 none p s m args meth c G b) {out : HP} (Z : ZV p l e RM_X8_put s m args below meth c cX8_put G b False 0 0 Q out)  : ∀ (a0 : Nat) (x1 : Int32) (x2 : Int32) (h : HP), f_X8_put_e  a0 x1 x2 h = some out → ∀ (H : Heap) (locs : List Loc) (ls : Array Slot), ST G b False s h H locs → lv_has ls 3 [(0, .ref (b + a0)), (1, .int x1), (2, .int x2)] → W p l e RM_X8_put s m args below meth c H locs 0 0 Q (F0 m 0 ls []) := by
  intro a0 x1 x2 h hf H locs ls S hl
  unfold f_X8_put_e at hf
  have hx := X.1
  have hb := X.2.1
  refine lv_iload_n hx hb dX8_put_0 rfl (lv_at hl 1 rfl) ?_
  refine lv_if_lt (tgt := 14) hx hb dX8_put_1 (by decide) (fun hc => ?_) (fun hc => ?_)
  · replace hf := ip hf hc
    exact w_X8_put_b14 X Z  _ hf _ _ _ S (lv_sub hl [] rfl)
  · replace hf := im hf hc
    refine lv_iload_n hx hb dX8_put_4 rfl (lv_at hl 1 rfl) ?_
    refine lv_aload_n hx hb dX8_put_5 rfl (lv_at hl 0 rfl) ?_
    obtain ⟨v1, e_v1, hf⟩ := ob hf
    refine r_alen X S e_v1 dX8_put_6 ?_
    refine lv_icmp_ge (tgt := 14) hx hb dX8_put_7 (by decide) (fun hc => ?_) (fun hc => ?_)
    · replace hf := ip hf hc
      exact w_X8_put_b14 X Z  _ hf _ _ _ S (lv_sub hl [] rfl)
    · replace hf := im hf hc
      refine lv_aload_n hx hb dX8_put_10 rfl (lv_at hl 0 rfl) ?_
      refine lv_iload_n hx hb dX8_put_11 rfl (lv_at hl 1 rfl) ?_
      refine lv_iload_n hx hb dX8_put_12 rfl (lv_at hl 2 rfl) ?_
      obtain ⟨h2, e_h2, hf⟩ := ob hf
      refine r_ast X S e_h2 dX8_put_13 (fun H locs S => ?_)
      exact w_X8_put_b14 X Z  _ hf _ _ _ S (lv_sub hl [] rfl)
def f_X8_put (a0 : Nat) (x1 : Int32) (x2 : Int32) (h : HP) : Option (HP) := f_X8_put_e a0 x1 x2 h
set_option maxRecDepth 100000 in
theorem c_X8_put {l : Launch} {G : GT} {b : Nat} {a0 : Nat} {x1 : Int32} {x2 : Int32} {h : HP} {out : HP} (hf : f_X8_put a0 x1 x2 h = some out) : MT l G b False False yX8_put cX8_put 3 none RM_X8_put [.ref (b + a0), .int x1, .int x2] h none out 0 0 := by
  refine met_of (by decide) (Nat.le_of_ble_eq_true rfl) ?_
  intro p e s m below meth c ls X hnm S hl
  have hl : lv_has ls 3 [(0, .ref (b + a0)), (1, .int x1), (2, .int x2)] := hl
  exact w_X8_put_e X (z_v X) _ _ _ _ hf _ _ _ S hl
/-! RoomRings.holds(II)Z -/
abbrev RM_X8_holds : Room := { frames := 0, cells := 0, slots := 0, locals := 0 }
def f_X8_holds_b24  (s0 : Int32) (h : HP) : Option (Int32 × HP) :=
  if s0 = 0 ∨ s0 = 1 then some (s0, h) else none
set_option maxRecDepth 100000 in
set_option maxHeartbeats 4000000 in
theorem w_X8_holds_b24 (X : CX RX8 cX8_holds 2 (some .boolean) p s m args meth c G b) {out : Int32 × HP} (Z : ZZ p l e RM_X8_holds s m args below meth c cX8_holds G b False 0 0 Q out)  : ∀ (s0 : Int32) (h : HP), f_X8_holds_b24  s0 h = some out → ∀ (H : Heap) (locs : List Loc) (ls : Array Slot), ST G b False s h H locs → lv_has ls 2 [] → W p l e RM_X8_holds s m args below meth c H locs 0 0 Q (F0 m 24 ls [.int s0]) := by
  intro s0 h hf H locs ls S hl
  unfold f_X8_holds_b24 at hf
  have hx := X.1
  have hb := X.2.1
  obtain ⟨hz, hf⟩ := ig hf
  obtain rfl := Option.some.inj hf
  exact Z _ _ _ _ dX8_holds_24 S hz
def f_X8_holds_b23   (h : HP) : Option (Int32 × HP) :=
  f_X8_holds_b24  0 h
set_option maxRecDepth 100000 in
set_option maxHeartbeats 4000000 in
theorem w_X8_holds_b23 (X : CX RX8 cX8_holds 2 (some .boolean) p s m args meth c G b) {out : Int32 × HP} (Z : ZZ p l e RM_X8_holds s m args below meth c cX8_holds G b False 0 0 Q out)  : ∀  (h : HP), f_X8_holds_b23   h = some out → ∀ (H : Heap) (locs : List Loc) (ls : Array Slot), ST G b False s h H locs → lv_has ls 2 [] → W p l e RM_X8_holds s m args below meth c H locs 0 0 Q (F0 m 23 ls []) := by
  intro  h hf H locs ls S hl
  unfold f_X8_holds_b23 at hf
  have hx := X.1
  have hb := X.2.1
  refine lv_iconst (v := 0) hx hb dX8_holds_23 (by decide) ?_
  exact w_X8_holds_b24 X Z  _ _ hf _ _ _ S (lv_sub hl [] rfl)
def f_X8_holds_e  (x0 : Int32) (x1 : Int32) (h : HP) : Option (Int32 × HP) :=
  if x1 < 0 then
    f_X8_holds_b23   h
  else
    if 31 ≤ x1 then
      f_X8_holds_b23   h
    else
      if ((x0 >>> (x1 &&& 31)) &&& 1) = 1 then
        f_X8_holds_b24  1 h
      else
        f_X8_holds_b23   h
set_option maxRecDepth 100000 in
set_option maxHeartbeats 4000000 in
theorem w_X8_holds_e (X : CX RX8 cX8_holds 2 (some .boolean) p s m args meth c G b) {out : Int32 × HP} (Z : ZZ p l e RM_X8_holds s m args below meth c cX8_holds G b False 0 0 Q out)  : ∀ (x0 : Int32) (x1 : Int32) (h : HP), f_X8_holds_e  x0 x1 h = some out → ∀ (H : Heap) (locs : List Loc) (ls : Array Slot), ST G b False s h H locs → lv_has ls 2 [(0, .int x0), (1, .int x1)] → W p l e RM_X8_holds s m args below meth c H locs 0 0 Q (F0 m 0 ls []) := by
  intro x0 x1 h hf H locs ls S hl
  unfold f_X8_holds_e at hf
  have hx := X.1
  have hb := X.2.1
  refine lv_iload_n hx hb dX8_holds_0 rfl (lv_at hl 1 rfl) ?_
  refine lv_if_lt (tgt := 23) hx hb dX8_holds_1 (by decide) (fun hc => ?_) (fun hc => ?_)
  · replace hf := ip hf hc
    exact w_X8_holds_b23 X Z  _ hf _ _ _ S (lv_sub hl [] rfl)
  · replace hf := im hf hc
    refine lv_iload_n hx hb dX8_holds_4 rfl (lv_at hl 1 rfl) ?_
    refine lv_bipush (v := 31) hx hb dX8_holds_5 (by decide) ?_
    refine lv_icmp_ge (tgt := 23) hx hb dX8_holds_7 (by decide) (fun hc => ?_) (fun hc => ?_)
    · replace hf := ip hf hc
      exact w_X8_holds_b23 X Z  _ hf _ _ _ S (lv_sub hl [] rfl)
    · replace hf := im hf hc
      refine lv_iload_n hx hb dX8_holds_10 rfl (lv_at hl 0 rfl) ?_
      refine lv_iload_n hx hb dX8_holds_11 rfl (lv_at hl 1 rfl) ?_
      refine lv_ishr hx hb dX8_holds_12 ?_
      refine lv_iconst (v := 1) hx hb dX8_holds_13 (by decide) ?_
      refine lv_iand hx hb dX8_holds_14 ?_
      refine lv_iconst (v := 1) hx hb dX8_holds_15 (by decide) ?_
      refine lv_icmp_ne (tgt := 23) hx hb dX8_holds_16 (by decide) (fun hc => ?_) (fun hc => ?_)
      · replace hf := im hf hc
        exact w_X8_holds_b23 X Z  _ hf _ _ _ S (lv_sub hl [] rfl)
      · replace hf := ip hf hc
        refine lv_iconst (v := 1) hx hb dX8_holds_19 (by decide) ?_
        refine lv_goto (tgt := 24) hx hb dX8_holds_20 (by decide) ?_
        exact w_X8_holds_b24 X Z  _ _ hf _ _ _ S (lv_sub hl [] rfl)
def f_X8_holds (x0 : Int32) (x1 : Int32) (h : HP) : Option (Int32 × HP) := f_X8_holds_e x0 x1 h
set_option maxRecDepth 100000 in
theorem c_X8_holds {l : Launch} {G : GT} {b : Nat} {x0 : Int32} {x1 : Int32} {h : HP} {out : Int32 × HP} (hf : f_X8_holds x0 x1 h = some out) : MT l G b False False yX8_holds cX8_holds 2 (some .boolean) RM_X8_holds [.int x0, .int x1] h (some (.int out.1)) out.2 0 0 := by
  refine met_of (by decide) (Nat.le_of_ble_eq_true rfl) ?_
  intro p e s m below meth c ls X hnm S hl
  have hl : lv_has ls 2 [(0, .int x0), (1, .int x1)] := hl
  exact w_X8_holds_e X (z_zz X) _ _ _ hf _ _ _ S hl
/-! RoomRings.without(II)I -/
abbrev RM_X8_without : Room := { frames := 0, cells := 0, slots := 0, locals := 0 }
def f_X8_without_b21  (s0 : Int32) (h : HP) : Option (Int32 × HP) :=
  some (s0, h)
set_option maxRecDepth 100000 in
set_option maxHeartbeats 4000000 in
theorem w_X8_without_b21 (X : CX RX8 cX8_without 2 (some .int) p s m args meth c G b) {out : Int32 × HP} (Z : ZI p l e RM_X8_without s m args below meth c cX8_without G b False 0 0 Q out)  : ∀ (s0 : Int32) (h : HP), f_X8_without_b21  s0 h = some out → ∀ (H : Heap) (locs : List Loc) (ls : Array Slot), ST G b False s h H locs → lv_has ls 2 [] → W p l e RM_X8_without s m args below meth c H locs 0 0 Q (F0 m 21 ls [.int s0]) := by
  intro s0 h hf H locs ls S hl
  unfold f_X8_without_b21 at hf
  have hx := X.1
  have hb := X.2.1
  obtain rfl := Option.some.inj hf
  exact Z _ _ _ _ dX8_without_21 S
def f_X8_without_b20  (x0 : Int32) (h : HP) : Option (Int32 × HP) :=
  f_X8_without_b21  x0 h
set_option maxRecDepth 100000 in
set_option maxHeartbeats 4000000 in
theorem w_X8_without_b20 (X : CX RX8 cX8_without 2 (some .int) p s m args meth c G b) {out : Int32 × HP} (Z : ZI p l e RM_X8_without s m args below meth c cX8_without G b False 0 0 Q out)  : ∀ (x0 : Int32) (h : HP), f_X8_without_b20  x0 h = some out → ∀ (H : Heap) (locs : List Loc) (ls : Array Slot), ST G b False s h H locs → lv_has ls 2 [(0, .int x0)] → W p l e RM_X8_without s m args below meth c H locs 0 0 Q (F0 m 20 ls []) := by
  intro x0 h hf H locs ls S hl
  unfold f_X8_without_b20 at hf
  have hx := X.1
  have hb := X.2.1
  refine lv_iload_n hx hb dX8_without_20 rfl (lv_at hl 0 rfl) ?_
  exact w_X8_without_b21 X Z  _ _ hf _ _ _ S (lv_sub hl [] rfl)
def f_X8_without_e  (x0 : Int32) (x1 : Int32) (h : HP) : Option (Int32 × HP) :=
  if x1 < 0 then
    f_X8_without_b20  x0 h
  else
    if 31 ≤ x1 then
      f_X8_without_b20  x0 h
    else
      f_X8_without_b21  (x0 &&& ((1 <<< (x1 &&& 31)) ^^^ (-1))) h
set_option maxRecDepth 100000 in
set_option maxHeartbeats 4000000 in
theorem w_X8_without_e (X : CX RX8 cX8_without 2 (some .int) p s m args meth c G b) {out : Int32 × HP} (Z : ZI p l e RM_X8_without s m args below meth c cX8_without G b False 0 0 Q out)  : ∀ (x0 : Int32) (x1 : Int32) (h : HP), f_X8_without_e  x0 x1 h = some out → ∀ (H : Heap) (locs : List Loc) (ls : Array Slot), ST G b False s h H locs → lv_has ls 2 [(0, .int x0), (1, .int x1)] → W p l e RM_X8_without s m args below meth c H locs 0 0 Q (F0 m 0 ls []) := by
  intro x0 x1 h hf H locs ls S hl
  unfold f_X8_without_e at hf
  have hx := X.1
  have hb := X.2.1
  refine lv_iload_n hx hb dX8_without_0 rfl (lv_at hl 1 rfl) ?_
  refine lv_if_lt (tgt := 20) hx hb dX8_without_1 (by decide) (fun hc => ?_) (fun hc => ?_)
  · replace hf := ip hf hc
    exact w_X8_without_b20 X Z  _ _ hf _ _ _ S (lv_sub hl [0] rfl)
  · replace hf := im hf hc
    refine lv_iload_n hx hb dX8_without_4 rfl (lv_at hl 1 rfl) ?_
    refine lv_bipush (v := 31) hx hb dX8_without_5 (by decide) ?_
    refine lv_icmp_ge (tgt := 20) hx hb dX8_without_7 (by decide) (fun hc => ?_) (fun hc => ?_)
    · replace hf := ip hf hc
      exact w_X8_without_b20 X Z  _ _ hf _ _ _ S (lv_sub hl [0] rfl)
    · replace hf := im hf hc
      refine lv_iload_n hx hb dX8_without_10 rfl (lv_at hl 0 rfl) ?_
      refine lv_iconst (v := 1) hx hb dX8_without_11 (by decide) ?_
      refine lv_iload_n hx hb dX8_without_12 rfl (lv_at hl 1 rfl) ?_
      refine lv_ishl hx hb dX8_without_13 ?_
      refine lv_iconst (v := (-1)) hx hb dX8_without_14 (by decide) ?_
      refine lv_ixor hx hb dX8_without_15 ?_
      refine lv_iand hx hb dX8_without_16 ?_
      refine lv_goto (tgt := 21) hx hb dX8_without_17 (by decide) ?_
      exact w_X8_without_b21 X Z  _ _ hf _ _ _ S (lv_sub hl [] rfl)
def f_X8_without (x0 : Int32) (x1 : Int32) (h : HP) : Option (Int32 × HP) := f_X8_without_e x0 x1 h
set_option maxRecDepth 100000 in
theorem c_X8_without {l : Launch} {G : GT} {b : Nat} {x0 : Int32} {x1 : Int32} {h : HP} {out : Int32 × HP} (hf : f_X8_without x0 x1 h = some out) : MT l G b False False yX8_without cX8_without 2 (some .int) RM_X8_without [.int x0, .int x1] h (some (.int out.1)) out.2 0 0 := by
  refine met_of (by decide) (Nat.le_of_ble_eq_true rfl) ?_
  intro p e s m below meth c ls X hnm S hl
  have hl : lv_has ls 2 [(0, .int x0), (1, .int x1)] := hl
  exact w_X8_without_e X (z_i X) _ _ _ hf _ _ _ S hl
/-! RoomRings$Bartering.hasRing(I)Z -/
abbrev RM_X0_hasRing : Room := { frames := 1, cells := 0, slots := 0, locals := 21 }
def f_X0_hasRing_b50 (K13 : Nat → Int32 → Int32 → Int32 → HP → Option (Int32 × HP)) (a0 : Nat) (x2 : Int32) (x3 : Int32) (x4 : Int32) (h : HP) : Option (Int32 × HP) :=
  K13 a0 x2 x3 (x4 + 1) h
set_option maxRecDepth 100000 in
set_option maxHeartbeats 4000000 in
theorem w_X0_hasRing_b50 (X : CX RX0 cX0_hasRing 5 (some .boolean) p s m args meth c G b) {out : Int32 × HP} (Z : ZZ p l e RM_X0_hasRing s m args below meth c cX0_hasRing G b False 0 0 Q out) {K13 : Nat → Int32 → Int32 → Int32 → HP → Option (Int32 × HP)} (hK13 : ∀ (a0 : Nat) (x2 : Int32) (x3 : Int32) (x4 : Int32) (h : HP), K13 a0 x2 x3 x4 h = some out → ∀ (H : Heap) (locs : List Loc) (ls : Array Slot), ST G b False s h H locs → lv_has ls 5 [(0, .ref (b + a0)), (2, .int x2), (3, .int x3), (4, .int x4)] → W p l e RM_X0_hasRing s m args below meth c H locs 0 0 Q (F0 m 13 ls [])) : ∀ (a0 : Nat) (x2 : Int32) (x3 : Int32) (x4 : Int32) (h : HP), f_X0_hasRing_b50 K13 a0 x2 x3 x4 h = some out → ∀ (H : Heap) (locs : List Loc) (ls : Array Slot), ST G b False s h H locs → lv_has ls 5 [(0, .ref (b + a0)), (2, .int x2), (3, .int x3), (4, .int x4)] → W p l e RM_X0_hasRing s m args below meth c H locs 0 0 Q (F0 m 50 ls []) := by
  intro a0 x2 x3 x4 h hf H locs ls S hl
  unfold f_X0_hasRing_b50 at hf
  have hx := X.1
  have hb := X.2.1
  refine lv_iinc (v := x4 + 1) (lv' := [(4, .int (x4 + 1)), (0, .ref (b + a0)), (2, .int x2), (3, .int x3)]) hx hb dX0_hasRing_50 hl (k := 3) rfl rfl (by decide) rfl (fun ls hl => ?_)
  refine lv_goto (tgt := 13) hx hb dX0_hasRing_53 (by decide) ?_
  exact hK13 _ _ _ _ _ hf _ _ _ S (lv_sub hl [1, 2, 3, 0] rfl)
def f_X0_hasRing_b13 (K4 : Nat → Int32 → Int32 → HP → Option (Int32 × HP)) (K13 : Nat → Int32 → Int32 → Int32 → HP → Option (Int32 × HP)) (a0 : Nat) (x2 : Int32) (x3 : Int32) (x4 : Int32) (h : HP) : Option (Int32 × HP) :=
  if 6 ≤ x4 then
    K4 a0 x2 (x3 + 1) h
  else
    (f_X8_holds x2 x4 h).bind fun q1 =>
    if q1.1 = 0 then
      f_X0_hasRing_b50 K13 a0 x2 x3 x4 q1.2
    else
      (gR q1.2 a0 0 2).bind fun r2 =>
      (f_X8_at r2 x4 q1.2).bind fun q3 =>
      if (q3.1 &&& x2) = 0 then
        (f_X8_without x2 x4 q3.2).bind fun q4 =>
        f_X0_hasRing_b50 K13 a0 q4.1 x3 x4 q4.2
      else
        f_X0_hasRing_b50 K13 a0 x2 x3 x4 q3.2
set_option maxRecDepth 100000 in
set_option maxHeartbeats 4000000 in
theorem w_X0_hasRing_b13 (X : CX RX0 cX0_hasRing 5 (some .boolean) p s m args meth c G b) {out : Int32 × HP} (Z : ZZ p l e RM_X0_hasRing s m args below meth c cX0_hasRing G b False 0 0 Q out) {K4 : Nat → Int32 → Int32 → HP → Option (Int32 × HP)} (hK4 : ∀ (a0 : Nat) (x2 : Int32) (x3 : Int32) (h : HP), K4 a0 x2 x3 h = some out → ∀ (H : Heap) (locs : List Loc) (ls : Array Slot), ST G b False s h H locs → lv_has ls 5 [(0, .ref (b + a0)), (2, .int x2), (3, .int x3)] → W p l e RM_X0_hasRing s m args below meth c H locs 0 0 Q (F0 m 4 ls [])) {K13 : Nat → Int32 → Int32 → Int32 → HP → Option (Int32 × HP)} (hK13 : ∀ (a0 : Nat) (x2 : Int32) (x3 : Int32) (x4 : Int32) (h : HP), K13 a0 x2 x3 x4 h = some out → ∀ (H : Heap) (locs : List Loc) (ls : Array Slot), ST G b False s h H locs → lv_has ls 5 [(0, .ref (b + a0)), (2, .int x2), (3, .int x3), (4, .int x4)] → W p l e RM_X0_hasRing s m args below meth c H locs 0 0 Q (F0 m 13 ls [])) : ∀ (a0 : Nat) (x2 : Int32) (x3 : Int32) (x4 : Int32) (h : HP), f_X0_hasRing_b13 K4 K13 a0 x2 x3 x4 h = some out → ∀ (H : Heap) (locs : List Loc) (ls : Array Slot), ST G b False s h H locs → lv_has ls 5 [(0, .ref (b + a0)), (2, .int x2), (3, .int x3), (4, .int x4)] → W p l e RM_X0_hasRing s m args below meth c H locs 0 0 Q (F0 m 13 ls []) := by
  intro a0 x2 x3 x4 h hf H locs ls S hl
  unfold f_X0_hasRing_b13 at hf
  have hx := X.1
  have hb := X.2.1
  refine lv_iload hx hb dX0_hasRing_13 (lv_at hl 3 rfl) ?_
  refine lv_bipush (v := 6) hx hb dX0_hasRing_15 (by decide) ?_
  refine lv_icmp_ge (tgt := 56) hx hb dX0_hasRing_17 (by decide) (fun hc => ?_) (fun hc => ?_)
  · replace hf := ip hf hc
    refine lv_iinc (v := x3 + 1) (lv' := [(3, .int (x3 + 1)), (0, .ref (b + a0)), (2, .int x2), (4, .int x4)]) hx hb dX0_hasRing_56 hl (k := 2) rfl rfl (by decide) rfl (fun ls hl => ?_)
    refine lv_goto (tgt := 4) hx hb dX0_hasRing_59 (by decide) ?_
    exact hK4 _ _ _ _ hf _ _ _ S (lv_sub hl [1, 2, 0] rfl)
  · replace hf := im hf hc
    refine lv_iload_n hx hb dX0_hasRing_20 rfl (lv_at hl 1 rfl) ?_
    refine lv_iload hx hb dX0_hasRing_21 (lv_at hl 3 rfl) ?_
    obtain ⟨q1, e_q1, hf⟩ := ob hf
    refine r_callSN X S hl.1 (As := [.int x2, .int x4]) (rest := []) (c_X8_holds e_q1) my_X8_holds ms_X8_holds nl_X0_55 ⟨rfl, rfl, Nat.le_of_ble_eq_true rfl, Nat.le_of_ble_eq_true rfl⟩ rfl rfl (Nat.le_of_ble_eq_true rfl) dX0_hasRing_23 ⟨Nat.le_of_ble_eq_true rfl, Nat.le_of_ble_eq_true rfl⟩ (fun H locs S => ?_)
    refine W.eq (g2 := F0 m 26 ls [.int q1.1]) rfl ?_
    refine lv_if_eq (tgt := 50) hx hb dX0_hasRing_26 (by decide) (fun hc => ?_) (fun hc => ?_)
    · replace hf := ip hf hc
      exact w_X0_hasRing_b50 X Z hK13 _ _ _ _ _ hf _ _ _ S (lv_sub hl [0, 1, 2, 3] rfl)
    · replace hf := im hf hc
      refine lv_aload_n hx hb dX0_hasRing_29 rfl (lv_at hl 0 rfl) ?_
      obtain ⟨r2, e_r2, hf⟩ := ob hf
      refine r_getR X S fl_X0_9 e_r2 dX0_hasRing_30 ?_
      refine lv_iload hx hb dX0_hasRing_33 (lv_at hl 3 rfl) ?_
      obtain ⟨q3, e_q3, hf⟩ := ob hf
      refine r_callSN X S hl.1 (As := [.ref (b + r2), .int x4]) (rest := []) (c_X8_at e_q3) my_X8_at ms_X8_at nl_X0_59 ⟨rfl, rfl, Nat.le_of_ble_eq_true rfl, Nat.le_of_ble_eq_true rfl⟩ rfl rfl (Nat.le_of_ble_eq_true rfl) dX0_hasRing_35 ⟨Nat.le_of_ble_eq_true rfl, Nat.le_of_ble_eq_true rfl⟩ (fun H locs S => ?_)
      refine W.eq (g2 := F0 m 38 ls [.int q3.1]) rfl ?_
      refine lv_iload_n hx hb dX0_hasRing_38 rfl (lv_at hl 1 rfl) ?_
      refine lv_iand hx hb dX0_hasRing_39 ?_
      refine lv_if_ne (tgt := 50) hx hb dX0_hasRing_40 (by decide) (fun hc => ?_) (fun hc => ?_)
      · replace hf := im hf hc
        exact w_X0_hasRing_b50 X Z hK13 _ _ _ _ _ hf _ _ _ S (lv_sub hl [0, 1, 2, 3] rfl)
      · replace hf := ip hf hc
        refine lv_iload_n hx hb dX0_hasRing_43 rfl (lv_at hl 1 rfl) ?_
        refine lv_iload hx hb dX0_hasRing_44 (lv_at hl 3 rfl) ?_
        obtain ⟨q4, e_q4, hf⟩ := ob hf
        refine r_callSN X S hl.1 (As := [.int x2, .int x4]) (rest := []) (c_X8_without e_q4) my_X8_without ms_X8_without nl_X0_63 ⟨rfl, rfl, Nat.le_of_ble_eq_true rfl, Nat.le_of_ble_eq_true rfl⟩ rfl rfl (Nat.le_of_ble_eq_true rfl) dX0_hasRing_46 ⟨Nat.le_of_ble_eq_true rfl, Nat.le_of_ble_eq_true rfl⟩ (fun H locs S => ?_)
        refine W.eq (g2 := F0 m 49 ls [.int q4.1]) rfl ?_
        refine lv_istore_n (lv' := [(2, .int q4.1), (0, .ref (b + a0)), (3, .int x3), (4, .int x4)]) hx hb dX0_hasRing_49 rfl hl (by decide) rfl (fun ls hl => ?_)
        exact w_X0_hasRing_b50 X Z hK13 _ _ _ _ _ hf _ _ _ S (lv_sub hl [1, 0, 2, 3] rfl)
def F_X0_hasRing_13 (K4 : Nat → Int32 → Int32 → HP → Option (Int32 × HP)) : Nat → Nat → Int32 → Int32 → Int32 → HP → Option (Int32 × HP)
  | 0 => fun _ _ _ _ _ => none
  | n + 1 => fun a0 x2 x3 x4 h => f_X0_hasRing_b13 K4 (F_X0_hasRing_13 K4 n) a0 x2 x3 x4 h
theorem wl_X0_hasRing_13 (X : CX RX0 cX0_hasRing 5 (some .boolean) p s m args meth c G b) {out : Int32 × HP} (Z : ZZ p l e RM_X0_hasRing s m args below meth c cX0_hasRing G b False 0 0 Q out) {K4 : Nat → Int32 → Int32 → HP → Option (Int32 × HP)} (hK4 : ∀ (a0 : Nat) (x2 : Int32) (x3 : Int32) (h : HP), K4 a0 x2 x3 h = some out → ∀ (H : Heap) (locs : List Loc) (ls : Array Slot), ST G b False s h H locs → lv_has ls 5 [(0, .ref (b + a0)), (2, .int x2), (3, .int x3)] → W p l e RM_X0_hasRing s m args below meth c H locs 0 0 Q (F0 m 4 ls [])) : ∀ (n : Nat) (a0 : Nat) (x2 : Int32) (x3 : Int32) (x4 : Int32) (h : HP), F_X0_hasRing_13 K4 n a0 x2 x3 x4 h = some out → ∀ (H : Heap) (locs : List Loc) (ls : Array Slot), ST G b False s h H locs → lv_has ls 5 [(0, .ref (b + a0)), (2, .int x2), (3, .int x3), (4, .int x4)] → W p l e RM_X0_hasRing s m args below meth c H locs 0 0 Q (F0 m 13 ls []) := by
  intro n
  induction n with
  | zero => intro a0 x2 x3 x4 h hf; exact nn hf
  | succ n ih => exact w_X0_hasRing_b13 X Z hK4 ih
def f_X0_hasRing_b71  (s0 : Int32) (h : HP) : Option (Int32 × HP) :=
  if s0 = 0 ∨ s0 = 1 then some (s0, h) else none
set_option maxRecDepth 100000 in
set_option maxHeartbeats 4000000 in
theorem w_X0_hasRing_b71 (X : CX RX0 cX0_hasRing 5 (some .boolean) p s m args meth c G b) {out : Int32 × HP} (Z : ZZ p l e RM_X0_hasRing s m args below meth c cX0_hasRing G b False 0 0 Q out)  : ∀ (s0 : Int32) (h : HP), f_X0_hasRing_b71  s0 h = some out → ∀ (H : Heap) (locs : List Loc) (ls : Array Slot), ST G b False s h H locs → lv_has ls 5 [] → W p l e RM_X0_hasRing s m args below meth c H locs 0 0 Q (F0 m 71 ls [.int s0]) := by
  intro s0 h hf H locs ls S hl
  unfold f_X0_hasRing_b71 at hf
  have hx := X.1
  have hb := X.2.1
  obtain ⟨hz, hf⟩ := ig hf
  obtain rfl := Option.some.inj hf
  exact Z _ _ _ _ dX0_hasRing_71 S hz
def f_X0_hasRing_b4 (K4 : Nat → Int32 → Int32 → HP → Option (Int32 × HP)) (a0 : Nat) (x2 : Int32) (x3 : Int32) (h : HP) : Option (Int32 × HP) :=
  if 6 ≤ x3 then
    if x2 = 0 then
      f_X0_hasRing_b71  0 h
    else
      f_X0_hasRing_b71  1 h
  else
    F_X0_hasRing_13 K4 FU a0 x2 x3 0 h
set_option maxRecDepth 100000 in
set_option maxHeartbeats 4000000 in
theorem w_X0_hasRing_b4 (X : CX RX0 cX0_hasRing 5 (some .boolean) p s m args meth c G b) {out : Int32 × HP} (Z : ZZ p l e RM_X0_hasRing s m args below meth c cX0_hasRing G b False 0 0 Q out) {K4 : Nat → Int32 → Int32 → HP → Option (Int32 × HP)} (hK4 : ∀ (a0 : Nat) (x2 : Int32) (x3 : Int32) (h : HP), K4 a0 x2 x3 h = some out → ∀ (H : Heap) (locs : List Loc) (ls : Array Slot), ST G b False s h H locs → lv_has ls 5 [(0, .ref (b + a0)), (2, .int x2), (3, .int x3)] → W p l e RM_X0_hasRing s m args below meth c H locs 0 0 Q (F0 m 4 ls [])) : ∀ (a0 : Nat) (x2 : Int32) (x3 : Int32) (h : HP), f_X0_hasRing_b4 K4 a0 x2 x3 h = some out → ∀ (H : Heap) (locs : List Loc) (ls : Array Slot), ST G b False s h H locs → lv_has ls 5 [(0, .ref (b + a0)), (2, .int x2), (3, .int x3)] → W p l e RM_X0_hasRing s m args below meth c H locs 0 0 Q (F0 m 4 ls []) := by
  intro a0 x2 x3 h hf H locs ls S hl
  unfold f_X0_hasRing_b4 at hf
  have hx := X.1
  have hb := X.2.1
  refine lv_iload_n hx hb dX0_hasRing_4 rfl (lv_at hl 2 rfl) ?_
  refine lv_bipush (v := 6) hx hb dX0_hasRing_5 (by decide) ?_
  refine lv_icmp_ge (tgt := 62) hx hb dX0_hasRing_7 (by decide) (fun hc => ?_) (fun hc => ?_)
  · replace hf := ip hf hc
    refine lv_iload_n hx hb dX0_hasRing_62 rfl (lv_at hl 1 rfl) ?_
    refine lv_if_eq (tgt := 70) hx hb dX0_hasRing_63 (by decide) (fun hc => ?_) (fun hc => ?_)
    · replace hf := ip hf hc
      refine lv_iconst (v := 0) hx hb dX0_hasRing_70 (by decide) ?_
      exact w_X0_hasRing_b71 X Z  _ _ hf _ _ _ S (lv_sub hl [] rfl)
    · replace hf := im hf hc
      refine lv_iconst (v := 1) hx hb dX0_hasRing_66 (by decide) ?_
      refine lv_goto (tgt := 71) hx hb dX0_hasRing_67 (by decide) ?_
      exact w_X0_hasRing_b71 X Z  _ _ hf _ _ _ S (lv_sub hl [] rfl)
  · replace hf := im hf hc
    refine lv_iconst (v := 0) hx hb dX0_hasRing_10 (by decide) ?_
    refine lv_istore (lv' := [(4, .int 0), (0, .ref (b + a0)), (2, .int x2), (3, .int x3)]) hx hb dX0_hasRing_11 hl (by decide) rfl (fun ls hl => ?_)
    exact wl_X0_hasRing_13 X Z hK4 FU _ _ _ _ _ hf _ _ _ S (lv_sub hl [1, 2, 3, 0] rfl)
def F_X0_hasRing_4  : Nat → Nat → Int32 → Int32 → HP → Option (Int32 × HP)
  | 0 => fun _ _ _ _ => none
  | n + 1 => fun a0 x2 x3 h => f_X0_hasRing_b4 (F_X0_hasRing_4  n) a0 x2 x3 h
theorem wl_X0_hasRing_4 (X : CX RX0 cX0_hasRing 5 (some .boolean) p s m args meth c G b) {out : Int32 × HP} (Z : ZZ p l e RM_X0_hasRing s m args below meth c cX0_hasRing G b False 0 0 Q out)  : ∀ (n : Nat) (a0 : Nat) (x2 : Int32) (x3 : Int32) (h : HP), F_X0_hasRing_4  n a0 x2 x3 h = some out → ∀ (H : Heap) (locs : List Loc) (ls : Array Slot), ST G b False s h H locs → lv_has ls 5 [(0, .ref (b + a0)), (2, .int x2), (3, .int x3)] → W p l e RM_X0_hasRing s m args below meth c H locs 0 0 Q (F0 m 4 ls []) := by
  intro n
  induction n with
  | zero => intro a0 x2 x3 h hf; exact nn hf
  | succ n ih => exact w_X0_hasRing_b4 X Z ih
def f_X0_hasRing_e  (a0 : Nat) (x1 : Int32) (h : HP) : Option (Int32 × HP) :=
  F_X0_hasRing_4  FU a0 x1 0 h
set_option maxRecDepth 100000 in
set_option maxHeartbeats 4000000 in
theorem w_X0_hasRing_e (X : CX RX0 cX0_hasRing 5 (some .boolean) p s m args meth c G b) {out : Int32 × HP} (Z : ZZ p l e RM_X0_hasRing s m args below meth c cX0_hasRing G b False 0 0 Q out)  : ∀ (a0 : Nat) (x1 : Int32) (h : HP), f_X0_hasRing_e  a0 x1 h = some out → ∀ (H : Heap) (locs : List Loc) (ls : Array Slot), ST G b False s h H locs → lv_has ls 5 [(0, .ref (b + a0)), (1, .int x1)] → W p l e RM_X0_hasRing s m args below meth c H locs 0 0 Q (F0 m 0 ls []) := by
  intro a0 x1 h hf H locs ls S hl
  unfold f_X0_hasRing_e at hf
  have hx := X.1
  have hb := X.2.1
  refine lv_iload_n hx hb dX0_hasRing_0 rfl (lv_at hl 1 rfl) ?_
  refine lv_istore_n (lv' := [(2, .int x1), (0, .ref (b + a0)), (1, .int x1)]) hx hb dX0_hasRing_1 rfl hl (by decide) rfl (fun ls hl => ?_)
  refine lv_iconst (v := 0) hx hb dX0_hasRing_2 (by decide) ?_
  refine lv_istore_n (lv' := [(3, .int 0), (2, .int x1), (0, .ref (b + a0)), (1, .int x1)]) hx hb dX0_hasRing_3 rfl hl (by decide) rfl (fun ls hl => ?_)
  exact wl_X0_hasRing_4 X Z  FU _ _ _ _ hf _ _ _ S (lv_sub hl [2, 1, 0] rfl)
def f_X0_hasRing (a0 : Nat) (x1 : Int32) (h : HP) : Option (Int32 × HP) := ck h a0 0 (f_X0_hasRing_e a0 x1 h)
theorem o_X0_hasRing {a0 : Nat} {x1 : Int32} {h : HP} {out : Int32 × HP} (hf : f_X0_hasRing a0 x1 h = some out) : ∃ fs, h[a0]? = some (.inl (0, fs)) := (ck_spec hf).1
set_option maxRecDepth 100000 in
theorem c_X0_hasRing {l : Launch} {G : GT} {b : Nat} {a0 : Nat} {x1 : Int32} {h : HP} {out : Int32 × HP} (hf : f_X0_hasRing a0 x1 h = some out) : MT l G b False False yX0_hasRing cX0_hasRing 5 (some .boolean) RM_X0_hasRing [.ref (b + a0), .int x1] h (some (.int out.1)) out.2 0 0 := by
  refine met_of (by decide) (Nat.le_of_ble_eq_true rfl) ?_
  intro p e s m below meth c ls X hnm S hl
  have hl : lv_has ls 5 [(0, .ref (b + a0)), (1, .int x1)] := hl
  replace hf := (ck_spec hf).2
  exact w_X0_hasRing_e X (z_zz X) _ _ _ hf _ _ _ S hl
/-! RoomRings$Bartering.weigh(LRoomRings$House;)V -/
abbrev RM_X0_weigh : Room := { frames := 3, cells := 0, slots := 0, locals := 74 }
def f_X0_weigh_b27 (K4 : Nat → Nat → Int32 → Int32 → HP → Option (HP)) (a0 : Nat) (a1 : Nat) (x2 : Int32) (x3 : Int32) (h : HP) : Option (HP) :=
  (gR h a0 0 2).bind fun r1 =>
  (f_X0_whomEnvies a0 a1 x3 h).bind fun q2 =>
  (f_X8_put r1 x3 q2.1 q2.2).bind fun h3 =>
  K4 a0 a1 x2 (x3 + 1) h3
set_option maxRecDepth 100000 in
set_option maxHeartbeats 4000000 in
theorem w_X0_weigh_b27 (X : CX RX0 cX0_weigh 4 none p s m args meth c G b) {out : HP} (Z : ZV p l e RM_X0_weigh s m args below meth c cX0_weigh G b False 0 0 Q out) {K4 : Nat → Nat → Int32 → Int32 → HP → Option (HP)} (hK4 : ∀ (a0 : Nat) (a1 : Nat) (x2 : Int32) (x3 : Int32) (h : HP), K4 a0 a1 x2 x3 h = some out → ∀ (H : Heap) (locs : List Loc) (ls : Array Slot), ST G b False s h H locs → lv_has ls 4 [(0, .ref (b + a0)), (1, .ref (b + a1)), (2, .int x2), (3, .int x3)] → W p l e RM_X0_weigh s m args below meth c H locs 0 0 Q (F0 m 4 ls [])) : ∀ (a0 : Nat) (a1 : Nat) (x2 : Int32) (x3 : Int32) (h : HP), f_X0_weigh_b27 K4 a0 a1 x2 x3 h = some out → ∀ (H : Heap) (locs : List Loc) (ls : Array Slot), ST G b False s h H locs → lv_has ls 4 [(0, .ref (b + a0)), (1, .ref (b + a1)), (2, .int x2), (3, .int x3)] → W p l e RM_X0_weigh s m args below meth c H locs 0 0 Q (F0 m 27 ls []) := by
  intro a0 a1 x2 x3 h hf H locs ls S hl
  unfold f_X0_weigh_b27 at hf
  have hx := X.1
  have hb := X.2.1
  refine lv_aload_n hx hb dX0_weigh_27 rfl (lv_at hl 0 rfl) ?_
  obtain ⟨r1, e_r1, hf⟩ := ob hf
  refine r_getR X S fl_X0_9 e_r1 dX0_weigh_28 ?_
  refine lv_iload_n hx hb dX0_weigh_31 rfl (lv_at hl 3 rfl) ?_
  refine lv_aload_n hx hb dX0_weigh_32 rfl (lv_at hl 0 rfl) ?_
  refine lv_aload_n hx hb dX0_weigh_33 rfl (lv_at hl 1 rfl) ?_
  refine lv_iload_n hx hb dX0_weigh_34 rfl (lv_at hl 3 rfl) ?_
  obtain ⟨q2, e_q2, hf⟩ := ob hf
  refine r_callV X S hl.1 (As := [.ref (b + a1), .int x3]) (rest := [.int x3, .ref (b + r1)]) (c_X0_whomEnvies e_q2) my_X0_whomEnvies mv_X0_whomEnvies ml_X0_29 rfl (o_X0_whomEnvies e_q2) ⟨rfl, rfl, Nat.le_of_ble_eq_true rfl, Nat.le_of_ble_eq_true rfl⟩ rfl rfl (Nat.le_of_ble_eq_true rfl) dX0_weigh_35 ⟨Nat.le_of_ble_eq_true rfl, Nat.le_of_ble_eq_true rfl⟩ (fun H locs S => ?_)
  refine W.eq (g2 := F0 m 38 ls [.int q2.1, .int x3, .ref (b + r1)]) rfl ?_
  obtain ⟨h3, e_h3, hf⟩ := ob hf
  refine r_callSN X S hl.1 (As := [.ref (b + r1), .int x3, .int q2.1]) (rest := []) (c_X8_put e_h3) my_X8_put ms_X8_put nl_X0_33 ⟨rfl, rfl, Nat.le_of_ble_eq_true rfl, Nat.le_of_ble_eq_true rfl⟩ rfl rfl (Nat.le_of_ble_eq_true rfl) dX0_weigh_38 ⟨Nat.le_of_ble_eq_true rfl, Nat.le_of_ble_eq_true rfl⟩ (fun H locs S => ?_)
  refine W.eq (g2 := F0 m 41 ls []) rfl ?_
  refine lv_iinc (v := x3 + 1) (lv' := [(3, .int (x3 + 1)), (0, .ref (b + a0)), (1, .ref (b + a1)), (2, .int x2)]) hx hb dX0_weigh_41 hl (k := 3) rfl rfl (by decide) rfl (fun ls hl => ?_)
  refine lv_goto (tgt := 4) hx hb dX0_weigh_44 (by decide) ?_
  exact hK4 _ _ _ _ _ hf _ _ _ S (lv_sub hl [1, 2, 3, 0] rfl)
def f_X0_weigh_b117 (K59 : Nat → Int32 → Int32 → HP → Option (HP)) (a0 : Nat) (x2 : Int32) (x3 : Int32) (h : HP) : Option (HP) :=
  K59 a0 x2 (x3 + 1) h
set_option maxRecDepth 100000 in
set_option maxHeartbeats 4000000 in
theorem w_X0_weigh_b117 (X : CX RX0 cX0_weigh 4 none p s m args meth c G b) {out : HP} (Z : ZV p l e RM_X0_weigh s m args below meth c cX0_weigh G b False 0 0 Q out) {K59 : Nat → Int32 → Int32 → HP → Option (HP)} (hK59 : ∀ (a0 : Nat) (x2 : Int32) (x3 : Int32) (h : HP), K59 a0 x2 x3 h = some out → ∀ (H : Heap) (locs : List Loc) (ls : Array Slot), ST G b False s h H locs → lv_has ls 4 [(0, .ref (b + a0)), (2, .int x2), (3, .int x3)] → W p l e RM_X0_weigh s m args below meth c H locs 0 0 Q (F0 m 59 ls [])) : ∀ (a0 : Nat) (x2 : Int32) (x3 : Int32) (h : HP), f_X0_weigh_b117 K59 a0 x2 x3 h = some out → ∀ (H : Heap) (locs : List Loc) (ls : Array Slot), ST G b False s h H locs → lv_has ls 4 [(0, .ref (b + a0)), (2, .int x2), (3, .int x3)] → W p l e RM_X0_weigh s m args below meth c H locs 0 0 Q (F0 m 117 ls []) := by
  intro a0 x2 x3 h hf H locs ls S hl
  unfold f_X0_weigh_b117 at hf
  have hx := X.1
  have hb := X.2.1
  refine lv_iinc (v := x3 + 1) (lv' := [(3, .int (x3 + 1)), (0, .ref (b + a0)), (2, .int x2)]) hx hb dX0_weigh_117 hl (k := 2) rfl rfl (by decide) rfl (fun ls hl => ?_)
  refine lv_goto (tgt := 59) hx hb dX0_weigh_120 (by decide) ?_
  exact hK59 _ _ _ _ hf _ _ _ S (lv_sub hl [1, 2, 0] rfl)
def f_X0_weigh_b112 (K59 : Nat → Int32 → Int32 → HP → Option (HP)) (a0 : Nat) (x2 : Int32) (x3 : Int32) (h : HP) : Option (HP) :=
  (pI h a0 0 0 x3).bind fun h1 =>
  f_X0_weigh_b117 K59 a0 x2 x3 h1
set_option maxRecDepth 100000 in
set_option maxHeartbeats 4000000 in
theorem w_X0_weigh_b112 (X : CX RX0 cX0_weigh 4 none p s m args meth c G b) {out : HP} (Z : ZV p l e RM_X0_weigh s m args below meth c cX0_weigh G b False 0 0 Q out) {K59 : Nat → Int32 → Int32 → HP → Option (HP)} (hK59 : ∀ (a0 : Nat) (x2 : Int32) (x3 : Int32) (h : HP), K59 a0 x2 x3 h = some out → ∀ (H : Heap) (locs : List Loc) (ls : Array Slot), ST G b False s h H locs → lv_has ls 4 [(0, .ref (b + a0)), (2, .int x2), (3, .int x3)] → W p l e RM_X0_weigh s m args below meth c H locs 0 0 Q (F0 m 59 ls [])) : ∀ (a0 : Nat) (x2 : Int32) (x3 : Int32) (h : HP), f_X0_weigh_b112 K59 a0 x2 x3 h = some out → ∀ (H : Heap) (locs : List Loc) (ls : Array Slot), ST G b False s h H locs → lv_has ls 4 [(0, .ref (b + a0)), (2, .int x2), (3, .int x3)] → W p l e RM_X0_weigh s m args below meth c H locs 0 0 Q (F0 m 112 ls []) := by
  intro a0 x2 x3 h hf H locs ls S hl
  unfold f_X0_weigh_b112 at hf
  have hx := X.1
  have hb := X.2.1
  refine lv_aload_n hx hb dX0_weigh_112 rfl (lv_at hl 0 rfl) ?_
  refine lv_iload_n hx hb dX0_weigh_113 rfl (lv_at hl 2 rfl) ?_
  obtain ⟨h1, e_h1, hf⟩ := ob hf
  refine r_put X S fp_X0_37 (fun h9 => by cases h9) rfl rfl rfl e_h1 dX0_weigh_114 (fun H locs S => ?_)
  exact w_X0_weigh_b117 X Z hK59 _ _ _ _ hf _ _ _ S (lv_sub hl [0, 1, 2] rfl)
def f_X0_weigh_b59 (K59 : Nat → Int32 → Int32 → HP → Option (HP)) (a0 : Nat) (x2 : Int32) (x3 : Int32) (h : HP) : Option (HP) :=
  if x2 < x3 then
    some h
  else
    if (x3 &&& (x2 ^^^ (-1))) = 0 then
      (f_X0_hasRing a0 x3 h).bind fun q1 =>
      if q1.1 = 0 then
        f_X0_weigh_b117 K59 a0 x2 x3 q1.2
      else
        (gI q1.2 a0 0 1).bind fun v2 =>
        (pI q1.2 a0 0 1 (v2 + 1)).bind fun h3 =>
        (gI h3 a0 0 0).bind fun v4 =>
        if v4 = (-1) then
          f_X0_weigh_b112 K59 a0 x2 x3 h3
        else
          (f_J6_bitCount_0f7a4 x3 h3).bind fun q5 =>
          (gI q5.2 a0 0 0).bind fun v6 =>
          (f_J6_bitCount_0f7a4 v6 q5.2).bind fun q7 =>
          if q7.1 ≤ q5.1 then
            f_X0_weigh_b117 K59 a0 x2 x3 q7.2
          else
            f_X0_weigh_b112 K59 a0 x2 x3 q7.2
    else
      f_X0_weigh_b117 K59 a0 x2 x3 h
set_option maxRecDepth 100000 in
set_option maxHeartbeats 4000000 in
theorem w_X0_weigh_b59 (X : CX RX0 cX0_weigh 4 none p s m args meth c G b) {out : HP} (Z : ZV p l e RM_X0_weigh s m args below meth c cX0_weigh G b False 0 0 Q out) {K59 : Nat → Int32 → Int32 → HP → Option (HP)} (hK59 : ∀ (a0 : Nat) (x2 : Int32) (x3 : Int32) (h : HP), K59 a0 x2 x3 h = some out → ∀ (H : Heap) (locs : List Loc) (ls : Array Slot), ST G b False s h H locs → lv_has ls 4 [(0, .ref (b + a0)), (2, .int x2), (3, .int x3)] → W p l e RM_X0_weigh s m args below meth c H locs 0 0 Q (F0 m 59 ls [])) : ∀ (a0 : Nat) (x2 : Int32) (x3 : Int32) (h : HP), f_X0_weigh_b59 K59 a0 x2 x3 h = some out → ∀ (H : Heap) (locs : List Loc) (ls : Array Slot), ST G b False s h H locs → lv_has ls 4 [(0, .ref (b + a0)), (2, .int x2), (3, .int x3)] → W p l e RM_X0_weigh s m args below meth c H locs 0 0 Q (F0 m 59 ls []) := by
  intro a0 x2 x3 h hf H locs ls S hl
  unfold f_X0_weigh_b59 at hf
  have hx := X.1
  have hb := X.2.1
  refine lv_iload_n hx hb dX0_weigh_59 rfl (lv_at hl 2 rfl) ?_
  refine lv_iload_n hx hb dX0_weigh_60 rfl (lv_at hl 1 rfl) ?_
  refine lv_icmp_gt (tgt := 123) hx hb dX0_weigh_61 (by decide) (fun hc => ?_) (fun hc => ?_)
  · replace hf := ip hf hc
    obtain rfl := Option.some.inj hf
    exact Z _ _ _ _ dX0_weigh_123 S
  · replace hf := im hf hc
    refine lv_iload_n hx hb dX0_weigh_64 rfl (lv_at hl 2 rfl) ?_
    refine lv_iload_n hx hb dX0_weigh_65 rfl (lv_at hl 1 rfl) ?_
    refine lv_iconst (v := (-1)) hx hb dX0_weigh_66 (by decide) ?_
    refine lv_ixor hx hb dX0_weigh_67 ?_
    refine lv_iand hx hb dX0_weigh_68 ?_
    refine lv_if_ne (tgt := 117) hx hb dX0_weigh_69 (by decide) (fun hc => ?_) (fun hc => ?_)
    · replace hf := im hf hc
      exact w_X0_weigh_b117 X Z hK59 _ _ _ _ hf _ _ _ S (lv_sub hl [0, 1, 2] rfl)
    · replace hf := ip hf hc
      refine lv_aload_n hx hb dX0_weigh_72 rfl (lv_at hl 0 rfl) ?_
      refine lv_iload_n hx hb dX0_weigh_73 rfl (lv_at hl 2 rfl) ?_
      obtain ⟨q1, e_q1, hf⟩ := ob hf
      refine r_callV X S hl.1 (As := [.int x3]) (rest := []) (c_X0_hasRing e_q1) my_X0_hasRing mv_X0_hasRing ml_X0_43 rfl (o_X0_hasRing e_q1) ⟨rfl, rfl, Nat.le_of_ble_eq_true rfl, Nat.le_of_ble_eq_true rfl⟩ rfl rfl (Nat.le_of_ble_eq_true rfl) dX0_weigh_74 ⟨Nat.le_of_ble_eq_true rfl, Nat.le_of_ble_eq_true rfl⟩ (fun H locs S => ?_)
      refine W.eq (g2 := F0 m 77 ls [.int q1.1]) rfl ?_
      refine lv_if_eq (tgt := 117) hx hb dX0_weigh_77 (by decide) (fun hc => ?_) (fun hc => ?_)
      · replace hf := ip hf hc
        exact w_X0_weigh_b117 X Z hK59 _ _ _ _ hf _ _ _ S (lv_sub hl [0, 1, 2] rfl)
      · replace hf := im hf hc
        refine lv_aload_n hx hb dX0_weigh_80 rfl (lv_at hl 0 rfl) ?_
        refine lv_dup hx hb dX0_weigh_81 rfl ?_
        obtain ⟨v2, e_v2, hf⟩ := ob hf
        refine r_getI X S fl_X0_40 e_v2 dX0_weigh_82 ?_
        refine lv_iconst (v := 1) hx hb dX0_weigh_85 (by decide) ?_
        refine lv_iadd hx hb dX0_weigh_86 ?_
        obtain ⟨h3, e_h3, hf⟩ := ob hf
        refine r_put X S fp_X0_40 (fun h9 => by cases h9) rfl rfl rfl e_h3 dX0_weigh_87 (fun H locs S => ?_)
        refine lv_aload_n hx hb dX0_weigh_90 rfl (lv_at hl 0 rfl) ?_
        obtain ⟨v4, e_v4, hf⟩ := ob hf
        refine r_getI X S fl_X0_37 e_v4 dX0_weigh_91 ?_
        refine lv_iconst (v := (-1)) hx hb dX0_weigh_94 (by decide) ?_
        refine lv_icmp_eq (tgt := 112) hx hb dX0_weigh_95 (by decide) (fun hc => ?_) (fun hc => ?_)
        · replace hf := ip hf hc
          exact w_X0_weigh_b112 X Z hK59 _ _ _ _ hf _ _ _ S (lv_sub hl [0, 1, 2] rfl)
        · replace hf := im hf hc
          refine lv_iload_n hx hb dX0_weigh_98 rfl (lv_at hl 2 rfl) ?_
          obtain ⟨q5, e_q5, hf⟩ := ob hf
          refine r_callS X S hl.1 (As := [.int x3]) (rest := []) (c_J6_bitCount_0f7a4 e_q5) my_J6_bitCount_0f7a4 ms_J6_bitCount_0f7a4 ml_X0_47 ⟨rfl, rfl, Nat.le_of_ble_eq_true rfl, Nat.le_of_ble_eq_true rfl⟩ rfl rfl (Nat.le_of_ble_eq_true rfl) dX0_weigh_99 ⟨Nat.le_of_ble_eq_true rfl, Nat.le_of_ble_eq_true rfl⟩ (fun H locs S => ?_)
          refine W.eq (g2 := F0 m 102 ls [.int q5.1]) rfl ?_
          refine lv_aload_n hx hb dX0_weigh_102 rfl (lv_at hl 0 rfl) ?_
          obtain ⟨v6, e_v6, hf⟩ := ob hf
          refine r_getI X S fl_X0_37 e_v6 dX0_weigh_103 ?_
          obtain ⟨q7, e_q7, hf⟩ := ob hf
          refine r_callS X S hl.1 (As := [.int v6]) (rest := [.int q5.1]) (c_J6_bitCount_0f7a4 e_q7) my_J6_bitCount_0f7a4 ms_J6_bitCount_0f7a4 ml_X0_47 ⟨rfl, rfl, Nat.le_of_ble_eq_true rfl, Nat.le_of_ble_eq_true rfl⟩ rfl rfl (Nat.le_of_ble_eq_true rfl) dX0_weigh_106 ⟨Nat.le_of_ble_eq_true rfl, Nat.le_of_ble_eq_true rfl⟩ (fun H locs S => ?_)
          refine W.eq (g2 := F0 m 109 ls [.int q7.1, .int q5.1]) rfl ?_
          refine lv_icmp_ge (tgt := 117) hx hb dX0_weigh_109 (by decide) (fun hc => ?_) (fun hc => ?_)
          · replace hf := ip hf hc
            exact w_X0_weigh_b117 X Z hK59 _ _ _ _ hf _ _ _ S (lv_sub hl [0, 1, 2] rfl)
          · replace hf := im hf hc
            exact w_X0_weigh_b112 X Z hK59 _ _ _ _ hf _ _ _ S (lv_sub hl [0, 1, 2] rfl)
def F_X0_weigh_59  : Nat → Nat → Int32 → Int32 → HP → Option (HP)
  | 0 => fun _ _ _ _ => none
  | n + 1 => fun a0 x2 x3 h => f_X0_weigh_b59 (F_X0_weigh_59  n) a0 x2 x3 h
theorem wl_X0_weigh_59 (X : CX RX0 cX0_weigh 4 none p s m args meth c G b) {out : HP} (Z : ZV p l e RM_X0_weigh s m args below meth c cX0_weigh G b False 0 0 Q out)  : ∀ (n : Nat) (a0 : Nat) (x2 : Int32) (x3 : Int32) (h : HP), F_X0_weigh_59  n a0 x2 x3 h = some out → ∀ (H : Heap) (locs : List Loc) (ls : Array Slot), ST G b False s h H locs → lv_has ls 4 [(0, .ref (b + a0)), (2, .int x2), (3, .int x3)] → W p l e RM_X0_weigh s m args below meth c H locs 0 0 Q (F0 m 59 ls []) := by
  intro n
  induction n with
  | zero => intro a0 x2 x3 h hf; exact nn hf
  | succ n ih => exact w_X0_weigh_b59 X Z ih
def f_X0_weigh_b4 (K4 : Nat → Nat → Int32 → Int32 → HP → Option (HP)) (a0 : Nat) (a1 : Nat) (x2 : Int32) (x3 : Int32) (h : HP) : Option (HP) :=
  (gI h a1 3 1).bind fun v1 =>
  if v1 ≤ x3 then
    (pI h a0 0 0 (-1)).bind fun h2 =>
    (pI h2 a0 0 1 0).bind fun h3 =>
    F_X0_weigh_59  FU a0 x2 1 h3
  else
    (f_X3_seatOf a1 x3 h).bind fun q4 =>
    if q4.1 = (-1) then
      f_X0_weigh_b27 K4 a0 a1 x2 x3 q4.2
    else
      (f_X8_with x2 x3 q4.2).bind fun q5 =>
      f_X0_weigh_b27 K4 a0 a1 q5.1 x3 q5.2
set_option maxRecDepth 100000 in
set_option maxHeartbeats 4000000 in
theorem w_X0_weigh_b4 (X : CX RX0 cX0_weigh 4 none p s m args meth c G b) {out : HP} (Z : ZV p l e RM_X0_weigh s m args below meth c cX0_weigh G b False 0 0 Q out) {K4 : Nat → Nat → Int32 → Int32 → HP → Option (HP)} (hK4 : ∀ (a0 : Nat) (a1 : Nat) (x2 : Int32) (x3 : Int32) (h : HP), K4 a0 a1 x2 x3 h = some out → ∀ (H : Heap) (locs : List Loc) (ls : Array Slot), ST G b False s h H locs → lv_has ls 4 [(0, .ref (b + a0)), (1, .ref (b + a1)), (2, .int x2), (3, .int x3)] → W p l e RM_X0_weigh s m args below meth c H locs 0 0 Q (F0 m 4 ls [])) : ∀ (a0 : Nat) (a1 : Nat) (x2 : Int32) (x3 : Int32) (h : HP), f_X0_weigh_b4 K4 a0 a1 x2 x3 h = some out → ∀ (H : Heap) (locs : List Loc) (ls : Array Slot), ST G b False s h H locs → lv_has ls 4 [(0, .ref (b + a0)), (1, .ref (b + a1)), (2, .int x2), (3, .int x3)] → W p l e RM_X0_weigh s m args below meth c H locs 0 0 Q (F0 m 4 ls []) := by
  intro a0 a1 x2 x3 h hf H locs ls S hl
  unfold f_X0_weigh_b4 at hf
  have hx := X.1
  have hb := X.2.1
  refine lv_iload_n hx hb dX0_weigh_4 rfl (lv_at hl 3 rfl) ?_
  refine lv_aload_n hx hb dX0_weigh_5 rfl (lv_at hl 1 rfl) ?_
  obtain ⟨v1, e_v1, hf⟩ := ob hf
  refine r_getI X S fl_X0_15 e_v1 dX0_weigh_6 ?_
  refine lv_icmp_ge (tgt := 47) hx hb dX0_weigh_9 (by decide) (fun hc => ?_) (fun hc => ?_)
  · replace hf := ip hf hc
    refine lv_aload_n hx hb dX0_weigh_47 rfl (lv_at hl 0 rfl) ?_
    refine lv_iconst (v := (-1)) hx hb dX0_weigh_48 (by decide) ?_
    obtain ⟨h2, e_h2, hf⟩ := ob hf
    refine r_put X S fp_X0_37 (fun h9 => by cases h9) rfl rfl rfl e_h2 dX0_weigh_49 (fun H locs S => ?_)
    refine lv_aload_n hx hb dX0_weigh_52 rfl (lv_at hl 0 rfl) ?_
    refine lv_iconst (v := 0) hx hb dX0_weigh_53 (by decide) ?_
    obtain ⟨h3, e_h3, hf⟩ := ob hf
    refine r_put X S fp_X0_40 (fun h9 => by cases h9) rfl rfl rfl e_h3 dX0_weigh_54 (fun H locs S => ?_)
    refine lv_iconst (v := 1) hx hb dX0_weigh_57 (by decide) ?_
    refine lv_istore_n (lv' := [(3, .int 1), (0, .ref (b + a0)), (1, .ref (b + a1)), (2, .int x2)]) hx hb dX0_weigh_58 rfl hl (by decide) rfl (fun ls hl => ?_)
    exact wl_X0_weigh_59 X Z  FU _ _ _ _ hf _ _ _ S (lv_sub hl [1, 3, 0] rfl)
  · replace hf := im hf hc
    refine lv_aload_n hx hb dX0_weigh_12 rfl (lv_at hl 1 rfl) ?_
    refine lv_iload_n hx hb dX0_weigh_13 rfl (lv_at hl 3 rfl) ?_
    obtain ⟨q4, e_q4, hf⟩ := ob hf
    refine r_callV X S hl.1 (As := [.int x3]) (rest := []) (c_X3_seatOf e_q4) my_X3_seatOf mv_X3_seatOf ml_X0_21 rfl (o_X3_seatOf e_q4) ⟨rfl, rfl, Nat.le_of_ble_eq_true rfl, Nat.le_of_ble_eq_true rfl⟩ rfl rfl (Nat.le_of_ble_eq_true rfl) dX0_weigh_14 ⟨Nat.le_of_ble_eq_true rfl, Nat.le_of_ble_eq_true rfl⟩ (fun H locs S => ?_)
    refine W.eq (g2 := F0 m 17 ls [.int q4.1]) rfl ?_
    refine lv_iconst (v := (-1)) hx hb dX0_weigh_17 (by decide) ?_
    refine lv_icmp_eq (tgt := 27) hx hb dX0_weigh_18 (by decide) (fun hc => ?_) (fun hc => ?_)
    · replace hf := ip hf hc
      exact w_X0_weigh_b27 X Z hK4 _ _ _ _ _ hf _ _ _ S (lv_sub hl [0, 1, 2, 3] rfl)
    · replace hf := im hf hc
      refine lv_iload_n hx hb dX0_weigh_21 rfl (lv_at hl 2 rfl) ?_
      refine lv_iload_n hx hb dX0_weigh_22 rfl (lv_at hl 3 rfl) ?_
      obtain ⟨q5, e_q5, hf⟩ := ob hf
      refine r_callSN X S hl.1 (As := [.int x2, .int x3]) (rest := []) (c_X8_with e_q5) my_X8_with ms_X8_with nl_X0_25 ⟨rfl, rfl, Nat.le_of_ble_eq_true rfl, Nat.le_of_ble_eq_true rfl⟩ rfl rfl (Nat.le_of_ble_eq_true rfl) dX0_weigh_23 ⟨Nat.le_of_ble_eq_true rfl, Nat.le_of_ble_eq_true rfl⟩ (fun H locs S => ?_)
      refine W.eq (g2 := F0 m 26 ls [.int q5.1]) rfl ?_
      refine lv_istore_n (lv' := [(2, .int q5.1), (0, .ref (b + a0)), (1, .ref (b + a1)), (3, .int x3)]) hx hb dX0_weigh_26 rfl hl (by decide) rfl (fun ls hl => ?_)
      exact w_X0_weigh_b27 X Z hK4 _ _ _ _ _ hf _ _ _ S (lv_sub hl [1, 2, 0, 3] rfl)
def F_X0_weigh_4  : Nat → Nat → Nat → Int32 → Int32 → HP → Option (HP)
  | 0 => fun _ _ _ _ _ => none
  | n + 1 => fun a0 a1 x2 x3 h => f_X0_weigh_b4 (F_X0_weigh_4  n) a0 a1 x2 x3 h
theorem wl_X0_weigh_4 (X : CX RX0 cX0_weigh 4 none p s m args meth c G b) {out : HP} (Z : ZV p l e RM_X0_weigh s m args below meth c cX0_weigh G b False 0 0 Q out)  : ∀ (n : Nat) (a0 : Nat) (a1 : Nat) (x2 : Int32) (x3 : Int32) (h : HP), F_X0_weigh_4  n a0 a1 x2 x3 h = some out → ∀ (H : Heap) (locs : List Loc) (ls : Array Slot), ST G b False s h H locs → lv_has ls 4 [(0, .ref (b + a0)), (1, .ref (b + a1)), (2, .int x2), (3, .int x3)] → W p l e RM_X0_weigh s m args below meth c H locs 0 0 Q (F0 m 4 ls []) := by
  intro n
  induction n with
  | zero => intro a0 a1 x2 x3 h hf; exact nn hf
  | succ n ih => exact w_X0_weigh_b4 X Z ih
def f_X0_weigh_e  (a0 : Nat) (a1 : Nat) (h : HP) : Option (HP) :=
  F_X0_weigh_4  FU a0 a1 0 0 h
set_option maxRecDepth 100000 in
set_option maxHeartbeats 4000000 in
theorem w_X0_weigh_e (X : CX RX0 cX0_weigh 4 none p s m args meth c G b) {out : HP} (Z : ZV p l e RM_X0_weigh s m args below meth c cX0_weigh G b False 0 0 Q out)  : ∀ (a0 : Nat) (a1 : Nat) (h : HP), f_X0_weigh_e  a0 a1 h = some out → ∀ (H : Heap) (locs : List Loc) (ls : Array Slot), ST G b False s h H locs → lv_has ls 4 [(0, .ref (b + a0)), (1, .ref (b + a1))] → W p l e RM_X0_weigh s m args below meth c H locs 0 0 Q (F0 m 0 ls []) := by
  intro a0 a1 h hf H locs ls S hl
  unfold f_X0_weigh_e at hf
  have hx := X.1
  have hb := X.2.1
  refine lv_iconst (v := 0) hx hb dX0_weigh_0 (by decide) ?_
  refine lv_istore_n (lv' := [(2, .int 0), (0, .ref (b + a0)), (1, .ref (b + a1))]) hx hb dX0_weigh_1 rfl hl (by decide) rfl (fun ls hl => ?_)
  refine lv_iconst (v := 0) hx hb dX0_weigh_2 (by decide) ?_
  refine lv_istore_n (lv' := [(3, .int 0), (2, .int 0), (0, .ref (b + a0)), (1, .ref (b + a1))]) hx hb dX0_weigh_3 rfl hl (by decide) rfl (fun ls hl => ?_)
  exact wl_X0_weigh_4 X Z  FU _ _ _ _ _ hf _ _ _ S (lv_sub hl [2, 3, 1, 0] rfl)
def f_X0_weigh (a0 : Nat) (a1 : Nat) (h : HP) : Option (HP) := ck h a0 0 (f_X0_weigh_e a0 a1 h)
theorem o_X0_weigh {a0 : Nat} {a1 : Nat} {h : HP} {out : HP} (hf : f_X0_weigh a0 a1 h = some out) : ∃ fs, h[a0]? = some (.inl (0, fs)) := (ck_spec hf).1
set_option maxRecDepth 100000 in
theorem c_X0_weigh {l : Launch} {G : GT} {b : Nat} {a0 : Nat} {a1 : Nat} {h : HP} {out : HP} (hf : f_X0_weigh a0 a1 h = some out) : MT l G b False False yX0_weigh cX0_weigh 4 none RM_X0_weigh [.ref (b + a0), .ref (b + a1)] h none out 0 0 := by
  refine met_of (by decide) (Nat.le_of_ble_eq_true rfl) ?_
  intro p e s m below meth c ls X hnm S hl
  have hl : lv_has ls 4 [(0, .ref (b + a0)), (1, .ref (b + a1))] := hl
  replace hf := (ck_spec hf).2
  exact w_X0_weigh_e X (z_v X) _ _ _ hf _ _ _ S hl
end M00
