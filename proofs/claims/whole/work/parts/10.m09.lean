section M09
variable {p : Program} {l : Launch} {e : Env} {s : State} {m : MethodId} {args : Array Value} {below : List Frame} {meth : Method} {c : Code} {Q : State → Prop} {G : GT} {b : Nat}
/-! RoomRings.strike(II)I -/
abbrev RM_X8_strike : Room := { frames := 3, cells := 0, slots := 0, locals := 71 }
def f_X8_strike_b22   (h : HP) : Option (Int32 × HP) :=
  some ((-1000000001), h)
set_option maxRecDepth 100000 in
set_option maxHeartbeats 4000000 in
theorem w_X8_strike_b22 (X : CX RX8 cX8_strike 3 (some .int) p s m args meth c G b) {out : Int32 × HP} (Z : ZI p l e RM_X8_strike s m args below meth c cX8_strike G b False 0 0 Q out)  : ∀  (h : HP), f_X8_strike_b22   h = some out → ∀ (H : Heap) (locs : List Loc) (ls : Array Slot), ST G b False s h H locs → lv_has ls 3 [] → W p l e RM_X8_strike s m args below meth c H locs 0 0 Q (F0 m 22 ls []) := by
  intro  h hf H locs ls S hl
  unfold f_X8_strike_b22 at hf
  have hx := X.1
  have hb := X.2.1
  refine lv_ldc (v := (-1000000001)) hx hb X.2.2.2.1 (X.2.2.2.2.1 _ cn_X8_143) dX8_strike_22 ?_
  obtain rfl := Option.some.inj hf
  exact Z _ _ _ _ dX8_strike_24 S
def f_X8_strike_e  (a0 : Nat) (x1 : Int32) (x2 : Int32) (h : HP) : Option (Int32 × HP) :=
  (gR h a0 8 1).bind fun r1 =>
  (f_X3_hasPerson r1 x1 h).bind fun q2 =>
  if q2.1 = 0 then
    f_X8_strike_b22   q2.2
  else
    (gR q2.2 a0 8 1).bind fun r3 =>
    (f_X3_hasRoom r3 x2 q2.2).bind fun q4 =>
    if q4.1 = 0 then
      f_X8_strike_b22   q4.2
    else
      (gR q4.2 a0 8 1).bind fun r5 =>
      (f_X3_likingPlace r5 x1 x2 q4.2).bind fun q6 =>
      if q6.1 = (-1) then
        some ((-1000000003), q6.2)
      else
        (gR q6.2 a0 8 5).bind fun r7 =>
        (gR q6.2 a0 8 1).bind fun r8 =>
        (f_X6_push r7 r8 q6.2).bind fun h9 =>
        (gR h9 a0 8 1).bind fun r10 =>
        (f_X3_dropLiking r10 x1 x2 h9).bind fun h11 =>
        (gR h11 a0 8 1).bind fun r12 =>
        (f_X3_amount r12 x1 h11).bind fun q13 =>
        some (q13.1, q13.2)
set_option maxRecDepth 100000 in
set_option maxHeartbeats 4000000 in
theorem w_X8_strike_e (X : CX RX8 cX8_strike 3 (some .int) p s m args meth c G b) {out : Int32 × HP} (Z : ZI p l e RM_X8_strike s m args below meth c cX8_strike G b False 0 0 Q out)  : ∀ (a0 : Nat) (x1 : Int32) (x2 : Int32) (h : HP), f_X8_strike_e  a0 x1 x2 h = some out → ∀ (H : Heap) (locs : List Loc) (ls : Array Slot), ST G b False s h H locs → lv_has ls 3 [(0, .ref (b + a0)), (1, .int x1), (2, .int x2)] → W p l e RM_X8_strike s m args below meth c H locs 0 0 Q (F0 m 0 ls []) := by
  intro a0 x1 x2 h hf H locs ls S hl
  unfold f_X8_strike_e at hf
  have hx := X.1
  have hb := X.2.1
  refine lv_aload_n hx hb dX8_strike_0 rfl (lv_at hl 0 rfl) ?_
  obtain ⟨r1, e_r1, hf⟩ := ob hf
  refine r_getR X S fl_X8_19 e_r1 dX8_strike_1 ?_
  refine lv_iload_n hx hb dX8_strike_4 rfl (lv_at hl 1 rfl) ?_
  obtain ⟨q2, e_q2, hf⟩ := ob hf
  refine r_callV X S hl.1 (As := [.int x1]) (rest := []) (c_X3_hasPerson e_q2) my_X3_hasPerson mv_X3_hasPerson ml_X8_139 rfl (o_X3_hasPerson e_q2) ⟨rfl, rfl, Nat.le_of_ble_eq_true rfl, Nat.le_of_ble_eq_true rfl⟩ rfl rfl (Nat.le_of_ble_eq_true rfl) dX8_strike_5 ⟨Nat.le_of_ble_eq_true rfl, Nat.le_of_ble_eq_true rfl⟩ (fun H locs S => ?_)
  refine W.eq (g2 := F0 m 8 ls [.int q2.1]) rfl ?_
  refine lv_if_eq (tgt := 22) hx hb dX8_strike_8 (by decide) (fun hc => ?_) (fun hc => ?_)
  · replace hf := ip hf hc
    exact w_X8_strike_b22 X Z  _ hf _ _ _ S (lv_sub hl [] rfl)
  · replace hf := im hf hc
    refine lv_aload_n hx hb dX8_strike_11 rfl (lv_at hl 0 rfl) ?_
    obtain ⟨r3, e_r3, hf⟩ := ob hf
    refine r_getR X S fl_X8_19 e_r3 dX8_strike_12 ?_
    refine lv_iload_n hx hb dX8_strike_15 rfl (lv_at hl 2 rfl) ?_
    obtain ⟨q4, e_q4, hf⟩ := ob hf
    refine r_callV X S hl.1 (As := [.int x2]) (rest := []) (c_X3_hasRoom e_q4) my_X3_hasRoom mv_X3_hasRoom ml_X8_172 rfl (o_X3_hasRoom e_q4) ⟨rfl, rfl, Nat.le_of_ble_eq_true rfl, Nat.le_of_ble_eq_true rfl⟩ rfl rfl (Nat.le_of_ble_eq_true rfl) dX8_strike_16 ⟨Nat.le_of_ble_eq_true rfl, Nat.le_of_ble_eq_true rfl⟩ (fun H locs S => ?_)
    refine W.eq (g2 := F0 m 19 ls [.int q4.1]) rfl ?_
    refine lv_if_ne (tgt := 25) hx hb dX8_strike_19 (by decide) (fun hc => ?_) (fun hc => ?_)
    · replace hf := im hf hc
      refine lv_aload_n hx hb dX8_strike_25 rfl (lv_at hl 0 rfl) ?_
      obtain ⟨r5, e_r5, hf⟩ := ob hf
      refine r_getR X S fl_X8_19 e_r5 dX8_strike_26 ?_
      refine lv_iload_n hx hb dX8_strike_29 rfl (lv_at hl 1 rfl) ?_
      refine lv_iload_n hx hb dX8_strike_30 rfl (lv_at hl 2 rfl) ?_
      obtain ⟨q6, e_q6, hf⟩ := ob hf
      refine r_callV X S hl.1 (As := [.int x1, .int x2]) (rest := []) (c_X3_likingPlace e_q6) my_X3_likingPlace mv_X3_likingPlace ml_X8_189 rfl (o_X3_likingPlace e_q6) ⟨rfl, rfl, Nat.le_of_ble_eq_true rfl, Nat.le_of_ble_eq_true rfl⟩ rfl rfl (Nat.le_of_ble_eq_true rfl) dX8_strike_31 ⟨Nat.le_of_ble_eq_true rfl, Nat.le_of_ble_eq_true rfl⟩ (fun H locs S => ?_)
      refine W.eq (g2 := F0 m 34 ls [.int q6.1]) rfl ?_
      refine lv_iconst (v := (-1)) hx hb dX8_strike_34 (by decide) ?_
      refine lv_icmp_ne (tgt := 41) hx hb dX8_strike_35 (by decide) (fun hc => ?_) (fun hc => ?_)
      · replace hf := im hf hc
        refine lv_aload_n hx hb dX8_strike_41 rfl (lv_at hl 0 rfl) ?_
        obtain ⟨r7, e_r7, hf⟩ := ob hf
        refine r_getR X S fl_X8_43 e_r7 dX8_strike_42 ?_
        refine lv_aload_n hx hb dX8_strike_45 rfl (lv_at hl 0 rfl) ?_
        obtain ⟨r8, e_r8, hf⟩ := ob hf
        refine r_getR X S fl_X8_19 e_r8 dX8_strike_46 ?_
        obtain ⟨h9, e_h9, hf⟩ := ob hf
        refine r_callV X S hl.1 (As := [.ref (b + r8)]) (rest := []) (c_X6_push e_h9) my_X6_push mv_X6_push ml_X8_182 rfl (o_X6_push e_h9) ⟨rfl, rfl, Nat.le_of_ble_eq_true rfl, Nat.le_of_ble_eq_true rfl⟩ rfl rfl (Nat.le_of_ble_eq_true rfl) dX8_strike_49 ⟨Nat.le_of_ble_eq_true rfl, Nat.le_of_ble_eq_true rfl⟩ (fun H locs S => ?_)
        refine W.eq (g2 := F0 m 52 ls []) rfl ?_
        refine lv_aload_n hx hb dX8_strike_52 rfl (lv_at hl 0 rfl) ?_
        obtain ⟨r10, e_r10, hf⟩ := ob hf
        refine r_getR X S fl_X8_19 e_r10 dX8_strike_53 ?_
        refine lv_iload_n hx hb dX8_strike_56 rfl (lv_at hl 1 rfl) ?_
        refine lv_iload_n hx hb dX8_strike_57 rfl (lv_at hl 2 rfl) ?_
        obtain ⟨h11, e_h11, hf⟩ := ob hf
        refine r_callV X S hl.1 (As := [.int x1, .int x2]) (rest := []) (c_X3_dropLiking e_h11) my_X3_dropLiking mv_X3_dropLiking ml_X8_193 rfl (o_X3_dropLiking e_h11) ⟨rfl, rfl, Nat.le_of_ble_eq_true rfl, Nat.le_of_ble_eq_true rfl⟩ rfl rfl (Nat.le_of_ble_eq_true rfl) dX8_strike_58 ⟨Nat.le_of_ble_eq_true rfl, Nat.le_of_ble_eq_true rfl⟩ (fun H locs S => ?_)
        refine W.eq (g2 := F0 m 61 ls []) rfl ?_
        refine lv_aload_n hx hb dX8_strike_61 rfl (lv_at hl 0 rfl) ?_
        obtain ⟨r12, e_r12, hf⟩ := ob hf
        refine r_getR X S fl_X8_19 e_r12 dX8_strike_62 ?_
        refine lv_iload_n hx hb dX8_strike_65 rfl (lv_at hl 1 rfl) ?_
        obtain ⟨q13, e_q13, hf⟩ := ob hf
        refine r_callV X S hl.1 (As := [.int x1]) (rest := []) (c_X3_amount e_q13) my_X3_amount mv_X3_amount ml_X8_147 rfl (o_X3_amount e_q13) ⟨rfl, rfl, Nat.le_of_ble_eq_true rfl, Nat.le_of_ble_eq_true rfl⟩ rfl rfl (Nat.le_of_ble_eq_true rfl) dX8_strike_66 ⟨Nat.le_of_ble_eq_true rfl, Nat.le_of_ble_eq_true rfl⟩ (fun H locs S => ?_)
        refine W.eq (g2 := F0 m 69 ls [.int q13.1]) rfl ?_
        obtain rfl := Option.some.inj hf
        exact Z _ _ _ _ dX8_strike_69 S
      · replace hf := ip hf hc
        refine lv_ldc (v := (-1000000003)) hx hb X.2.2.2.1 (X.2.2.2.2.1 _ cn_X8_192) dX8_strike_38 ?_
        obtain rfl := Option.some.inj hf
        exact Z _ _ _ _ dX8_strike_40 S
    · replace hf := ip hf hc
      exact w_X8_strike_b22 X Z  _ hf _ _ _ S (lv_sub hl [] rfl)
def f_X8_strike (a0 : Nat) (x1 : Int32) (x2 : Int32) (h : HP) : Option (Int32 × HP) := ck h a0 8 (f_X8_strike_e a0 x1 x2 h)
theorem o_X8_strike {a0 : Nat} {x1 : Int32} {x2 : Int32} {h : HP} {out : Int32 × HP} (hf : f_X8_strike a0 x1 x2 h = some out) : ∃ fs, h[a0]? = some (.inl (8, fs)) := (ck_spec hf).1
set_option maxRecDepth 100000 in
theorem c_X8_strike {l : Launch} {G : GT} {b : Nat} {a0 : Nat} {x1 : Int32} {x2 : Int32} {h : HP} {out : Int32 × HP} (hf : f_X8_strike a0 x1 x2 h = some out) : MT l G b False False yX8_strike cX8_strike 3 (some .int) RM_X8_strike [.ref (b + a0), .int x1, .int x2] h (some (.int out.1)) out.2 0 0 := by
  refine met_of (by decide) (Nat.le_of_ble_eq_true rfl) ?_
  intro p e s m below meth c ls X hnm S hl
  have hl : lv_has ls 3 [(0, .ref (b + a0)), (1, .int x1), (2, .int x2)] := hl
  replace hf := (ck_spec hf).2
  exact w_X8_strike_e X (z_i X) _ _ _ _ hf _ _ _ S hl
/-! RoomRings.lot(II)I -/
abbrev RM_X8_lot : Room := { frames := 3, cells := 0, slots := 0, locals := 67 }
def f_X8_lot_b29   (h : HP) : Option (Int32 × HP) :=
  some ((-1000000002), h)
set_option maxRecDepth 100000 in
set_option maxHeartbeats 4000000 in
theorem w_X8_lot_b29 (X : CX RX8 cX8_lot 4 (some .int) p s m args meth c G b) {out : Int32 × HP} (Z : ZI p l e RM_X8_lot s m args below meth c cX8_lot G b False 0 0 Q out)  : ∀  (h : HP), f_X8_lot_b29   h = some out → ∀ (H : Heap) (locs : List Loc) (ls : Array Slot), ST G b False s h H locs → lv_has ls 4 [] → W p l e RM_X8_lot s m args below meth c H locs 0 0 Q (F0 m 29 ls []) := by
  intro  h hf H locs ls S hl
  unfold f_X8_lot_b29 at hf
  have hx := X.1
  have hb := X.2.1
  refine lv_ldc (v := (-1000000002)) hx hb X.2.2.2.1 (X.2.2.2.2.1 _ cn_X8_68) dX8_lot_29 ?_
  obtain rfl := Option.some.inj hf
  exact Z _ _ _ _ dX8_lot_31 S
def f_X8_lot_e  (a0 : Nat) (x1 : Int32) (x2 : Int32) (h : HP) : Option (Int32 × HP) :=
  (gR h a0 8 1).bind fun r1 =>
  (f_X3_hasPerson r1 x1 h).bind fun q2 =>
  if q2.1 = 0 then
    some ((-1000000001), q2.2)
  else
    if x2 < 0 then
      f_X8_lot_b29   q2.2
    else
      (gR q2.2 a0 8 1).bind fun r3 =>
      (gI q2.2 r3 3 1).bind fun v4 =>
      if x2 < v4 then
        (gR q2.2 a0 8 1).bind fun r5 =>
        (f_X3_placeOf r5 x1 q2.2).bind fun q6 =>
        (gR q6.2 a0 8 5).bind fun r7 =>
        (gR q6.2 a0 8 1).bind fun r8 =>
        (f_X6_push r7 r8 q6.2).bind fun h9 =>
        (gR h9 a0 8 1).bind fun r10 =>
        (f_X3_toPlace r10 x1 x2 h9).bind fun h11 =>
        some (q6.1, h11)
      else
        f_X8_lot_b29   q2.2
set_option maxRecDepth 100000 in
set_option maxHeartbeats 4000000 in
theorem w_X8_lot_e (X : CX RX8 cX8_lot 4 (some .int) p s m args meth c G b) {out : Int32 × HP} (Z : ZI p l e RM_X8_lot s m args below meth c cX8_lot G b False 0 0 Q out)  : ∀ (a0 : Nat) (x1 : Int32) (x2 : Int32) (h : HP), f_X8_lot_e  a0 x1 x2 h = some out → ∀ (H : Heap) (locs : List Loc) (ls : Array Slot), ST G b False s h H locs → lv_has ls 4 [(0, .ref (b + a0)), (1, .int x1), (2, .int x2)] → W p l e RM_X8_lot s m args below meth c H locs 0 0 Q (F0 m 0 ls []) := by
  intro a0 x1 x2 h hf H locs ls S hl
  unfold f_X8_lot_e at hf
  have hx := X.1
  have hb := X.2.1
  refine lv_aload_n hx hb dX8_lot_0 rfl (lv_at hl 0 rfl) ?_
  obtain ⟨r1, e_r1, hf⟩ := ob hf
  refine r_getR X S fl_X8_19 e_r1 dX8_lot_1 ?_
  refine lv_iload_n hx hb dX8_lot_4 rfl (lv_at hl 1 rfl) ?_
  obtain ⟨q2, e_q2, hf⟩ := ob hf
  refine r_callV X S hl.1 (As := [.int x1]) (rest := []) (c_X3_hasPerson e_q2) my_X3_hasPerson mv_X3_hasPerson ml_X8_139 rfl (o_X3_hasPerson e_q2) ⟨rfl, rfl, Nat.le_of_ble_eq_true rfl, Nat.le_of_ble_eq_true rfl⟩ rfl rfl (Nat.le_of_ble_eq_true rfl) dX8_lot_5 ⟨Nat.le_of_ble_eq_true rfl, Nat.le_of_ble_eq_true rfl⟩ (fun H locs S => ?_)
  refine W.eq (g2 := F0 m 8 ls [.int q2.1]) rfl ?_
  refine lv_if_ne (tgt := 14) hx hb dX8_lot_8 (by decide) (fun hc => ?_) (fun hc => ?_)
  · replace hf := im hf hc
    refine lv_iload_n hx hb dX8_lot_14 rfl (lv_at hl 2 rfl) ?_
    refine lv_if_lt (tgt := 29) hx hb dX8_lot_15 (by decide) (fun hc => ?_) (fun hc => ?_)
    · replace hf := ip hf hc
      exact w_X8_lot_b29 X Z  _ hf _ _ _ S (lv_sub hl [] rfl)
    · replace hf := im hf hc
      refine lv_iload_n hx hb dX8_lot_18 rfl (lv_at hl 2 rfl) ?_
      refine lv_aload_n hx hb dX8_lot_19 rfl (lv_at hl 0 rfl) ?_
      obtain ⟨r3, e_r3, hf⟩ := ob hf
      refine r_getR X S fl_X8_19 e_r3 dX8_lot_20 ?_
      obtain ⟨v4, e_v4, hf⟩ := ob hf
      refine r_getI X S fl_X8_90 e_v4 dX8_lot_23 ?_
      refine lv_icmp_lt (tgt := 32) hx hb dX8_lot_26 (by decide) (fun hc => ?_) (fun hc => ?_)
      · replace hf := ip hf hc
        refine lv_aload_n hx hb dX8_lot_32 rfl (lv_at hl 0 rfl) ?_
        obtain ⟨r5, e_r5, hf⟩ := ob hf
        refine r_getR X S fl_X8_19 e_r5 dX8_lot_33 ?_
        refine lv_iload_n hx hb dX8_lot_36 rfl (lv_at hl 1 rfl) ?_
        obtain ⟨q6, e_q6, hf⟩ := ob hf
        refine r_callV X S hl.1 (As := [.int x1]) (rest := []) (c_X3_placeOf e_q6) my_X3_placeOf mv_X3_placeOf ml_X8_150 rfl (o_X3_placeOf e_q6) ⟨rfl, rfl, Nat.le_of_ble_eq_true rfl, Nat.le_of_ble_eq_true rfl⟩ rfl rfl (Nat.le_of_ble_eq_true rfl) dX8_lot_37 ⟨Nat.le_of_ble_eq_true rfl, Nat.le_of_ble_eq_true rfl⟩ (fun H locs S => ?_)
        refine W.eq (g2 := F0 m 40 ls [.int q6.1]) rfl ?_
        refine lv_istore_n (lv' := [(3, .int q6.1), (0, .ref (b + a0)), (1, .int x1), (2, .int x2)]) hx hb dX8_lot_40 rfl hl (by decide) rfl (fun ls hl => ?_)
        refine lv_aload_n hx hb dX8_lot_41 rfl (lv_at hl 1 rfl) ?_
        obtain ⟨r7, e_r7, hf⟩ := ob hf
        refine r_getR X S fl_X8_43 e_r7 dX8_lot_42 ?_
        refine lv_aload_n hx hb dX8_lot_45 rfl (lv_at hl 1 rfl) ?_
        obtain ⟨r8, e_r8, hf⟩ := ob hf
        refine r_getR X S fl_X8_19 e_r8 dX8_lot_46 ?_
        obtain ⟨h9, e_h9, hf⟩ := ob hf
        refine r_callV X S hl.1 (As := [.ref (b + r8)]) (rest := []) (c_X6_push e_h9) my_X6_push mv_X6_push ml_X8_182 rfl (o_X6_push e_h9) ⟨rfl, rfl, Nat.le_of_ble_eq_true rfl, Nat.le_of_ble_eq_true rfl⟩ rfl rfl (Nat.le_of_ble_eq_true rfl) dX8_lot_49 ⟨Nat.le_of_ble_eq_true rfl, Nat.le_of_ble_eq_true rfl⟩ (fun H locs S => ?_)
        refine W.eq (g2 := F0 m 52 ls []) rfl ?_
        refine lv_aload_n hx hb dX8_lot_52 rfl (lv_at hl 1 rfl) ?_
        obtain ⟨r10, e_r10, hf⟩ := ob hf
        refine r_getR X S fl_X8_19 e_r10 dX8_lot_53 ?_
        refine lv_iload_n hx hb dX8_lot_56 rfl (lv_at hl 2 rfl) ?_
        refine lv_iload_n hx hb dX8_lot_57 rfl (lv_at hl 3 rfl) ?_
        obtain ⟨h11, e_h11, hf⟩ := ob hf
        refine r_callV X S hl.1 (As := [.int x1, .int x2]) (rest := []) (c_X3_toPlace e_h11) my_X3_toPlace mv_X3_toPlace ml_X8_197 rfl (o_X3_toPlace e_h11) ⟨rfl, rfl, Nat.le_of_ble_eq_true rfl, Nat.le_of_ble_eq_true rfl⟩ rfl rfl (Nat.le_of_ble_eq_true rfl) dX8_lot_58 ⟨Nat.le_of_ble_eq_true rfl, Nat.le_of_ble_eq_true rfl⟩ (fun H locs S => ?_)
        refine W.eq (g2 := F0 m 61 ls []) rfl ?_
        refine lv_iload_n hx hb dX8_lot_61 rfl (lv_at hl 0 rfl) ?_
        obtain rfl := Option.some.inj hf
        exact Z _ _ _ _ dX8_lot_62 S
      · replace hf := im hf hc
        exact w_X8_lot_b29 X Z  _ hf _ _ _ S (lv_sub hl [] rfl)
  · replace hf := ip hf hc
    refine lv_ldc (v := (-1000000001)) hx hb X.2.2.2.1 (X.2.2.2.2.1 _ cn_X8_143) dX8_lot_11 ?_
    obtain rfl := Option.some.inj hf
    exact Z _ _ _ _ dX8_lot_13 S
def f_X8_lot (a0 : Nat) (x1 : Int32) (x2 : Int32) (h : HP) : Option (Int32 × HP) := ck h a0 8 (f_X8_lot_e a0 x1 x2 h)
theorem o_X8_lot {a0 : Nat} {x1 : Int32} {x2 : Int32} {h : HP} {out : Int32 × HP} (hf : f_X8_lot a0 x1 x2 h = some out) : ∃ fs, h[a0]? = some (.inl (8, fs)) := (ck_spec hf).1
set_option maxRecDepth 100000 in
theorem c_X8_lot {l : Launch} {G : GT} {b : Nat} {a0 : Nat} {x1 : Int32} {x2 : Int32} {h : HP} {out : Int32 × HP} (hf : f_X8_lot a0 x1 x2 h = some out) : MT l G b False False yX8_lot cX8_lot 4 (some .int) RM_X8_lot [.ref (b + a0), .int x1, .int x2] h (some (.int out.1)) out.2 0 0 := by
  refine met_of (by decide) (Nat.le_of_ble_eq_true rfl) ?_
  intro p e s m below meth c ls X hnm S hl
  have hl : lv_has ls 4 [(0, .ref (b + a0)), (1, .int x1), (2, .int x2)] := hl
  replace hf := (ck_spec hf).2
  exact w_X8_lot_e X (z_i X) _ _ _ _ hf _ _ _ S hl
/-! RoomRings.refuse(I)I -/
abbrev RM_X8_refuse : Room := { frames := 5, cells := 0, slots := 0, locals := 112 }
def f_X8_refuse_b40   (h : HP) : Option (Int32 × HP) :=
  some ((-1000000003), h)
set_option maxRecDepth 100000 in
set_option maxHeartbeats 4000000 in
theorem w_X8_refuse_b40 (X : CX RX8 cX8_refuse 3 (some .int) p s m args meth c G b) {out : Int32 × HP} (Z : ZI p l e RM_X8_refuse s m args below meth c cX8_refuse G b False 0 0 Q out)  : ∀  (h : HP), f_X8_refuse_b40   h = some out → ∀ (H : Heap) (locs : List Loc) (ls : Array Slot), ST G b False s h H locs → lv_has ls 3 [] → W p l e RM_X8_refuse s m args below meth c H locs 0 0 Q (F0 m 40 ls []) := by
  intro  h hf H locs ls S hl
  unfold f_X8_refuse_b40 at hf
  have hx := X.1
  have hb := X.2.1
  refine lv_ldc (v := (-1000000003)) hx hb X.2.2.2.1 (X.2.2.2.2.1 _ cn_X8_192) dX8_refuse_40 ?_
  obtain rfl := Option.some.inj hf
  exact Z _ _ _ _ dX8_refuse_42 S
def f_X8_refuse_e  (a0 : Nat) (x1 : Int32) (h : HP) : Option (Int32 × HP) :=
  (gR h a0 8 1).bind fun r1 =>
  (f_X3_hasPerson r1 x1 h).bind fun q2 =>
  if q2.1 = 0 then
    some ((-1000000001), q2.2)
  else
    (f_X8_dealt a0 q2.2).bind fun q3 => om q3.1 (
      none) fun r4 =>
      (f_X1_roomOf r4 x1 q3.2).bind fun q5 =>
      if q5.1 = (-1) then
        f_X8_refuse_b40   q5.2
      else
        (gR q5.2 a0 8 1).bind fun r6 =>
        (f_X3_seatOf r6 x1 q5.2).bind fun q7 =>
        if q5.1 = q7.1 then
          f_X8_refuse_b40   q7.2
        else
          (gR q7.2 a0 8 5).bind fun r8 =>
          (gR q7.2 a0 8 1).bind fun r9 =>
          (f_X6_push r8 r9 q7.2).bind fun h10 =>
          (gR h10 a0 8 1).bind fun r11 =>
          (f_X3_dropLiking r11 x1 q5.1 h10).bind fun h12 =>
          (f_X8_dealt a0 h12).bind fun q13 => om q13.1 (
            none) fun r14 =>
            (f_X1_roomOf r14 x1 q13.2).bind fun q15 =>
            some (q15.1, q15.2)
set_option maxRecDepth 100000 in
set_option maxHeartbeats 4000000 in
theorem w_X8_refuse_e (X : CX RX8 cX8_refuse 3 (some .int) p s m args meth c G b) {out : Int32 × HP} (Z : ZI p l e RM_X8_refuse s m args below meth c cX8_refuse G b False 0 0 Q out)  : ∀ (a0 : Nat) (x1 : Int32) (h : HP), f_X8_refuse_e  a0 x1 h = some out → ∀ (H : Heap) (locs : List Loc) (ls : Array Slot), ST G b False s h H locs → lv_has ls 3 [(0, .ref (b + a0)), (1, .int x1)] → W p l e RM_X8_refuse s m args below meth c H locs 0 0 Q (F0 m 0 ls []) := by
  intro a0 x1 h hf H locs ls S hl
  unfold f_X8_refuse_e at hf
  have hx := X.1
  have hb := X.2.1
  refine lv_aload_n hx hb dX8_refuse_0 rfl (lv_at hl 0 rfl) ?_
  obtain ⟨r1, e_r1, hf⟩ := ob hf
  refine r_getR X S fl_X8_19 e_r1 dX8_refuse_1 ?_
  refine lv_iload_n hx hb dX8_refuse_4 rfl (lv_at hl 1 rfl) ?_
  obtain ⟨q2, e_q2, hf⟩ := ob hf
  refine r_callV X S hl.1 (As := [.int x1]) (rest := []) (c_X3_hasPerson e_q2) my_X3_hasPerson mv_X3_hasPerson ml_X8_139 rfl (o_X3_hasPerson e_q2) ⟨rfl, rfl, Nat.le_of_ble_eq_true rfl, Nat.le_of_ble_eq_true rfl⟩ rfl rfl (Nat.le_of_ble_eq_true rfl) dX8_refuse_5 ⟨Nat.le_of_ble_eq_true rfl, Nat.le_of_ble_eq_true rfl⟩ (fun H locs S => ?_)
  refine W.eq (g2 := F0 m 8 ls [.int q2.1]) rfl ?_
  refine lv_if_ne (tgt := 14) hx hb dX8_refuse_8 (by decide) (fun hc => ?_) (fun hc => ?_)
  · replace hf := im hf hc
    refine lv_aload_n hx hb dX8_refuse_14 rfl (lv_at hl 0 rfl) ?_
    obtain ⟨⟨q3o, q3h⟩, e_q3, hf⟩ := ob hf
    cases q3o with
    | none => exact nn (om_n hf)
    | some r4 =>
      replace hf := om_s hf
      refine r_callV X S hl.1 (As := []) (rest := []) (c_X8_dealt e_q3) my_X8_dealt mv_X8_dealt ml_X8_103 rfl (o_X8_dealt e_q3) ⟨rfl, rfl, Nat.le_of_ble_eq_true rfl, Nat.le_of_ble_eq_true rfl⟩ rfl rfl (Nat.le_of_ble_eq_true rfl) dX8_refuse_15 ⟨Nat.le_of_ble_eq_true rfl, Nat.le_of_ble_eq_true rfl⟩ (fun H locs S => ?_)
      refine W.eq (g2 := F0 m 18 ls [.ref (b + r4)]) rfl ?_
      refine lv_iload_n hx hb dX8_refuse_18 rfl (lv_at hl 1 rfl) ?_
      obtain ⟨q5, e_q5, hf⟩ := ob hf
      refine r_callV X S hl.1 (As := [.int x1]) (rest := []) (c_X1_roomOf e_q5) my_X1_roomOf mv_X1_roomOf ml_X8_153 rfl (o_X1_roomOf e_q5) ⟨rfl, rfl, Nat.le_of_ble_eq_true rfl, Nat.le_of_ble_eq_true rfl⟩ rfl rfl (Nat.le_of_ble_eq_true rfl) dX8_refuse_19 ⟨Nat.le_of_ble_eq_true rfl, Nat.le_of_ble_eq_true rfl⟩ (fun H locs S => ?_)
      refine W.eq (g2 := F0 m 22 ls [.int q5.1]) rfl ?_
      refine lv_istore_n (lv' := [(2, .int q5.1), (0, .ref (b + a0)), (1, .int x1)]) hx hb dX8_refuse_22 rfl hl (by decide) rfl (fun ls hl => ?_)
      refine lv_iload_n hx hb dX8_refuse_23 rfl (lv_at hl 0 rfl) ?_
      refine lv_iconst (v := (-1)) hx hb dX8_refuse_24 (by decide) ?_
      refine lv_icmp_eq (tgt := 40) hx hb dX8_refuse_25 (by decide) (fun hc => ?_) (fun hc => ?_)
      · replace hf := ip hf hc
        exact w_X8_refuse_b40 X Z  _ hf _ _ _ S (lv_sub hl [] rfl)
      · replace hf := im hf hc
        refine lv_iload_n hx hb dX8_refuse_28 rfl (lv_at hl 0 rfl) ?_
        refine lv_aload_n hx hb dX8_refuse_29 rfl (lv_at hl 1 rfl) ?_
        obtain ⟨r6, e_r6, hf⟩ := ob hf
        refine r_getR X S fl_X8_19 e_r6 dX8_refuse_30 ?_
        refine lv_iload_n hx hb dX8_refuse_33 rfl (lv_at hl 2 rfl) ?_
        obtain ⟨q7, e_q7, hf⟩ := ob hf
        refine r_callV X S hl.1 (As := [.int x1]) (rest := [.int q5.1]) (c_X3_seatOf e_q7) my_X3_seatOf mv_X3_seatOf ml_X8_144 rfl (o_X3_seatOf e_q7) ⟨rfl, rfl, Nat.le_of_ble_eq_true rfl, Nat.le_of_ble_eq_true rfl⟩ rfl rfl (Nat.le_of_ble_eq_true rfl) dX8_refuse_34 ⟨Nat.le_of_ble_eq_true rfl, Nat.le_of_ble_eq_true rfl⟩ (fun H locs S => ?_)
        refine W.eq (g2 := F0 m 37 ls [.int q7.1, .int q5.1]) rfl ?_
        refine lv_icmp_ne (tgt := 43) hx hb dX8_refuse_37 (by decide) (fun hc => ?_) (fun hc => ?_)
        · replace hf := im hf hc
          refine lv_aload_n hx hb dX8_refuse_43 rfl (lv_at hl 1 rfl) ?_
          obtain ⟨r8, e_r8, hf⟩ := ob hf
          refine r_getR X S fl_X8_43 e_r8 dX8_refuse_44 ?_
          refine lv_aload_n hx hb dX8_refuse_47 rfl (lv_at hl 1 rfl) ?_
          obtain ⟨r9, e_r9, hf⟩ := ob hf
          refine r_getR X S fl_X8_19 e_r9 dX8_refuse_48 ?_
          obtain ⟨h10, e_h10, hf⟩ := ob hf
          refine r_callV X S hl.1 (As := [.ref (b + r9)]) (rest := []) (c_X6_push e_h10) my_X6_push mv_X6_push ml_X8_182 rfl (o_X6_push e_h10) ⟨rfl, rfl, Nat.le_of_ble_eq_true rfl, Nat.le_of_ble_eq_true rfl⟩ rfl rfl (Nat.le_of_ble_eq_true rfl) dX8_refuse_51 ⟨Nat.le_of_ble_eq_true rfl, Nat.le_of_ble_eq_true rfl⟩ (fun H locs S => ?_)
          refine W.eq (g2 := F0 m 54 ls []) rfl ?_
          refine lv_aload_n hx hb dX8_refuse_54 rfl (lv_at hl 1 rfl) ?_
          obtain ⟨r11, e_r11, hf⟩ := ob hf
          refine r_getR X S fl_X8_19 e_r11 dX8_refuse_55 ?_
          refine lv_iload_n hx hb dX8_refuse_58 rfl (lv_at hl 2 rfl) ?_
          refine lv_iload_n hx hb dX8_refuse_59 rfl (lv_at hl 0 rfl) ?_
          obtain ⟨h12, e_h12, hf⟩ := ob hf
          refine r_callV X S hl.1 (As := [.int x1, .int q5.1]) (rest := []) (c_X3_dropLiking e_h12) my_X3_dropLiking mv_X3_dropLiking ml_X8_193 rfl (o_X3_dropLiking e_h12) ⟨rfl, rfl, Nat.le_of_ble_eq_true rfl, Nat.le_of_ble_eq_true rfl⟩ rfl rfl (Nat.le_of_ble_eq_true rfl) dX8_refuse_60 ⟨Nat.le_of_ble_eq_true rfl, Nat.le_of_ble_eq_true rfl⟩ (fun H locs S => ?_)
          refine W.eq (g2 := F0 m 63 ls []) rfl ?_
          refine lv_aload_n hx hb dX8_refuse_63 rfl (lv_at hl 1 rfl) ?_
          obtain ⟨⟨q13o, q13h⟩, e_q13, hf⟩ := ob hf
          cases q13o with
          | none => exact nn (om_n hf)
          | some r14 =>
            replace hf := om_s hf
            refine r_callV X S hl.1 (As := []) (rest := []) (c_X8_dealt e_q13) my_X8_dealt mv_X8_dealt ml_X8_103 rfl (o_X8_dealt e_q13) ⟨rfl, rfl, Nat.le_of_ble_eq_true rfl, Nat.le_of_ble_eq_true rfl⟩ rfl rfl (Nat.le_of_ble_eq_true rfl) dX8_refuse_64 ⟨Nat.le_of_ble_eq_true rfl, Nat.le_of_ble_eq_true rfl⟩ (fun H locs S => ?_)
            refine W.eq (g2 := F0 m 67 ls [.ref (b + r14)]) rfl ?_
            refine lv_iload_n hx hb dX8_refuse_67 rfl (lv_at hl 2 rfl) ?_
            obtain ⟨q15, e_q15, hf⟩ := ob hf
            refine r_callV X S hl.1 (As := [.int x1]) (rest := []) (c_X1_roomOf e_q15) my_X1_roomOf mv_X1_roomOf ml_X8_153 rfl (o_X1_roomOf e_q15) ⟨rfl, rfl, Nat.le_of_ble_eq_true rfl, Nat.le_of_ble_eq_true rfl⟩ rfl rfl (Nat.le_of_ble_eq_true rfl) dX8_refuse_68 ⟨Nat.le_of_ble_eq_true rfl, Nat.le_of_ble_eq_true rfl⟩ (fun H locs S => ?_)
            refine W.eq (g2 := F0 m 71 ls [.int q15.1]) rfl ?_
            obtain rfl := Option.some.inj hf
            exact Z _ _ _ _ dX8_refuse_71 S
        · replace hf := ip hf hc
          exact w_X8_refuse_b40 X Z  _ hf _ _ _ S (lv_sub hl [] rfl)
  · replace hf := ip hf hc
    refine lv_ldc (v := (-1000000001)) hx hb X.2.2.2.1 (X.2.2.2.2.1 _ cn_X8_143) dX8_refuse_11 ?_
    obtain rfl := Option.some.inj hf
    exact Z _ _ _ _ dX8_refuse_13 S
def f_X8_refuse (a0 : Nat) (x1 : Int32) (h : HP) : Option (Int32 × HP) := ck h a0 8 (f_X8_refuse_e a0 x1 h)
theorem o_X8_refuse {a0 : Nat} {x1 : Int32} {h : HP} {out : Int32 × HP} (hf : f_X8_refuse a0 x1 h = some out) : ∃ fs, h[a0]? = some (.inl (8, fs)) := (ck_spec hf).1
set_option maxRecDepth 100000 in
theorem c_X8_refuse {l : Launch} {G : GT} {b : Nat} {a0 : Nat} {x1 : Int32} {h : HP} {out : Int32 × HP} (hf : f_X8_refuse a0 x1 h = some out) : MT l G b False False yX8_refuse cX8_refuse 3 (some .int) RM_X8_refuse [.ref (b + a0), .int x1] h (some (.int out.1)) out.2 0 0 := by
  refine met_of (by decide) (Nat.le_of_ble_eq_true rfl) ?_
  intro p e s m below meth c ls X hnm S hl
  have hl : lv_has ls 3 [(0, .ref (b + a0)), (1, .int x1)] := hl
  replace hf := (ck_spec hf).2
  exact w_X8_refuse_e X (z_i X) _ _ _ hf _ _ _ S hl
/-! RoomRings.moveAll()I -/
abbrev RM_X8_moveAll : Room := { frames := 4, cells := 0, slots := 0, locals := 92 }
def f_X8_moveAll_b59 (K15 : Nat → Int32 → Int32 → HP → Option (Int32 × HP)) (a0 : Nat) (x1 : Int32) (x2 : Int32) (h : HP) : Option (Int32 × HP) :=
  K15 a0 x1 (x2 + 1) h
set_option maxRecDepth 100000 in
set_option maxHeartbeats 4000000 in
theorem w_X8_moveAll_b59 (X : CX RX8 cX8_moveAll 4 (some .int) p s m args meth c G b) {out : Int32 × HP} (Z : ZI p l e RM_X8_moveAll s m args below meth c cX8_moveAll G b False 0 0 Q out) {K15 : Nat → Int32 → Int32 → HP → Option (Int32 × HP)} (hK15 : ∀ (a0 : Nat) (x1 : Int32) (x2 : Int32) (h : HP), K15 a0 x1 x2 h = some out → ∀ (H : Heap) (locs : List Loc) (ls : Array Slot), ST G b False s h H locs → lv_has ls 4 [(0, .ref (b + a0)), (1, .int x1), (2, .int x2)] → W p l e RM_X8_moveAll s m args below meth c H locs 0 0 Q (F0 m 15 ls [])) : ∀ (a0 : Nat) (x1 : Int32) (x2 : Int32) (h : HP), f_X8_moveAll_b59 K15 a0 x1 x2 h = some out → ∀ (H : Heap) (locs : List Loc) (ls : Array Slot), ST G b False s h H locs → lv_has ls 4 [(0, .ref (b + a0)), (1, .int x1), (2, .int x2)] → W p l e RM_X8_moveAll s m args below meth c H locs 0 0 Q (F0 m 59 ls []) := by
  intro a0 x1 x2 h hf H locs ls S hl
  unfold f_X8_moveAll_b59 at hf
  have hx := X.1
  have hb := X.2.1
  refine lv_iinc (v := x2 + 1) (lv' := [(2, .int (x2 + 1)), (0, .ref (b + a0)), (1, .int x1)]) hx hb dX8_moveAll_59 hl (k := 2) rfl rfl (by decide) rfl (fun ls hl => ?_)
  refine lv_goto (tgt := 15) hx hb dX8_moveAll_62 (by decide) ?_
  exact hK15 _ _ _ _ hf _ _ _ S (lv_sub hl [1, 2, 0] rfl)
def f_X8_moveAll_b15 (K15 : Nat → Int32 → Int32 → HP → Option (Int32 × HP)) (a0 : Nat) (x1 : Int32) (x2 : Int32) (h : HP) : Option (Int32 × HP) :=
  (gR h a0 8 1).bind fun r1 =>
  (gI h r1 3 1).bind fun v2 =>
  if v2 ≤ x2 then
    some (x1, h)
  else
    (gR h a0 8 3).bind fun r3 =>
    (f_X1_roomOf r3 x2 h).bind fun q4 =>
    (gR q4.2 a0 8 1).bind fun r5 =>
    (f_X3_seatOf r5 x2 q4.2).bind fun q6 =>
    if q4.1 = q6.1 then
      f_X8_moveAll_b59 K15 a0 x1 x2 q6.2
    else
      (gR q6.2 a0 8 1).bind fun r7 =>
      (f_X3_seat r7 x2 q4.1 q6.2).bind fun h8 =>
      f_X8_moveAll_b59 K15 a0 (x1 + 1) x2 h8
set_option maxRecDepth 100000 in
set_option maxHeartbeats 4000000 in
theorem w_X8_moveAll_b15 (X : CX RX8 cX8_moveAll 4 (some .int) p s m args meth c G b) {out : Int32 × HP} (Z : ZI p l e RM_X8_moveAll s m args below meth c cX8_moveAll G b False 0 0 Q out) {K15 : Nat → Int32 → Int32 → HP → Option (Int32 × HP)} (hK15 : ∀ (a0 : Nat) (x1 : Int32) (x2 : Int32) (h : HP), K15 a0 x1 x2 h = some out → ∀ (H : Heap) (locs : List Loc) (ls : Array Slot), ST G b False s h H locs → lv_has ls 4 [(0, .ref (b + a0)), (1, .int x1), (2, .int x2)] → W p l e RM_X8_moveAll s m args below meth c H locs 0 0 Q (F0 m 15 ls [])) : ∀ (a0 : Nat) (x1 : Int32) (x2 : Int32) (h : HP), f_X8_moveAll_b15 K15 a0 x1 x2 h = some out → ∀ (H : Heap) (locs : List Loc) (ls : Array Slot), ST G b False s h H locs → lv_has ls 4 [(0, .ref (b + a0)), (1, .int x1), (2, .int x2)] → W p l e RM_X8_moveAll s m args below meth c H locs 0 0 Q (F0 m 15 ls []) := by
  intro a0 x1 x2 h hf H locs ls S hl
  unfold f_X8_moveAll_b15 at hf
  have hx := X.1
  have hb := X.2.1
  refine lv_iload_n hx hb dX8_moveAll_15 rfl (lv_at hl 2 rfl) ?_
  refine lv_aload_n hx hb dX8_moveAll_16 rfl (lv_at hl 0 rfl) ?_
  obtain ⟨r1, e_r1, hf⟩ := ob hf
  refine r_getR X S fl_X8_19 e_r1 dX8_moveAll_17 ?_
  obtain ⟨v2, e_v2, hf⟩ := ob hf
  refine r_getI X S fl_X8_90 e_v2 dX8_moveAll_20 ?_
  refine lv_icmp_ge (tgt := 65) hx hb dX8_moveAll_23 (by decide) (fun hc => ?_) (fun hc => ?_)
  · replace hf := ip hf hc
    refine lv_iload_n hx hb dX8_moveAll_65 rfl (lv_at hl 1 rfl) ?_
    obtain rfl := Option.some.inj hf
    exact Z _ _ _ _ dX8_moveAll_66 S
  · replace hf := im hf hc
    refine lv_aload_n hx hb dX8_moveAll_26 rfl (lv_at hl 0 rfl) ?_
    obtain ⟨r3, e_r3, hf⟩ := ob hf
    refine r_getR X S fl_X8_29 e_r3 dX8_moveAll_27 ?_
    refine lv_iload_n hx hb dX8_moveAll_30 rfl (lv_at hl 2 rfl) ?_
    obtain ⟨q4, e_q4, hf⟩ := ob hf
    refine r_callV X S hl.1 (As := [.int x2]) (rest := []) (c_X1_roomOf e_q4) my_X1_roomOf mv_X1_roomOf ml_X8_153 rfl (o_X1_roomOf e_q4) ⟨rfl, rfl, Nat.le_of_ble_eq_true rfl, Nat.le_of_ble_eq_true rfl⟩ rfl rfl (Nat.le_of_ble_eq_true rfl) dX8_moveAll_31 ⟨Nat.le_of_ble_eq_true rfl, Nat.le_of_ble_eq_true rfl⟩ (fun H locs S => ?_)
    refine W.eq (g2 := F0 m 34 ls [.int q4.1]) rfl ?_
    refine lv_istore_n (lv' := [(3, .int q4.1), (0, .ref (b + a0)), (1, .int x1), (2, .int x2)]) hx hb dX8_moveAll_34 rfl hl (by decide) rfl (fun ls hl => ?_)
    refine lv_iload_n hx hb dX8_moveAll_35 rfl (lv_at hl 0 rfl) ?_
    refine lv_aload_n hx hb dX8_moveAll_36 rfl (lv_at hl 1 rfl) ?_
    obtain ⟨r5, e_r5, hf⟩ := ob hf
    refine r_getR X S fl_X8_19 e_r5 dX8_moveAll_37 ?_
    refine lv_iload_n hx hb dX8_moveAll_40 rfl (lv_at hl 3 rfl) ?_
    obtain ⟨q6, e_q6, hf⟩ := ob hf
    refine r_callV X S hl.1 (As := [.int x2]) (rest := [.int q4.1]) (c_X3_seatOf e_q6) my_X3_seatOf mv_X3_seatOf ml_X8_144 rfl (o_X3_seatOf e_q6) ⟨rfl, rfl, Nat.le_of_ble_eq_true rfl, Nat.le_of_ble_eq_true rfl⟩ rfl rfl (Nat.le_of_ble_eq_true rfl) dX8_moveAll_41 ⟨Nat.le_of_ble_eq_true rfl, Nat.le_of_ble_eq_true rfl⟩ (fun H locs S => ?_)
    refine W.eq (g2 := F0 m 44 ls [.int q6.1, .int q4.1]) rfl ?_
    refine lv_icmp_eq (tgt := 59) hx hb dX8_moveAll_44 (by decide) (fun hc => ?_) (fun hc => ?_)
    · replace hf := ip hf hc
      exact w_X8_moveAll_b59 X Z hK15 _ _ _ _ hf _ _ _ S (lv_sub hl [1, 2, 3] rfl)
    · replace hf := im hf hc
      refine lv_aload_n hx hb dX8_moveAll_47 rfl (lv_at hl 1 rfl) ?_
      obtain ⟨r7, e_r7, hf⟩ := ob hf
      refine r_getR X S fl_X8_19 e_r7 dX8_moveAll_48 ?_
      refine lv_iload_n hx hb dX8_moveAll_51 rfl (lv_at hl 3 rfl) ?_
      refine lv_iload_n hx hb dX8_moveAll_52 rfl (lv_at hl 0 rfl) ?_
      obtain ⟨h8, e_h8, hf⟩ := ob hf
      refine r_callV X S hl.1 (As := [.int x2, .int q4.1]) (rest := []) (c_X3_seat e_h8) my_X3_seat mv_X3_seat ml_X8_203 rfl (o_X3_seat e_h8) ⟨rfl, rfl, Nat.le_of_ble_eq_true rfl, Nat.le_of_ble_eq_true rfl⟩ rfl rfl (Nat.le_of_ble_eq_true rfl) dX8_moveAll_53 ⟨Nat.le_of_ble_eq_true rfl, Nat.le_of_ble_eq_true rfl⟩ (fun H locs S => ?_)
      refine W.eq (g2 := F0 m 56 ls []) rfl ?_
      refine lv_iinc (v := x1 + 1) (lv' := [(1, .int (x1 + 1)), (3, .int q4.1), (0, .ref (b + a0)), (2, .int x2)]) hx hb dX8_moveAll_56 hl (k := 2) rfl rfl (by decide) rfl (fun ls hl => ?_)
      exact w_X8_moveAll_b59 X Z hK15 _ _ _ _ hf _ _ _ S (lv_sub hl [2, 0, 3] rfl)
def F_X8_moveAll_15  : Nat → Nat → Int32 → Int32 → HP → Option (Int32 × HP)
  | 0 => fun _ _ _ _ => none
  | n + 1 => fun a0 x1 x2 h => f_X8_moveAll_b15 (F_X8_moveAll_15  n) a0 x1 x2 h
theorem wl_X8_moveAll_15 (X : CX RX8 cX8_moveAll 4 (some .int) p s m args meth c G b) {out : Int32 × HP} (Z : ZI p l e RM_X8_moveAll s m args below meth c cX8_moveAll G b False 0 0 Q out)  : ∀ (n : Nat) (a0 : Nat) (x1 : Int32) (x2 : Int32) (h : HP), F_X8_moveAll_15  n a0 x1 x2 h = some out → ∀ (H : Heap) (locs : List Loc) (ls : Array Slot), ST G b False s h H locs → lv_has ls 4 [(0, .ref (b + a0)), (1, .int x1), (2, .int x2)] → W p l e RM_X8_moveAll s m args below meth c H locs 0 0 Q (F0 m 15 ls []) := by
  intro n
  induction n with
  | zero => intro a0 x1 x2 h hf; exact nn hf
  | succ n ih => exact w_X8_moveAll_b15 X Z ih
def f_X8_moveAll_e  (a0 : Nat) (h : HP) : Option (Int32 × HP) :=
  (gR h a0 8 3).bind fun r1 =>
  (gR h a0 8 1).bind fun r2 =>
  (f_X1_deal r1 r2 h).bind fun h3 =>
  F_X8_moveAll_15  FU a0 0 0 h3
set_option maxRecDepth 100000 in
set_option maxHeartbeats 4000000 in
theorem w_X8_moveAll_e (X : CX RX8 cX8_moveAll 4 (some .int) p s m args meth c G b) {out : Int32 × HP} (Z : ZI p l e RM_X8_moveAll s m args below meth c cX8_moveAll G b False 0 0 Q out)  : ∀ (a0 : Nat) (h : HP), f_X8_moveAll_e  a0 h = some out → ∀ (H : Heap) (locs : List Loc) (ls : Array Slot), ST G b False s h H locs → lv_has ls 4 [(0, .ref (b + a0))] → W p l e RM_X8_moveAll s m args below meth c H locs 0 0 Q (F0 m 0 ls []) := by
  intro a0 h hf H locs ls S hl
  unfold f_X8_moveAll_e at hf
  have hx := X.1
  have hb := X.2.1
  refine lv_aload_n hx hb dX8_moveAll_0 rfl (lv_at hl 0 rfl) ?_
  obtain ⟨r1, e_r1, hf⟩ := ob hf
  refine r_getR X S fl_X8_29 e_r1 dX8_moveAll_1 ?_
  refine lv_aload_n hx hb dX8_moveAll_4 rfl (lv_at hl 0 rfl) ?_
  obtain ⟨r2, e_r2, hf⟩ := ob hf
  refine r_getR X S fl_X8_19 e_r2 dX8_moveAll_5 ?_
  obtain ⟨h3, e_h3, hf⟩ := ob hf
  refine r_callV X S hl.1 (As := [.ref (b + r2)]) (rest := []) (c_X1_deal e_h3) my_X1_deal mv_X1_deal ml_X8_225 rfl (o_X1_deal e_h3) ⟨rfl, rfl, Nat.le_of_ble_eq_true rfl, Nat.le_of_ble_eq_true rfl⟩ rfl rfl (Nat.le_of_ble_eq_true rfl) dX8_moveAll_8 ⟨Nat.le_of_ble_eq_true rfl, Nat.le_of_ble_eq_true rfl⟩ (fun H locs S => ?_)
  refine W.eq (g2 := F0 m 11 ls []) rfl ?_
  refine lv_iconst (v := 0) hx hb dX8_moveAll_11 (by decide) ?_
  refine lv_istore_n (lv' := [(1, .int 0), (0, .ref (b + a0))]) hx hb dX8_moveAll_12 rfl hl (by decide) rfl (fun ls hl => ?_)
  refine lv_iconst (v := 0) hx hb dX8_moveAll_13 (by decide) ?_
  refine lv_istore_n (lv' := [(2, .int 0), (1, .int 0), (0, .ref (b + a0))]) hx hb dX8_moveAll_14 rfl hl (by decide) rfl (fun ls hl => ?_)
  exact wl_X8_moveAll_15 X Z  FU _ _ _ _ hf _ _ _ S (lv_sub hl [2, 1, 0] rfl)
def f_X8_moveAll (a0 : Nat) (h : HP) : Option (Int32 × HP) := ck h a0 8 (f_X8_moveAll_e a0 h)
theorem o_X8_moveAll {a0 : Nat} {h : HP} {out : Int32 × HP} (hf : f_X8_moveAll a0 h = some out) : ∃ fs, h[a0]? = some (.inl (8, fs)) := (ck_spec hf).1
set_option maxRecDepth 100000 in
theorem c_X8_moveAll {l : Launch} {G : GT} {b : Nat} {a0 : Nat} {h : HP} {out : Int32 × HP} (hf : f_X8_moveAll a0 h = some out) : MT l G b False False yX8_moveAll cX8_moveAll 4 (some .int) RM_X8_moveAll [.ref (b + a0)] h (some (.int out.1)) out.2 0 0 := by
  refine met_of (by decide) (Nat.le_of_ble_eq_true rfl) ?_
  intro p e s m below meth c ls X hnm S hl
  have hl : lv_has ls 4 [(0, .ref (b + a0))] := hl
  replace hf := (ck_spec hf).2
  exact w_X8_moveAll_e X (z_i X) _ _ hf _ _ _ S hl
/-! RoomRings.moved()I -/
abbrev RM_X8_moved : Room := { frames := 5, cells := 0, slots := 0, locals := 115 }
def f_X8_moved_e  (a0 : Nat) (h : HP) : Option (Int32 × HP) :=
  (gR h a0 8 1).bind fun r1 =>
  (gI h r1 3 1).bind fun v2 =>
  if v2 = 0 then
    some ((-1000000003), h)
  else
    (gR h a0 8 5).bind fun r3 =>
    (gR h a0 8 1).bind fun r4 =>
    (f_X6_push r3 r4 h).bind fun h5 =>
    (f_X8_moveAll a0 h5).bind fun q6 =>
    some (q6.1, q6.2)
set_option maxRecDepth 100000 in
set_option maxHeartbeats 4000000 in
theorem w_X8_moved_e (X : CX RX8 cX8_moved 1 (some .int) p s m args meth c G b) {out : Int32 × HP} (Z : ZI p l e RM_X8_moved s m args below meth c cX8_moved G b False 0 0 Q out)  : ∀ (a0 : Nat) (h : HP), f_X8_moved_e  a0 h = some out → ∀ (H : Heap) (locs : List Loc) (ls : Array Slot), ST G b False s h H locs → lv_has ls 1 [(0, .ref (b + a0))] → W p l e RM_X8_moved s m args below meth c H locs 0 0 Q (F0 m 0 ls []) := by
  intro a0 h hf H locs ls S hl
  unfold f_X8_moved_e at hf
  have hx := X.1
  have hb := X.2.1
  refine lv_aload_n hx hb dX8_moved_0 rfl (lv_at hl 0 rfl) ?_
  obtain ⟨r1, e_r1, hf⟩ := ob hf
  refine r_getR X S fl_X8_19 e_r1 dX8_moved_1 ?_
  obtain ⟨v2, e_v2, hf⟩ := ob hf
  refine r_getI X S fl_X8_90 e_v2 dX8_moved_4 ?_
  refine lv_if_ne (tgt := 13) hx hb dX8_moved_7 (by decide) (fun hc => ?_) (fun hc => ?_)
  · replace hf := im hf hc
    refine lv_aload_n hx hb dX8_moved_13 rfl (lv_at hl 0 rfl) ?_
    obtain ⟨r3, e_r3, hf⟩ := ob hf
    refine r_getR X S fl_X8_43 e_r3 dX8_moved_14 ?_
    refine lv_aload_n hx hb dX8_moved_17 rfl (lv_at hl 0 rfl) ?_
    obtain ⟨r4, e_r4, hf⟩ := ob hf
    refine r_getR X S fl_X8_19 e_r4 dX8_moved_18 ?_
    obtain ⟨h5, e_h5, hf⟩ := ob hf
    refine r_callV X S hl.1 (As := [.ref (b + r4)]) (rest := []) (c_X6_push e_h5) my_X6_push mv_X6_push ml_X8_182 rfl (o_X6_push e_h5) ⟨rfl, rfl, Nat.le_of_ble_eq_true rfl, Nat.le_of_ble_eq_true rfl⟩ rfl rfl (Nat.le_of_ble_eq_true rfl) dX8_moved_21 ⟨Nat.le_of_ble_eq_true rfl, Nat.le_of_ble_eq_true rfl⟩ (fun H locs S => ?_)
    refine W.eq (g2 := F0 m 24 ls []) rfl ?_
    refine lv_aload_n hx hb dX8_moved_24 rfl (lv_at hl 0 rfl) ?_
    obtain ⟨q6, e_q6, hf⟩ := ob hf
    refine r_callV X S hl.1 (As := []) (rest := []) (c_X8_moveAll e_q6) my_X8_moveAll mv_X8_moveAll ml_X8_200 rfl (o_X8_moveAll e_q6) ⟨rfl, rfl, Nat.le_of_ble_eq_true rfl, Nat.le_of_ble_eq_true rfl⟩ rfl rfl (Nat.le_of_ble_eq_true rfl) dX8_moved_25 ⟨Nat.le_of_ble_eq_true rfl, Nat.le_of_ble_eq_true rfl⟩ (fun H locs S => ?_)
    refine W.eq (g2 := F0 m 28 ls [.int q6.1]) rfl ?_
    obtain rfl := Option.some.inj hf
    exact Z _ _ _ _ dX8_moved_28 S
  · replace hf := ip hf hc
    refine lv_ldc (v := (-1000000003)) hx hb X.2.2.2.1 (X.2.2.2.2.1 _ cn_X8_192) dX8_moved_10 ?_
    obtain rfl := Option.some.inj hf
    exact Z _ _ _ _ dX8_moved_12 S
def f_X8_moved (a0 : Nat) (h : HP) : Option (Int32 × HP) := ck h a0 8 (f_X8_moved_e a0 h)
theorem o_X8_moved {a0 : Nat} {h : HP} {out : Int32 × HP} (hf : f_X8_moved a0 h = some out) : ∃ fs, h[a0]? = some (.inl (8, fs)) := (ck_spec hf).1
set_option maxRecDepth 100000 in
theorem c_X8_moved {l : Launch} {G : GT} {b : Nat} {a0 : Nat} {h : HP} {out : Int32 × HP} (hf : f_X8_moved a0 h = some out) : MT l G b False False yX8_moved cX8_moved 1 (some .int) RM_X8_moved [.ref (b + a0)] h (some (.int out.1)) out.2 0 0 := by
  refine met_of (by decide) (Nat.le_of_ble_eq_true rfl) ?_
  intro p e s m below meth c ls X hnm S hl
  have hl : lv_has ls 1 [(0, .ref (b + a0))] := hl
  replace hf := (ck_spec hf).2
  exact w_X8_moved_e X (z_i X) _ _ hf _ _ _ S hl
/-! RoomRings.leave(I)I -/
abbrev RM_X8_leave : Room := { frames := 3, cells := 0, slots := 0, locals := 61 }
def f_X8_leave_e  (a0 : Nat) (x1 : Int32) (h : HP) : Option (Int32 × HP) :=
  (gR h a0 8 1).bind fun r1 =>
  (f_X3_hasPerson r1 x1 h).bind fun q2 =>
  if q2.1 = 0 then
    some ((-1000000001), q2.2)
  else
    (gR q2.2 a0 8 1).bind fun r3 =>
    (f_X3_seatOf r3 x1 q2.2).bind fun q4 =>
    if q4.1 = (-1) then
      some ((-1000000003), q4.2)
    else
      (gR q4.2 a0 8 5).bind fun r5 =>
      (gR q4.2 a0 8 1).bind fun r6 =>
      (f_X6_push r5 r6 q4.2).bind fun h7 =>
      (gR h7 a0 8 1).bind fun r8 =>
      (f_X3_seat r8 x1 (-1) h7).bind fun h9 =>
      some (q4.1, h9)
set_option maxRecDepth 100000 in
set_option maxHeartbeats 4000000 in
theorem w_X8_leave_e (X : CX RX8 cX8_leave 3 (some .int) p s m args meth c G b) {out : Int32 × HP} (Z : ZI p l e RM_X8_leave s m args below meth c cX8_leave G b False 0 0 Q out)  : ∀ (a0 : Nat) (x1 : Int32) (h : HP), f_X8_leave_e  a0 x1 h = some out → ∀ (H : Heap) (locs : List Loc) (ls : Array Slot), ST G b False s h H locs → lv_has ls 3 [(0, .ref (b + a0)), (1, .int x1)] → W p l e RM_X8_leave s m args below meth c H locs 0 0 Q (F0 m 0 ls []) := by
  intro a0 x1 h hf H locs ls S hl
  unfold f_X8_leave_e at hf
  have hx := X.1
  have hb := X.2.1
  refine lv_aload_n hx hb dX8_leave_0 rfl (lv_at hl 0 rfl) ?_
  obtain ⟨r1, e_r1, hf⟩ := ob hf
  refine r_getR X S fl_X8_19 e_r1 dX8_leave_1 ?_
  refine lv_iload_n hx hb dX8_leave_4 rfl (lv_at hl 1 rfl) ?_
  obtain ⟨q2, e_q2, hf⟩ := ob hf
  refine r_callV X S hl.1 (As := [.int x1]) (rest := []) (c_X3_hasPerson e_q2) my_X3_hasPerson mv_X3_hasPerson ml_X8_139 rfl (o_X3_hasPerson e_q2) ⟨rfl, rfl, Nat.le_of_ble_eq_true rfl, Nat.le_of_ble_eq_true rfl⟩ rfl rfl (Nat.le_of_ble_eq_true rfl) dX8_leave_5 ⟨Nat.le_of_ble_eq_true rfl, Nat.le_of_ble_eq_true rfl⟩ (fun H locs S => ?_)
  refine W.eq (g2 := F0 m 8 ls [.int q2.1]) rfl ?_
  refine lv_if_ne (tgt := 14) hx hb dX8_leave_8 (by decide) (fun hc => ?_) (fun hc => ?_)
  · replace hf := im hf hc
    refine lv_aload_n hx hb dX8_leave_14 rfl (lv_at hl 0 rfl) ?_
    obtain ⟨r3, e_r3, hf⟩ := ob hf
    refine r_getR X S fl_X8_19 e_r3 dX8_leave_15 ?_
    refine lv_iload_n hx hb dX8_leave_18 rfl (lv_at hl 1 rfl) ?_
    obtain ⟨q4, e_q4, hf⟩ := ob hf
    refine r_callV X S hl.1 (As := [.int x1]) (rest := []) (c_X3_seatOf e_q4) my_X3_seatOf mv_X3_seatOf ml_X8_144 rfl (o_X3_seatOf e_q4) ⟨rfl, rfl, Nat.le_of_ble_eq_true rfl, Nat.le_of_ble_eq_true rfl⟩ rfl rfl (Nat.le_of_ble_eq_true rfl) dX8_leave_19 ⟨Nat.le_of_ble_eq_true rfl, Nat.le_of_ble_eq_true rfl⟩ (fun H locs S => ?_)
    refine W.eq (g2 := F0 m 22 ls [.int q4.1]) rfl ?_
    refine lv_istore_n (lv' := [(2, .int q4.1), (0, .ref (b + a0)), (1, .int x1)]) hx hb dX8_leave_22 rfl hl (by decide) rfl (fun ls hl => ?_)
    refine lv_iload_n hx hb dX8_leave_23 rfl (lv_at hl 0 rfl) ?_
    refine lv_iconst (v := (-1)) hx hb dX8_leave_24 (by decide) ?_
    refine lv_icmp_ne (tgt := 31) hx hb dX8_leave_25 (by decide) (fun hc => ?_) (fun hc => ?_)
    · replace hf := im hf hc
      refine lv_aload_n hx hb dX8_leave_31 rfl (lv_at hl 1 rfl) ?_
      obtain ⟨r5, e_r5, hf⟩ := ob hf
      refine r_getR X S fl_X8_43 e_r5 dX8_leave_32 ?_
      refine lv_aload_n hx hb dX8_leave_35 rfl (lv_at hl 1 rfl) ?_
      obtain ⟨r6, e_r6, hf⟩ := ob hf
      refine r_getR X S fl_X8_19 e_r6 dX8_leave_36 ?_
      obtain ⟨h7, e_h7, hf⟩ := ob hf
      refine r_callV X S hl.1 (As := [.ref (b + r6)]) (rest := []) (c_X6_push e_h7) my_X6_push mv_X6_push ml_X8_182 rfl (o_X6_push e_h7) ⟨rfl, rfl, Nat.le_of_ble_eq_true rfl, Nat.le_of_ble_eq_true rfl⟩ rfl rfl (Nat.le_of_ble_eq_true rfl) dX8_leave_39 ⟨Nat.le_of_ble_eq_true rfl, Nat.le_of_ble_eq_true rfl⟩ (fun H locs S => ?_)
      refine W.eq (g2 := F0 m 42 ls []) rfl ?_
      refine lv_aload_n hx hb dX8_leave_42 rfl (lv_at hl 1 rfl) ?_
      obtain ⟨r8, e_r8, hf⟩ := ob hf
      refine r_getR X S fl_X8_19 e_r8 dX8_leave_43 ?_
      refine lv_iload_n hx hb dX8_leave_46 rfl (lv_at hl 2 rfl) ?_
      refine lv_iconst (v := (-1)) hx hb dX8_leave_47 (by decide) ?_
      obtain ⟨h9, e_h9, hf⟩ := ob hf
      refine r_callV X S hl.1 (As := [.int x1, .int (-1)]) (rest := []) (c_X3_seat e_h9) my_X3_seat mv_X3_seat ml_X8_203 rfl (o_X3_seat e_h9) ⟨rfl, rfl, Nat.le_of_ble_eq_true rfl, Nat.le_of_ble_eq_true rfl⟩ rfl rfl (Nat.le_of_ble_eq_true rfl) dX8_leave_48 ⟨Nat.le_of_ble_eq_true rfl, Nat.le_of_ble_eq_true rfl⟩ (fun H locs S => ?_)
      refine W.eq (g2 := F0 m 51 ls []) rfl ?_
      refine lv_iload_n hx hb dX8_leave_51 rfl (lv_at hl 0 rfl) ?_
      obtain rfl := Option.some.inj hf
      exact Z _ _ _ _ dX8_leave_52 S
    · replace hf := ip hf hc
      refine lv_ldc (v := (-1000000003)) hx hb X.2.2.2.1 (X.2.2.2.2.1 _ cn_X8_192) dX8_leave_28 ?_
      obtain rfl := Option.some.inj hf
      exact Z _ _ _ _ dX8_leave_30 S
  · replace hf := ip hf hc
    refine lv_ldc (v := (-1000000001)) hx hb X.2.2.2.1 (X.2.2.2.2.1 _ cn_X8_143) dX8_leave_11 ?_
    obtain rfl := Option.some.inj hf
    exact Z _ _ _ _ dX8_leave_13 S
def f_X8_leave (a0 : Nat) (x1 : Int32) (h : HP) : Option (Int32 × HP) := ck h a0 8 (f_X8_leave_e a0 x1 h)
theorem o_X8_leave {a0 : Nat} {x1 : Int32} {h : HP} {out : Int32 × HP} (hf : f_X8_leave a0 x1 h = some out) : ∃ fs, h[a0]? = some (.inl (8, fs)) := (ck_spec hf).1
set_option maxRecDepth 100000 in
theorem c_X8_leave {l : Launch} {G : GT} {b : Nat} {a0 : Nat} {x1 : Int32} {h : HP} {out : Int32 × HP} (hf : f_X8_leave a0 x1 h = some out) : MT l G b False False yX8_leave cX8_leave 3 (some .int) RM_X8_leave [.ref (b + a0), .int x1] h (some (.int out.1)) out.2 0 0 := by
  refine met_of (by decide) (Nat.le_of_ble_eq_true rfl) ?_
  intro p e s m below meth c ls X hnm S hl
  have hl : lv_has ls 3 [(0, .ref (b + a0)), (1, .int x1)] := hl
  replace hf := (ck_spec hf).2
  exact w_X8_leave_e X (z_i X) _ _ _ hf _ _ _ S hl
/-! RoomRings.drawDeed()V -/
abbrev RM_X8_drawDeed : Room := { frames := 5, cells := 0, slots := 0, locals := 115 }
def f_X8_drawDeed_b129   (h : HP) : Option (HP) :=
  some h
set_option maxRecDepth 100000 in
set_option maxHeartbeats 4000000 in
theorem w_X8_drawDeed_b129 (X : CX RX8 cX8_drawDeed 4 none p s m args meth c G b) {out : HP} (Z : ZV p l e RM_X8_drawDeed s m args below meth c cX8_drawDeed G b False 0 0 Q out)  : ∀  (h : HP), f_X8_drawDeed_b129   h = some out → ∀ (H : Heap) (locs : List Loc) (ls : Array Slot), ST G b False s h H locs → lv_has ls 4 [] → W p l e RM_X8_drawDeed s m args below meth c H locs 0 0 Q (F0 m 129 ls []) := by
  intro  h hf H locs ls S hl
  unfold f_X8_drawDeed_b129 at hf
  have hx := X.1
  have hb := X.2.1
  obtain rfl := Option.some.inj hf
  exact Z _ _ _ _ dX8_drawDeed_129 S
def f_X8_drawDeed_e  (a0 : Nat) (h : HP) : Option (HP) :=
  (gR h a0 8 7).bind fun r1 =>
  (f_X2_draw r1 4 h).bind fun q2 =>
  (gR q2.2 a0 8 7).bind fun r3 =>
  (gR q2.2 a0 8 1).bind fun r4 =>
  (gI q2.2 r4 3 1).bind fun v5 =>
  (f_X2_draw r3 v5 q2.2).bind fun q6 =>
  if q2.1 = 0 then
    (gR q6.2 a0 8 7).bind fun r7 =>
    (gR q6.2 a0 8 1).bind fun r8 =>
    (gI q6.2 r8 3 0).bind fun v9 =>
    (f_X2_draw r7 v9 q6.2).bind fun q10 =>
    (gR q10.2 a0 8 1).bind fun r11 =>
    (gR q10.2 a0 8 7).bind fun r12 =>
    (f_X2_draw r12 8 q10.2).bind fun q13 =>
    (f_X3_putLiking r11 q6.1 q10.1 q13.1 q13.2).bind fun h14 =>
    f_X8_drawDeed_b129   h14
  else
    if q2.1 = 1 then
      (gR q6.2 a0 8 1).bind fun r15 =>
      (gR q6.2 a0 8 7).bind fun r16 =>
      (gR q6.2 a0 8 1).bind fun r17 =>
      (gI q6.2 r17 3 0).bind fun v18 =>
      (f_X2_draw r16 v18 q6.2).bind fun q19 =>
      (f_X3_dropLiking r15 q6.1 q19.1 q19.2).bind fun h20 =>
      f_X8_drawDeed_b129   h20
    else
      if q2.1 = 2 then
        (gR q6.2 a0 8 1).bind fun r21 =>
        (gR q6.2 a0 8 7).bind fun r22 =>
        (gR q6.2 a0 8 1).bind fun r23 =>
        (gI q6.2 r23 3 1).bind fun v24 =>
        (f_X2_draw r22 v24 q6.2).bind fun q25 =>
        (f_X3_toPlace r21 q6.1 q25.1 q25.2).bind fun h26 =>
        f_X8_drawDeed_b129   h26
      else
        (f_X8_moveAll a0 q6.2).bind fun q27 =>
        f_X8_drawDeed_b129   q27.2
set_option maxRecDepth 100000 in
set_option maxHeartbeats 4000000 in
theorem w_X8_drawDeed_e (X : CX RX8 cX8_drawDeed 4 none p s m args meth c G b) {out : HP} (Z : ZV p l e RM_X8_drawDeed s m args below meth c cX8_drawDeed G b False 0 0 Q out)  : ∀ (a0 : Nat) (h : HP), f_X8_drawDeed_e  a0 h = some out → ∀ (H : Heap) (locs : List Loc) (ls : Array Slot), ST G b False s h H locs → lv_has ls 4 [(0, .ref (b + a0))] → W p l e RM_X8_drawDeed s m args below meth c H locs 0 0 Q (F0 m 0 ls []) := by
  intro a0 h hf H locs ls S hl
  unfold f_X8_drawDeed_e at hf
  have hx := X.1
  have hb := X.2.1
  refine lv_aload_n hx hb dX8_drawDeed_0 rfl (lv_at hl 0 rfl) ?_
  obtain ⟨r1, e_r1, hf⟩ := ob hf
  refine r_getR X S fl_X8_57 e_r1 dX8_drawDeed_1 ?_
  refine lv_iconst (v := 4) hx hb dX8_drawDeed_4 (by decide) ?_
  obtain ⟨q2, e_q2, hf⟩ := ob hf
  refine r_callV X S hl.1 (As := [.int 4]) (rest := []) (c_X2_draw e_q2) my_X2_draw mv_X2_draw ml_X8_285 rfl (o_X2_draw e_q2) ⟨rfl, rfl, Nat.le_of_ble_eq_true rfl, Nat.le_of_ble_eq_true rfl⟩ rfl rfl (Nat.le_of_ble_eq_true rfl) dX8_drawDeed_5 ⟨Nat.le_of_ble_eq_true rfl, Nat.le_of_ble_eq_true rfl⟩ (fun H locs S => ?_)
  refine W.eq (g2 := F0 m 8 ls [.int q2.1]) rfl ?_
  refine lv_istore_n (lv' := [(1, .int q2.1), (0, .ref (b + a0))]) hx hb dX8_drawDeed_8 rfl hl (by decide) rfl (fun ls hl => ?_)
  refine lv_aload_n hx hb dX8_drawDeed_9 rfl (lv_at hl 1 rfl) ?_
  obtain ⟨r3, e_r3, hf⟩ := ob hf
  refine r_getR X S fl_X8_57 e_r3 dX8_drawDeed_10 ?_
  refine lv_aload_n hx hb dX8_drawDeed_13 rfl (lv_at hl 1 rfl) ?_
  obtain ⟨r4, e_r4, hf⟩ := ob hf
  refine r_getR X S fl_X8_19 e_r4 dX8_drawDeed_14 ?_
  obtain ⟨v5, e_v5, hf⟩ := ob hf
  refine r_getI X S fl_X8_90 e_v5 dX8_drawDeed_17 ?_
  obtain ⟨q6, e_q6, hf⟩ := ob hf
  refine r_callV X S hl.1 (As := [.int v5]) (rest := []) (c_X2_draw e_q6) my_X2_draw mv_X2_draw ml_X8_285 rfl (o_X2_draw e_q6) ⟨rfl, rfl, Nat.le_of_ble_eq_true rfl, Nat.le_of_ble_eq_true rfl⟩ rfl rfl (Nat.le_of_ble_eq_true rfl) dX8_drawDeed_20 ⟨Nat.le_of_ble_eq_true rfl, Nat.le_of_ble_eq_true rfl⟩ (fun H locs S => ?_)
  refine W.eq (g2 := F0 m 23 ls [.int q6.1]) rfl ?_
  refine lv_istore_n (lv' := [(2, .int q6.1), (1, .int q2.1), (0, .ref (b + a0))]) hx hb dX8_drawDeed_23 rfl hl (by decide) rfl (fun ls hl => ?_)
  refine lv_iload_n hx hb dX8_drawDeed_24 rfl (lv_at hl 1 rfl) ?_
  refine lv_if_ne (tgt := 64) hx hb dX8_drawDeed_25 (by decide) (fun hc => ?_) (fun hc => ?_)
  · replace hf := im hf hc
    refine lv_iload_n hx hb dX8_drawDeed_64 rfl (lv_at hl 1 rfl) ?_
    refine lv_iconst (v := 1) hx hb dX8_drawDeed_65 (by decide) ?_
    refine lv_icmp_ne (tgt := 94) hx hb dX8_drawDeed_66 (by decide) (fun hc => ?_) (fun hc => ?_)
    · replace hf := im hf hc
      refine lv_iload_n hx hb dX8_drawDeed_94 rfl (lv_at hl 1 rfl) ?_
      refine lv_iconst (v := 2) hx hb dX8_drawDeed_95 (by decide) ?_
      refine lv_icmp_ne (tgt := 124) hx hb dX8_drawDeed_96 (by decide) (fun hc => ?_) (fun hc => ?_)
      · replace hf := im hf hc
        refine lv_aload_n hx hb dX8_drawDeed_124 rfl (lv_at hl 2 rfl) ?_
        obtain ⟨q27, e_q27, hf⟩ := ob hf
        refine r_callV X S hl.1 (As := []) (rest := []) (c_X8_moveAll e_q27) my_X8_moveAll mv_X8_moveAll ml_X8_200 rfl (o_X8_moveAll e_q27) ⟨rfl, rfl, Nat.le_of_ble_eq_true rfl, Nat.le_of_ble_eq_true rfl⟩ rfl rfl (Nat.le_of_ble_eq_true rfl) dX8_drawDeed_125 ⟨Nat.le_of_ble_eq_true rfl, Nat.le_of_ble_eq_true rfl⟩ (fun H locs S => ?_)
        refine W.eq (g2 := F0 m 128 ls [.int q27.1]) rfl ?_
        refine lv_pop hx hb dX8_drawDeed_128 rfl ?_
        exact w_X8_drawDeed_b129 X Z  _ hf _ _ _ S (lv_sub hl [] rfl)
      · replace hf := ip hf hc
        refine lv_aload_n hx hb dX8_drawDeed_99 rfl (lv_at hl 2 rfl) ?_
        obtain ⟨r21, e_r21, hf⟩ := ob hf
        refine r_getR X S fl_X8_19 e_r21 dX8_drawDeed_100 ?_
        refine lv_iload_n hx hb dX8_drawDeed_103 rfl (lv_at hl 0 rfl) ?_
        refine lv_aload_n hx hb dX8_drawDeed_104 rfl (lv_at hl 2 rfl) ?_
        obtain ⟨r22, e_r22, hf⟩ := ob hf
        refine r_getR X S fl_X8_57 e_r22 dX8_drawDeed_105 ?_
        refine lv_aload_n hx hb dX8_drawDeed_108 rfl (lv_at hl 2 rfl) ?_
        obtain ⟨r23, e_r23, hf⟩ := ob hf
        refine r_getR X S fl_X8_19 e_r23 dX8_drawDeed_109 ?_
        obtain ⟨v24, e_v24, hf⟩ := ob hf
        refine r_getI X S fl_X8_90 e_v24 dX8_drawDeed_112 ?_
        obtain ⟨q25, e_q25, hf⟩ := ob hf
        refine r_callV X S hl.1 (As := [.int v24]) (rest := [.int q6.1, .ref (b + r21)]) (c_X2_draw e_q25) my_X2_draw mv_X2_draw ml_X8_285 rfl (o_X2_draw e_q25) ⟨rfl, rfl, Nat.le_of_ble_eq_true rfl, Nat.le_of_ble_eq_true rfl⟩ rfl rfl (Nat.le_of_ble_eq_true rfl) dX8_drawDeed_115 ⟨Nat.le_of_ble_eq_true rfl, Nat.le_of_ble_eq_true rfl⟩ (fun H locs S => ?_)
        refine W.eq (g2 := F0 m 118 ls [.int q25.1, .int q6.1, .ref (b + r21)]) rfl ?_
        obtain ⟨h26, e_h26, hf⟩ := ob hf
        refine r_callV X S hl.1 (As := [.int q6.1, .int q25.1]) (rest := []) (c_X3_toPlace e_h26) my_X3_toPlace mv_X3_toPlace ml_X8_197 rfl (o_X3_toPlace e_h26) ⟨rfl, rfl, Nat.le_of_ble_eq_true rfl, Nat.le_of_ble_eq_true rfl⟩ rfl rfl (Nat.le_of_ble_eq_true rfl) dX8_drawDeed_118 ⟨Nat.le_of_ble_eq_true rfl, Nat.le_of_ble_eq_true rfl⟩ (fun H locs S => ?_)
        refine W.eq (g2 := F0 m 121 ls []) rfl ?_
        refine lv_goto (tgt := 129) hx hb dX8_drawDeed_121 (by decide) ?_
        exact w_X8_drawDeed_b129 X Z  _ hf _ _ _ S (lv_sub hl [] rfl)
    · replace hf := ip hf hc
      refine lv_aload_n hx hb dX8_drawDeed_69 rfl (lv_at hl 2 rfl) ?_
      obtain ⟨r15, e_r15, hf⟩ := ob hf
      refine r_getR X S fl_X8_19 e_r15 dX8_drawDeed_70 ?_
      refine lv_iload_n hx hb dX8_drawDeed_73 rfl (lv_at hl 0 rfl) ?_
      refine lv_aload_n hx hb dX8_drawDeed_74 rfl (lv_at hl 2 rfl) ?_
      obtain ⟨r16, e_r16, hf⟩ := ob hf
      refine r_getR X S fl_X8_57 e_r16 dX8_drawDeed_75 ?_
      refine lv_aload_n hx hb dX8_drawDeed_78 rfl (lv_at hl 2 rfl) ?_
      obtain ⟨r17, e_r17, hf⟩ := ob hf
      refine r_getR X S fl_X8_19 e_r17 dX8_drawDeed_79 ?_
      obtain ⟨v18, e_v18, hf⟩ := ob hf
      refine r_getI X S fl_X8_97 e_v18 dX8_drawDeed_82 ?_
      obtain ⟨q19, e_q19, hf⟩ := ob hf
      refine r_callV X S hl.1 (As := [.int v18]) (rest := [.int q6.1, .ref (b + r15)]) (c_X2_draw e_q19) my_X2_draw mv_X2_draw ml_X8_285 rfl (o_X2_draw e_q19) ⟨rfl, rfl, Nat.le_of_ble_eq_true rfl, Nat.le_of_ble_eq_true rfl⟩ rfl rfl (Nat.le_of_ble_eq_true rfl) dX8_drawDeed_85 ⟨Nat.le_of_ble_eq_true rfl, Nat.le_of_ble_eq_true rfl⟩ (fun H locs S => ?_)
      refine W.eq (g2 := F0 m 88 ls [.int q19.1, .int q6.1, .ref (b + r15)]) rfl ?_
      obtain ⟨h20, e_h20, hf⟩ := ob hf
      refine r_callV X S hl.1 (As := [.int q6.1, .int q19.1]) (rest := []) (c_X3_dropLiking e_h20) my_X3_dropLiking mv_X3_dropLiking ml_X8_193 rfl (o_X3_dropLiking e_h20) ⟨rfl, rfl, Nat.le_of_ble_eq_true rfl, Nat.le_of_ble_eq_true rfl⟩ rfl rfl (Nat.le_of_ble_eq_true rfl) dX8_drawDeed_88 ⟨Nat.le_of_ble_eq_true rfl, Nat.le_of_ble_eq_true rfl⟩ (fun H locs S => ?_)
      refine W.eq (g2 := F0 m 91 ls []) rfl ?_
      refine lv_goto (tgt := 129) hx hb dX8_drawDeed_91 (by decide) ?_
      exact w_X8_drawDeed_b129 X Z  _ hf _ _ _ S (lv_sub hl [] rfl)
  · replace hf := ip hf hc
    refine lv_aload_n hx hb dX8_drawDeed_28 rfl (lv_at hl 2 rfl) ?_
    obtain ⟨r7, e_r7, hf⟩ := ob hf
    refine r_getR X S fl_X8_57 e_r7 dX8_drawDeed_29 ?_
    refine lv_aload_n hx hb dX8_drawDeed_32 rfl (lv_at hl 2 rfl) ?_
    obtain ⟨r8, e_r8, hf⟩ := ob hf
    refine r_getR X S fl_X8_19 e_r8 dX8_drawDeed_33 ?_
    obtain ⟨v9, e_v9, hf⟩ := ob hf
    refine r_getI X S fl_X8_97 e_v9 dX8_drawDeed_36 ?_
    obtain ⟨q10, e_q10, hf⟩ := ob hf
    refine r_callV X S hl.1 (As := [.int v9]) (rest := []) (c_X2_draw e_q10) my_X2_draw mv_X2_draw ml_X8_285 rfl (o_X2_draw e_q10) ⟨rfl, rfl, Nat.le_of_ble_eq_true rfl, Nat.le_of_ble_eq_true rfl⟩ rfl rfl (Nat.le_of_ble_eq_true rfl) dX8_drawDeed_39 ⟨Nat.le_of_ble_eq_true rfl, Nat.le_of_ble_eq_true rfl⟩ (fun H locs S => ?_)
    refine W.eq (g2 := F0 m 42 ls [.int q10.1]) rfl ?_
    refine lv_istore_n (lv' := [(3, .int q10.1), (2, .int q6.1), (1, .int q2.1), (0, .ref (b + a0))]) hx hb dX8_drawDeed_42 rfl hl (by decide) rfl (fun ls hl => ?_)
    refine lv_aload_n hx hb dX8_drawDeed_43 rfl (lv_at hl 3 rfl) ?_
    obtain ⟨r11, e_r11, hf⟩ := ob hf
    refine r_getR X S fl_X8_19 e_r11 dX8_drawDeed_44 ?_
    refine lv_iload_n hx hb dX8_drawDeed_47 rfl (lv_at hl 1 rfl) ?_
    refine lv_iload_n hx hb dX8_drawDeed_48 rfl (lv_at hl 0 rfl) ?_
    refine lv_aload_n hx hb dX8_drawDeed_49 rfl (lv_at hl 3 rfl) ?_
    obtain ⟨r12, e_r12, hf⟩ := ob hf
    refine r_getR X S fl_X8_57 e_r12 dX8_drawDeed_50 ?_
    refine lv_bipush (v := 8) hx hb dX8_drawDeed_53 (by decide) ?_
    obtain ⟨q13, e_q13, hf⟩ := ob hf
    refine r_callV X S hl.1 (As := [.int 8]) (rest := [.int q10.1, .int q6.1, .ref (b + r11)]) (c_X2_draw e_q13) my_X2_draw mv_X2_draw ml_X8_285 rfl (o_X2_draw e_q13) ⟨rfl, rfl, Nat.le_of_ble_eq_true rfl, Nat.le_of_ble_eq_true rfl⟩ rfl rfl (Nat.le_of_ble_eq_true rfl) dX8_drawDeed_55 ⟨Nat.le_of_ble_eq_true rfl, Nat.le_of_ble_eq_true rfl⟩ (fun H locs S => ?_)
    refine W.eq (g2 := F0 m 58 ls [.int q13.1, .int q10.1, .int q6.1, .ref (b + r11)]) rfl ?_
    obtain ⟨h14, e_h14, hf⟩ := ob hf
    refine r_callV X S hl.1 (As := [.int q6.1, .int q10.1, .int q13.1]) (rest := []) (c_X3_putLiking e_h14) my_X3_putLiking mv_X3_putLiking ml_X8_185 rfl (o_X3_putLiking e_h14) ⟨rfl, rfl, Nat.le_of_ble_eq_true rfl, Nat.le_of_ble_eq_true rfl⟩ rfl rfl (Nat.le_of_ble_eq_true rfl) dX8_drawDeed_58 ⟨Nat.le_of_ble_eq_true rfl, Nat.le_of_ble_eq_true rfl⟩ (fun H locs S => ?_)
    refine W.eq (g2 := F0 m 61 ls []) rfl ?_
    refine lv_goto (tgt := 129) hx hb dX8_drawDeed_61 (by decide) ?_
    exact w_X8_drawDeed_b129 X Z  _ hf _ _ _ S (lv_sub hl [] rfl)
def f_X8_drawDeed (a0 : Nat) (h : HP) : Option (HP) := ck h a0 8 (f_X8_drawDeed_e a0 h)
theorem o_X8_drawDeed {a0 : Nat} {h : HP} {out : HP} (hf : f_X8_drawDeed a0 h = some out) : ∃ fs, h[a0]? = some (.inl (8, fs)) := (ck_spec hf).1
set_option maxRecDepth 100000 in
theorem c_X8_drawDeed {l : Launch} {G : GT} {b : Nat} {a0 : Nat} {h : HP} {out : HP} (hf : f_X8_drawDeed a0 h = some out) : MT l G b False False yX8_drawDeed cX8_drawDeed 4 none RM_X8_drawDeed [.ref (b + a0)] h none out 0 0 := by
  refine met_of (by decide) (Nat.le_of_ble_eq_true rfl) ?_
  intro p e s m below meth c ls X hnm S hl
  have hl : lv_has ls 4 [(0, .ref (b + a0))] := hl
  replace hf := (ck_spec hf).2
  exact w_X8_drawDeed_e X (z_v X) _ _ hf _ _ _ S hl
/-! RoomRings.drift(I)I -/
abbrev RM_X8_drift : Room := { frames := 6, cells := 0, slots := 0, locals := 138 }
def f_X8_drift_b11   (h : HP) : Option (Int32 × HP) :=
  some ((-1000000002), h)
set_option maxRecDepth 100000 in
set_option maxHeartbeats 4000000 in
theorem w_X8_drift_b11 (X : CX RX8 cX8_drift 3 (some .int) p s m args meth c G b) {out : Int32 × HP} (Z : ZI p l e RM_X8_drift s m args below meth c cX8_drift G b False 0 0 Q out)  : ∀  (h : HP), f_X8_drift_b11   h = some out → ∀ (H : Heap) (locs : List Loc) (ls : Array Slot), ST G b False s h H locs → lv_has ls 3 [] → W p l e RM_X8_drift s m args below meth c H locs 0 0 Q (F0 m 11 ls []) := by
  intro  h hf H locs ls S hl
  unfold f_X8_drift_b11 at hf
  have hx := X.1
  have hb := X.2.1
  refine lv_ldc (v := (-1000000002)) hx hb X.2.2.2.1 (X.2.2.2.2.1 _ cn_X8_68) dX8_drift_11 ?_
  obtain rfl := Option.some.inj hf
  exact Z _ _ _ _ dX8_drift_13 S
def f_X8_drift_b65  (a0 : Nat) (h : HP) : Option (Int32 × HP) :=
  (gR h a0 8 1).bind fun r1 =>
  (f_X3_emptyRooms r1 h).bind fun q2 =>
  (f_J6_bitCount_0f7a4 q2.1 q2.2).bind fun q3 =>
  some (q3.1, q3.2)
set_option maxRecDepth 100000 in
set_option maxHeartbeats 4000000 in
theorem w_X8_drift_b65 (X : CX RX8 cX8_drift 3 (some .int) p s m args meth c G b) {out : Int32 × HP} (Z : ZI p l e RM_X8_drift s m args below meth c cX8_drift G b False 0 0 Q out)  : ∀ (a0 : Nat) (h : HP), f_X8_drift_b65  a0 h = some out → ∀ (H : Heap) (locs : List Loc) (ls : Array Slot), ST G b False s h H locs → lv_has ls 3 [(0, .ref (b + a0))] → W p l e RM_X8_drift s m args below meth c H locs 0 0 Q (F0 m 65 ls []) := by
  intro a0 h hf H locs ls S hl
  unfold f_X8_drift_b65 at hf
  have hx := X.1
  have hb := X.2.1
  refine lv_aload_n hx hb dX8_drift_65 rfl (lv_at hl 0 rfl) ?_
  obtain ⟨r1, e_r1, hf⟩ := ob hf
  refine r_getR X S fl_X8_19 e_r1 dX8_drift_66 ?_
  obtain ⟨q2, e_q2, hf⟩ := ob hf
  refine r_callV X S hl.1 (As := []) (rest := []) (c_X3_emptyRooms e_q2) my_X3_emptyRooms mv_X3_emptyRooms ml_X8_116 rfl (o_X3_emptyRooms e_q2) ⟨rfl, rfl, Nat.le_of_ble_eq_true rfl, Nat.le_of_ble_eq_true rfl⟩ rfl rfl (Nat.le_of_ble_eq_true rfl) dX8_drift_69 ⟨Nat.le_of_ble_eq_true rfl, Nat.le_of_ble_eq_true rfl⟩ (fun H locs S => ?_)
  refine W.eq (g2 := F0 m 72 ls [.int q2.1]) rfl ?_
  obtain ⟨q3, e_q3, hf⟩ := ob hf
  refine r_callS X S hl.1 (As := [.int q2.1]) (rest := []) (c_J6_bitCount_0f7a4 e_q3) my_J6_bitCount_0f7a4 ms_J6_bitCount_0f7a4 ml_X8_209 ⟨rfl, rfl, Nat.le_of_ble_eq_true rfl, Nat.le_of_ble_eq_true rfl⟩ rfl rfl (Nat.le_of_ble_eq_true rfl) dX8_drift_72 ⟨Nat.le_of_ble_eq_true rfl, Nat.le_of_ble_eq_true rfl⟩ (fun H locs S => ?_)
  refine W.eq (g2 := F0 m 75 ls [.int q3.1]) rfl ?_
  obtain rfl := Option.some.inj hf
  exact Z _ _ _ _ dX8_drift_75 S
def f_X8_drift_b29 (K29 : Nat → Int32 → Int32 → HP → Option (Int32 × HP)) (a0 : Nat) (x1 : Int32) (x2 : Int32) (h : HP) : Option (Int32 × HP) :=
  if x1 ≤ x2 then
    f_X8_drift_b65  a0 h
  else
    (gR h a0 8 1).bind fun r1 =>
    (gI h r1 3 1).bind fun v2 =>
    if v2 ≤ 0 then
      f_X8_drift_b65  a0 h
    else
      (gR h a0 8 5).bind fun r3 =>
      (gR h a0 8 1).bind fun r4 =>
      (f_X6_push r3 r4 h).bind fun h5 =>
      (f_X8_drawDeed a0 h5).bind fun h6 =>
      K29 a0 x1 (x2 + 1) h6
set_option maxRecDepth 100000 in
set_option maxHeartbeats 4000000 in
theorem w_X8_drift_b29 (X : CX RX8 cX8_drift 3 (some .int) p s m args meth c G b) {out : Int32 × HP} (Z : ZI p l e RM_X8_drift s m args below meth c cX8_drift G b False 0 0 Q out) {K29 : Nat → Int32 → Int32 → HP → Option (Int32 × HP)} (hK29 : ∀ (a0 : Nat) (x1 : Int32) (x2 : Int32) (h : HP), K29 a0 x1 x2 h = some out → ∀ (H : Heap) (locs : List Loc) (ls : Array Slot), ST G b False s h H locs → lv_has ls 3 [(0, .ref (b + a0)), (1, .int x1), (2, .int x2)] → W p l e RM_X8_drift s m args below meth c H locs 0 0 Q (F0 m 29 ls [])) : ∀ (a0 : Nat) (x1 : Int32) (x2 : Int32) (h : HP), f_X8_drift_b29 K29 a0 x1 x2 h = some out → ∀ (H : Heap) (locs : List Loc) (ls : Array Slot), ST G b False s h H locs → lv_has ls 3 [(0, .ref (b + a0)), (1, .int x1), (2, .int x2)] → W p l e RM_X8_drift s m args below meth c H locs 0 0 Q (F0 m 29 ls []) := by
  intro a0 x1 x2 h hf H locs ls S hl
  unfold f_X8_drift_b29 at hf
  have hx := X.1
  have hb := X.2.1
  refine lv_iload_n hx hb dX8_drift_29 rfl (lv_at hl 2 rfl) ?_
  refine lv_iload_n hx hb dX8_drift_30 rfl (lv_at hl 1 rfl) ?_
  refine lv_icmp_ge (tgt := 65) hx hb dX8_drift_31 (by decide) (fun hc => ?_) (fun hc => ?_)
  · replace hf := ip hf hc
    exact w_X8_drift_b65 X Z  _ _ hf _ _ _ S (lv_sub hl [0] rfl)
  · replace hf := im hf hc
    refine lv_aload_n hx hb dX8_drift_34 rfl (lv_at hl 0 rfl) ?_
    obtain ⟨r1, e_r1, hf⟩ := ob hf
    refine r_getR X S fl_X8_19 e_r1 dX8_drift_35 ?_
    obtain ⟨v2, e_v2, hf⟩ := ob hf
    refine r_getI X S fl_X8_90 e_v2 dX8_drift_38 ?_
    refine lv_if_le (tgt := 65) hx hb dX8_drift_41 (by decide) (fun hc => ?_) (fun hc => ?_)
    · replace hf := ip hf hc
      exact w_X8_drift_b65 X Z  _ _ hf _ _ _ S (lv_sub hl [0] rfl)
    · replace hf := im hf hc
      refine lv_aload_n hx hb dX8_drift_44 rfl (lv_at hl 0 rfl) ?_
      obtain ⟨r3, e_r3, hf⟩ := ob hf
      refine r_getR X S fl_X8_43 e_r3 dX8_drift_45 ?_
      refine lv_aload_n hx hb dX8_drift_48 rfl (lv_at hl 0 rfl) ?_
      obtain ⟨r4, e_r4, hf⟩ := ob hf
      refine r_getR X S fl_X8_19 e_r4 dX8_drift_49 ?_
      obtain ⟨h5, e_h5, hf⟩ := ob hf
      refine r_callV X S hl.1 (As := [.ref (b + r4)]) (rest := []) (c_X6_push e_h5) my_X6_push mv_X6_push ml_X8_182 rfl (o_X6_push e_h5) ⟨rfl, rfl, Nat.le_of_ble_eq_true rfl, Nat.le_of_ble_eq_true rfl⟩ rfl rfl (Nat.le_of_ble_eq_true rfl) dX8_drift_52 ⟨Nat.le_of_ble_eq_true rfl, Nat.le_of_ble_eq_true rfl⟩ (fun H locs S => ?_)
      refine W.eq (g2 := F0 m 55 ls []) rfl ?_
      refine lv_aload_n hx hb dX8_drift_55 rfl (lv_at hl 0 rfl) ?_
      obtain ⟨h6, e_h6, hf⟩ := ob hf
      refine r_callV X S hl.1 (As := []) (rest := []) (c_X8_drawDeed e_h6) my_X8_drawDeed mv_X8_drawDeed ml_X8_206 rfl (o_X8_drawDeed e_h6) ⟨rfl, rfl, Nat.le_of_ble_eq_true rfl, Nat.le_of_ble_eq_true rfl⟩ rfl rfl (Nat.le_of_ble_eq_true rfl) dX8_drift_56 ⟨Nat.le_of_ble_eq_true rfl, Nat.le_of_ble_eq_true rfl⟩ (fun H locs S => ?_)
      refine W.eq (g2 := F0 m 59 ls []) rfl ?_
      refine lv_iinc (v := x2 + 1) (lv' := [(2, .int (x2 + 1)), (0, .ref (b + a0)), (1, .int x1)]) hx hb dX8_drift_59 hl (k := 2) rfl rfl (by decide) rfl (fun ls hl => ?_)
      refine lv_goto (tgt := 29) hx hb dX8_drift_62 (by decide) ?_
      exact hK29 _ _ _ _ hf _ _ _ S (lv_sub hl [1, 2, 0] rfl)
def F_X8_drift_29  : Nat → Nat → Int32 → Int32 → HP → Option (Int32 × HP)
  | 0 => fun _ _ _ _ => none
  | n + 1 => fun a0 x1 x2 h => f_X8_drift_b29 (F_X8_drift_29  n) a0 x1 x2 h
theorem wl_X8_drift_29 (X : CX RX8 cX8_drift 3 (some .int) p s m args meth c G b) {out : Int32 × HP} (Z : ZI p l e RM_X8_drift s m args below meth c cX8_drift G b False 0 0 Q out)  : ∀ (n : Nat) (a0 : Nat) (x1 : Int32) (x2 : Int32) (h : HP), F_X8_drift_29  n a0 x1 x2 h = some out → ∀ (H : Heap) (locs : List Loc) (ls : Array Slot), ST G b False s h H locs → lv_has ls 3 [(0, .ref (b + a0)), (1, .int x1), (2, .int x2)] → W p l e RM_X8_drift s m args below meth c H locs 0 0 Q (F0 m 29 ls []) := by
  intro n
  induction n with
  | zero => intro a0 x1 x2 h hf; exact nn hf
  | succ n ih => exact w_X8_drift_b29 X Z ih
def f_X8_drift_e  (a0 : Nat) (x1 : Int32) (h : HP) : Option (Int32 × HP) :=
  if x1 < 1 then
    f_X8_drift_b11   h
  else
    if x1 ≤ 20 then
      (gR h a0 8 1).bind fun r1 =>
      (gI h r1 3 0).bind fun v2 =>
      if v2 = 0 then
        some ((-1000000003), h)
      else
        F_X8_drift_29  FU a0 x1 0 h
    else
      f_X8_drift_b11   h
set_option maxRecDepth 100000 in
set_option maxHeartbeats 4000000 in
theorem w_X8_drift_e (X : CX RX8 cX8_drift 3 (some .int) p s m args meth c G b) {out : Int32 × HP} (Z : ZI p l e RM_X8_drift s m args below meth c cX8_drift G b False 0 0 Q out)  : ∀ (a0 : Nat) (x1 : Int32) (h : HP), f_X8_drift_e  a0 x1 h = some out → ∀ (H : Heap) (locs : List Loc) (ls : Array Slot), ST G b False s h H locs → lv_has ls 3 [(0, .ref (b + a0)), (1, .int x1)] → W p l e RM_X8_drift s m args below meth c H locs 0 0 Q (F0 m 0 ls []) := by
  intro a0 x1 h hf H locs ls S hl
  unfold f_X8_drift_e at hf
  have hx := X.1
  have hb := X.2.1
  refine lv_iload_n hx hb dX8_drift_0 rfl (lv_at hl 1 rfl) ?_
  refine lv_iconst (v := 1) hx hb dX8_drift_1 (by decide) ?_
  refine lv_icmp_lt (tgt := 11) hx hb dX8_drift_2 (by decide) (fun hc => ?_) (fun hc => ?_)
  · replace hf := ip hf hc
    exact w_X8_drift_b11 X Z  _ hf _ _ _ S (lv_sub hl [] rfl)
  · replace hf := im hf hc
    refine lv_iload_n hx hb dX8_drift_5 rfl (lv_at hl 1 rfl) ?_
    refine lv_bipush (v := 20) hx hb dX8_drift_6 (by decide) ?_
    refine lv_icmp_le (tgt := 14) hx hb dX8_drift_8 (by decide) (fun hc => ?_) (fun hc => ?_)
    · replace hf := ip hf hc
      refine lv_aload_n hx hb dX8_drift_14 rfl (lv_at hl 0 rfl) ?_
      obtain ⟨r1, e_r1, hf⟩ := ob hf
      refine r_getR X S fl_X8_19 e_r1 dX8_drift_15 ?_
      obtain ⟨v2, e_v2, hf⟩ := ob hf
      refine r_getI X S fl_X8_97 e_v2 dX8_drift_18 ?_
      refine lv_if_ne (tgt := 27) hx hb dX8_drift_21 (by decide) (fun hc => ?_) (fun hc => ?_)
      · replace hf := im hf hc
        refine lv_iconst (v := 0) hx hb dX8_drift_27 (by decide) ?_
        refine lv_istore_n (lv' := [(2, .int 0), (0, .ref (b + a0)), (1, .int x1)]) hx hb dX8_drift_28 rfl hl (by decide) rfl (fun ls hl => ?_)
        exact wl_X8_drift_29 X Z  FU _ _ _ _ hf _ _ _ S (lv_sub hl [1, 2, 0] rfl)
      · replace hf := ip hf hc
        refine lv_ldc (v := (-1000000003)) hx hb X.2.2.2.1 (X.2.2.2.2.1 _ cn_X8_192) dX8_drift_24 ?_
        obtain rfl := Option.some.inj hf
        exact Z _ _ _ _ dX8_drift_26 S
    · replace hf := im hf hc
      exact w_X8_drift_b11 X Z  _ hf _ _ _ S (lv_sub hl [] rfl)
def f_X8_drift (a0 : Nat) (x1 : Int32) (h : HP) : Option (Int32 × HP) := ck h a0 8 (f_X8_drift_e a0 x1 h)
theorem o_X8_drift {a0 : Nat} {x1 : Int32} {h : HP} {out : Int32 × HP} (hf : f_X8_drift a0 x1 h = some out) : ∃ fs, h[a0]? = some (.inl (8, fs)) := (ck_spec hf).1
set_option maxRecDepth 100000 in
theorem c_X8_drift {l : Launch} {G : GT} {b : Nat} {a0 : Nat} {x1 : Int32} {h : HP} {out : Int32 × HP} (hf : f_X8_drift a0 x1 h = some out) : MT l G b False False yX8_drift cX8_drift 3 (some .int) RM_X8_drift [.ref (b + a0), .int x1] h (some (.int out.1)) out.2 0 0 := by
  refine met_of (by decide) (Nat.le_of_ble_eq_true rfl) ?_
  intro p e s m below meth c ls X hnm S hl
  have hl : lv_has ls 3 [(0, .ref (b + a0)), (1, .int x1)] := hl
  replace hf := (ck_spec hf).2
  exact w_X8_drift_e X (z_i X) _ _ _ hf _ _ _ S hl
end M09
