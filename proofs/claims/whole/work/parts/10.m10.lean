section M10
variable {p : Program} {l : Launch} {e : Env} {s : State} {m : MethodId} {args : Array Value} {below : List Frame} {meth : Method} {c : Code} {Q : State → Prop} {G : GT} {b : Nat}
/-! RoomRings.undo(I)I -/
abbrev RM_X8_undo : Room := { frames := 3, cells := 0, slots := 0, locals := 63 }
def f_X8_undo_b11   (h : HP) : Option (Int32 × HP) :=
  some ((-1000000002), h)
set_option maxRecDepth 100000 in
set_option maxHeartbeats 4000000 in
theorem w_X8_undo_b11 (X : CX RX8 cX8_undo 2 (some .int) p s m args meth c G b) {out : Int32 × HP} (Z : ZI p l e RM_X8_undo s m args below meth c cX8_undo G b False 0 0 Q out)  : ∀  (h : HP), f_X8_undo_b11   h = some out → ∀ (H : Heap) (locs : List Loc) (ls : Array Slot), ST G b False s h H locs → lv_has ls 2 [] → W p l e RM_X8_undo s m args below meth c H locs 0 0 Q (F0 m 11 ls []) := by
  intro  h hf H locs ls S hl
  unfold f_X8_undo_b11 at hf
  have hx := X.1
  have hb := X.2.1
  refine lv_ldc (v := (-1000000002)) hx hb X.2.2.2.1 (X.2.2.2.2.1 _ cn_X8_68) dX8_undo_11 ?_
  obtain rfl := Option.some.inj hf
  exact Z _ _ _ _ dX8_undo_13 S
def f_X8_undo_e  (a0 : Nat) (x1 : Int32) (h : HP) : Option (Int32 × HP) :=
  if x1 < 1 then
    f_X8_undo_b11   h
  else
    if x1 ≤ 20 then
      (gR h a0 8 5).bind fun r1 =>
      (gI h r1 6 0).bind fun v2 =>
      if x1 ≤ v2 then
        (gR h a0 8 5).bind fun r3 =>
        (gR h a0 8 1).bind fun r4 =>
        (f_X6_pop r3 x1 r4 h).bind fun h5 =>
        (gR h5 a0 8 5).bind fun r6 =>
        (gI h5 r6 6 0).bind fun v7 =>
        some (v7, h5)
      else
        some ((-1000000003), h)
    else
      f_X8_undo_b11   h
set_option maxRecDepth 100000 in
set_option maxHeartbeats 4000000 in
theorem w_X8_undo_e (X : CX RX8 cX8_undo 2 (some .int) p s m args meth c G b) {out : Int32 × HP} (Z : ZI p l e RM_X8_undo s m args below meth c cX8_undo G b False 0 0 Q out)  : ∀ (a0 : Nat) (x1 : Int32) (h : HP), f_X8_undo_e  a0 x1 h = some out → ∀ (H : Heap) (locs : List Loc) (ls : Array Slot), ST G b False s h H locs → lv_has ls 2 [(0, .ref (b + a0)), (1, .int x1)] → W p l e RM_X8_undo s m args below meth c H locs 0 0 Q (F0 m 0 ls []) := by
  intro a0 x1 h hf H locs ls S hl
  unfold f_X8_undo_e at hf
  have hx := X.1
  have hb := X.2.1
  refine lv_iload_n hx hb dX8_undo_0 rfl (lv_at hl 1 rfl) ?_
  refine lv_iconst (v := 1) hx hb dX8_undo_1 (by decide) ?_
  refine lv_icmp_lt (tgt := 11) hx hb dX8_undo_2 (by decide) (fun hc => ?_) (fun hc => ?_)
  · replace hf := ip hf hc
    exact w_X8_undo_b11 X Z  _ hf _ _ _ S (lv_sub hl [] rfl)
  · replace hf := im hf hc
    refine lv_iload_n hx hb dX8_undo_5 rfl (lv_at hl 1 rfl) ?_
    refine lv_bipush (v := 20) hx hb dX8_undo_6 (by decide) ?_
    refine lv_icmp_le (tgt := 14) hx hb dX8_undo_8 (by decide) (fun hc => ?_) (fun hc => ?_)
    · replace hf := ip hf hc
      refine lv_iload_n hx hb dX8_undo_14 rfl (lv_at hl 1 rfl) ?_
      refine lv_aload_n hx hb dX8_undo_15 rfl (lv_at hl 0 rfl) ?_
      obtain ⟨r1, e_r1, hf⟩ := ob hf
      refine r_getR X S fl_X8_43 e_r1 dX8_undo_16 ?_
      obtain ⟨v2, e_v2, hf⟩ := ob hf
      refine r_getI X S fl_X8_136 e_v2 dX8_undo_19 ?_
      refine lv_icmp_le (tgt := 28) hx hb dX8_undo_22 (by decide) (fun hc => ?_) (fun hc => ?_)
      · replace hf := ip hf hc
        refine lv_aload_n hx hb dX8_undo_28 rfl (lv_at hl 0 rfl) ?_
        obtain ⟨r3, e_r3, hf⟩ := ob hf
        refine r_getR X S fl_X8_43 e_r3 dX8_undo_29 ?_
        refine lv_iload_n hx hb dX8_undo_32 rfl (lv_at hl 1 rfl) ?_
        refine lv_aload_n hx hb dX8_undo_33 rfl (lv_at hl 0 rfl) ?_
        obtain ⟨r4, e_r4, hf⟩ := ob hf
        refine r_getR X S fl_X8_19 e_r4 dX8_undo_34 ?_
        obtain ⟨h5, e_h5, hf⟩ := ob hf
        refine r_callV X S hl.1 (As := [.int x1, .ref (b + r4)]) (rest := []) (c_X6_pop e_h5) my_X6_pop mv_X6_pop ml_X8_214 rfl (o_X6_pop e_h5) ⟨rfl, rfl, Nat.le_of_ble_eq_true rfl, Nat.le_of_ble_eq_true rfl⟩ rfl rfl (Nat.le_of_ble_eq_true rfl) dX8_undo_37 ⟨Nat.le_of_ble_eq_true rfl, Nat.le_of_ble_eq_true rfl⟩ (fun H locs S => ?_)
        refine W.eq (g2 := F0 m 40 ls []) rfl ?_
        refine lv_aload_n hx hb dX8_undo_40 rfl (lv_at hl 0 rfl) ?_
        obtain ⟨r6, e_r6, hf⟩ := ob hf
        refine r_getR X S fl_X8_43 e_r6 dX8_undo_41 ?_
        obtain ⟨v7, e_v7, hf⟩ := ob hf
        refine r_getI X S fl_X8_136 e_v7 dX8_undo_44 ?_
        obtain rfl := Option.some.inj hf
        exact Z _ _ _ _ dX8_undo_47 S
      · replace hf := im hf hc
        refine lv_ldc (v := (-1000000003)) hx hb X.2.2.2.1 (X.2.2.2.2.1 _ cn_X8_192) dX8_undo_25 ?_
        obtain rfl := Option.some.inj hf
        exact Z _ _ _ _ dX8_undo_27 S
    · replace hf := im hf hc
      exact w_X8_undo_b11 X Z  _ hf _ _ _ S (lv_sub hl [] rfl)
def f_X8_undo (a0 : Nat) (x1 : Int32) (h : HP) : Option (Int32 × HP) := ck h a0 8 (f_X8_undo_e a0 x1 h)
theorem o_X8_undo {a0 : Nat} {x1 : Int32} {h : HP} {out : Int32 × HP} (hf : f_X8_undo a0 x1 h = some out) : ∃ fs, h[a0]? = some (.inl (8, fs)) := (ck_spec hf).1
set_option maxRecDepth 100000 in
theorem c_X8_undo {l : Launch} {G : GT} {b : Nat} {a0 : Nat} {x1 : Int32} {h : HP} {out : Int32 × HP} (hf : f_X8_undo a0 x1 h = some out) : MT l G b False False yX8_undo cX8_undo 2 (some .int) RM_X8_undo [.ref (b + a0), .int x1] h (some (.int out.1)) out.2 0 0 := by
  refine met_of (by decide) (Nat.le_of_ble_eq_true rfl) ?_
  intro p e s m below meth c ls X hnm S hl
  have hl : lv_has ls 2 [(0, .ref (b + a0)), (1, .int x1)] := hl
  replace hf := (ck_spec hf).2
  exact w_X8_undo_e X (z_i X) _ _ _ hf _ _ _ S hl
/-! RoomRings.otherwise(II)I -/
abbrev RM_X8_otherwise : Room := { frames := 4, cells := 0, slots := 0, locals := 92 }
def f_X8_otherwise_b22   (h : HP) : Option (Int32 × HP) :=
  some ((-1000000001), h)
set_option maxRecDepth 100000 in
set_option maxHeartbeats 4000000 in
theorem w_X8_otherwise_b22 (X : CX RX8 cX8_otherwise 3 (some .int) p s m args meth c G b) {out : Int32 × HP} (Z : ZI p l e RM_X8_otherwise s m args below meth c cX8_otherwise G b False 0 0 Q out)  : ∀  (h : HP), f_X8_otherwise_b22   h = some out → ∀ (H : Heap) (locs : List Loc) (ls : Array Slot), ST G b False s h H locs → lv_has ls 3 [] → W p l e RM_X8_otherwise s m args below meth c H locs 0 0 Q (F0 m 22 ls []) := by
  intro  h hf H locs ls S hl
  unfold f_X8_otherwise_b22 at hf
  have hx := X.1
  have hb := X.2.1
  refine lv_ldc (v := (-1000000001)) hx hb X.2.2.2.1 (X.2.2.2.2.1 _ cn_X8_143) dX8_otherwise_22 ?_
  obtain rfl := Option.some.inj hf
  exact Z _ _ _ _ dX8_otherwise_24 S
def f_X8_otherwise_e  (a0 : Nat) (x1 : Int32) (x2 : Int32) (h : HP) : Option (Int32 × HP) :=
  (gR h a0 8 1).bind fun r1 =>
  (f_X3_hasPerson r1 x1 h).bind fun q2 =>
  if q2.1 = 0 then
    f_X8_otherwise_b22   q2.2
  else
    (gR q2.2 a0 8 1).bind fun r3 =>
    (f_X3_hasRoom r3 x2 q2.2).bind fun q4 =>
    if q4.1 = 0 then
      f_X8_otherwise_b22   q4.2
    else
      (gR q4.2 a0 8 2).bind fun r5 =>
      (gR q4.2 a0 8 1).bind fun r6 =>
      (f_X3_copy r5 r6 q4.2).bind fun h7 =>
      (gR h7 a0 8 2).bind fun r8 =>
      (f_X3_clearLikings r8 x1 h7).bind fun h9 =>
      (gR h9 a0 8 2).bind fun r10 =>
      (f_X3_addLiking r10 x1 x2 h9).bind fun h11 =>
      (gR h11 a0 8 3).bind fun r12 =>
      (gR h11 a0 8 2).bind fun r13 =>
      (f_X1_deal r12 r13 h11).bind fun h14 =>
      (gR h14 a0 8 3).bind fun r15 =>
      (f_X1_roomOf r15 x1 h14).bind fun q16 =>
      some (q16.1, q16.2)
set_option maxRecDepth 100000 in
set_option maxHeartbeats 4000000 in
theorem w_X8_otherwise_e (X : CX RX8 cX8_otherwise 3 (some .int) p s m args meth c G b) {out : Int32 × HP} (Z : ZI p l e RM_X8_otherwise s m args below meth c cX8_otherwise G b False 0 0 Q out)  : ∀ (a0 : Nat) (x1 : Int32) (x2 : Int32) (h : HP), f_X8_otherwise_e  a0 x1 x2 h = some out → ∀ (H : Heap) (locs : List Loc) (ls : Array Slot), ST G b False s h H locs → lv_has ls 3 [(0, .ref (b + a0)), (1, .int x1), (2, .int x2)] → W p l e RM_X8_otherwise s m args below meth c H locs 0 0 Q (F0 m 0 ls []) := by
  intro a0 x1 x2 h hf H locs ls S hl
  unfold f_X8_otherwise_e at hf
  have hx := X.1
  have hb := X.2.1
  refine lv_aload_n hx hb dX8_otherwise_0 rfl (lv_at hl 0 rfl) ?_
  obtain ⟨r1, e_r1, hf⟩ := ob hf
  refine r_getR X S fl_X8_19 e_r1 dX8_otherwise_1 ?_
  refine lv_iload_n hx hb dX8_otherwise_4 rfl (lv_at hl 1 rfl) ?_
  obtain ⟨q2, e_q2, hf⟩ := ob hf
  refine r_callV X S hl.1 (As := [.int x1]) (rest := []) (c_X3_hasPerson e_q2) my_X3_hasPerson mv_X3_hasPerson ml_X8_139 rfl (o_X3_hasPerson e_q2) ⟨rfl, rfl, Nat.le_of_ble_eq_true rfl, Nat.le_of_ble_eq_true rfl⟩ rfl rfl (Nat.le_of_ble_eq_true rfl) dX8_otherwise_5 ⟨Nat.le_of_ble_eq_true rfl, Nat.le_of_ble_eq_true rfl⟩ (fun H locs S => ?_)
  refine W.eq (g2 := F0 m 8 ls [.int q2.1]) rfl ?_
  refine lv_if_eq (tgt := 22) hx hb dX8_otherwise_8 (by decide) (fun hc => ?_) (fun hc => ?_)
  · replace hf := ip hf hc
    exact w_X8_otherwise_b22 X Z  _ hf _ _ _ S (lv_sub hl [] rfl)
  · replace hf := im hf hc
    refine lv_aload_n hx hb dX8_otherwise_11 rfl (lv_at hl 0 rfl) ?_
    obtain ⟨r3, e_r3, hf⟩ := ob hf
    refine r_getR X S fl_X8_19 e_r3 dX8_otherwise_12 ?_
    refine lv_iload_n hx hb dX8_otherwise_15 rfl (lv_at hl 2 rfl) ?_
    obtain ⟨q4, e_q4, hf⟩ := ob hf
    refine r_callV X S hl.1 (As := [.int x2]) (rest := []) (c_X3_hasRoom e_q4) my_X3_hasRoom mv_X3_hasRoom ml_X8_172 rfl (o_X3_hasRoom e_q4) ⟨rfl, rfl, Nat.le_of_ble_eq_true rfl, Nat.le_of_ble_eq_true rfl⟩ rfl rfl (Nat.le_of_ble_eq_true rfl) dX8_otherwise_16 ⟨Nat.le_of_ble_eq_true rfl, Nat.le_of_ble_eq_true rfl⟩ (fun H locs S => ?_)
    refine W.eq (g2 := F0 m 19 ls [.int q4.1]) rfl ?_
    refine lv_if_ne (tgt := 25) hx hb dX8_otherwise_19 (by decide) (fun hc => ?_) (fun hc => ?_)
    · replace hf := im hf hc
      refine lv_aload_n hx hb dX8_otherwise_25 rfl (lv_at hl 0 rfl) ?_
      obtain ⟨r5, e_r5, hf⟩ := ob hf
      refine r_getR X S fl_X8_23 e_r5 dX8_otherwise_26 ?_
      refine lv_aload_n hx hb dX8_otherwise_29 rfl (lv_at hl 0 rfl) ?_
      obtain ⟨r6, e_r6, hf⟩ := ob hf
      refine r_getR X S fl_X8_19 e_r6 dX8_otherwise_30 ?_
      obtain ⟨h7, e_h7, hf⟩ := ob hf
      refine r_callV X S hl.1 (As := [.ref (b + r6)]) (rest := []) (c_X3_copy e_h7) my_X3_copy mv_X3_copy ml_X8_77 rfl (o_X3_copy e_h7) ⟨rfl, rfl, Nat.le_of_ble_eq_true rfl, Nat.le_of_ble_eq_true rfl⟩ rfl rfl (Nat.le_of_ble_eq_true rfl) dX8_otherwise_33 ⟨Nat.le_of_ble_eq_true rfl, Nat.le_of_ble_eq_true rfl⟩ (fun H locs S => ?_)
      refine W.eq (g2 := F0 m 36 ls []) rfl ?_
      refine lv_aload_n hx hb dX8_otherwise_36 rfl (lv_at hl 0 rfl) ?_
      obtain ⟨r8, e_r8, hf⟩ := ob hf
      refine r_getR X S fl_X8_23 e_r8 dX8_otherwise_37 ?_
      refine lv_iload_n hx hb dX8_otherwise_40 rfl (lv_at hl 1 rfl) ?_
      obtain ⟨h9, e_h9, hf⟩ := ob hf
      refine r_callV X S hl.1 (As := [.int x1]) (rest := []) (c_X3_clearLikings e_h9) my_X3_clearLikings mv_X3_clearLikings ml_X8_218 rfl (o_X3_clearLikings e_h9) ⟨rfl, rfl, Nat.le_of_ble_eq_true rfl, Nat.le_of_ble_eq_true rfl⟩ rfl rfl (Nat.le_of_ble_eq_true rfl) dX8_otherwise_41 ⟨Nat.le_of_ble_eq_true rfl, Nat.le_of_ble_eq_true rfl⟩ (fun H locs S => ?_)
      refine W.eq (g2 := F0 m 44 ls []) rfl ?_
      refine lv_aload_n hx hb dX8_otherwise_44 rfl (lv_at hl 0 rfl) ?_
      obtain ⟨r10, e_r10, hf⟩ := ob hf
      refine r_getR X S fl_X8_23 e_r10 dX8_otherwise_45 ?_
      refine lv_iload_n hx hb dX8_otherwise_48 rfl (lv_at hl 1 rfl) ?_
      refine lv_iload_n hx hb dX8_otherwise_49 rfl (lv_at hl 2 rfl) ?_
      obtain ⟨h11, e_h11, hf⟩ := ob hf
      refine r_callV X S hl.1 (As := [.int x1, .int x2]) (rest := []) (c_X3_addLiking e_h11) my_X3_addLiking mv_X3_addLiking ml_X8_222 rfl (o_X3_addLiking e_h11) ⟨rfl, rfl, Nat.le_of_ble_eq_true rfl, Nat.le_of_ble_eq_true rfl⟩ rfl rfl (Nat.le_of_ble_eq_true rfl) dX8_otherwise_50 ⟨Nat.le_of_ble_eq_true rfl, Nat.le_of_ble_eq_true rfl⟩ (fun H locs S => ?_)
      refine W.eq (g2 := F0 m 53 ls []) rfl ?_
      refine lv_aload_n hx hb dX8_otherwise_53 rfl (lv_at hl 0 rfl) ?_
      obtain ⟨r12, e_r12, hf⟩ := ob hf
      refine r_getR X S fl_X8_29 e_r12 dX8_otherwise_54 ?_
      refine lv_aload_n hx hb dX8_otherwise_57 rfl (lv_at hl 0 rfl) ?_
      obtain ⟨r13, e_r13, hf⟩ := ob hf
      refine r_getR X S fl_X8_23 e_r13 dX8_otherwise_58 ?_
      obtain ⟨h14, e_h14, hf⟩ := ob hf
      refine r_callV X S hl.1 (As := [.ref (b + r13)]) (rest := []) (c_X1_deal e_h14) my_X1_deal mv_X1_deal ml_X8_225 rfl (o_X1_deal e_h14) ⟨rfl, rfl, Nat.le_of_ble_eq_true rfl, Nat.le_of_ble_eq_true rfl⟩ rfl rfl (Nat.le_of_ble_eq_true rfl) dX8_otherwise_61 ⟨Nat.le_of_ble_eq_true rfl, Nat.le_of_ble_eq_true rfl⟩ (fun H locs S => ?_)
      refine W.eq (g2 := F0 m 64 ls []) rfl ?_
      refine lv_aload_n hx hb dX8_otherwise_64 rfl (lv_at hl 0 rfl) ?_
      obtain ⟨r15, e_r15, hf⟩ := ob hf
      refine r_getR X S fl_X8_29 e_r15 dX8_otherwise_65 ?_
      refine lv_iload_n hx hb dX8_otherwise_68 rfl (lv_at hl 1 rfl) ?_
      obtain ⟨q16, e_q16, hf⟩ := ob hf
      refine r_callV X S hl.1 (As := [.int x1]) (rest := []) (c_X1_roomOf e_q16) my_X1_roomOf mv_X1_roomOf ml_X8_153 rfl (o_X1_roomOf e_q16) ⟨rfl, rfl, Nat.le_of_ble_eq_true rfl, Nat.le_of_ble_eq_true rfl⟩ rfl rfl (Nat.le_of_ble_eq_true rfl) dX8_otherwise_69 ⟨Nat.le_of_ble_eq_true rfl, Nat.le_of_ble_eq_true rfl⟩ (fun H locs S => ?_)
      refine W.eq (g2 := F0 m 72 ls [.int q16.1]) rfl ?_
      obtain rfl := Option.some.inj hf
      exact Z _ _ _ _ dX8_otherwise_72 S
    · replace hf := ip hf hc
      exact w_X8_otherwise_b22 X Z  _ hf _ _ _ S (lv_sub hl [] rfl)
def f_X8_otherwise (a0 : Nat) (x1 : Int32) (x2 : Int32) (h : HP) : Option (Int32 × HP) := ck h a0 8 (f_X8_otherwise_e a0 x1 x2 h)
theorem o_X8_otherwise {a0 : Nat} {x1 : Int32} {x2 : Int32} {h : HP} {out : Int32 × HP} (hf : f_X8_otherwise a0 x1 x2 h = some out) : ∃ fs, h[a0]? = some (.inl (8, fs)) := (ck_spec hf).1
set_option maxRecDepth 100000 in
theorem c_X8_otherwise {l : Launch} {G : GT} {b : Nat} {a0 : Nat} {x1 : Int32} {x2 : Int32} {h : HP} {out : Int32 × HP} (hf : f_X8_otherwise a0 x1 x2 h = some out) : MT l G b False False yX8_otherwise cX8_otherwise 3 (some .int) RM_X8_otherwise [.ref (b + a0), .int x1, .int x2] h (some (.int out.1)) out.2 0 0 := by
  refine met_of (by decide) (Nat.le_of_ble_eq_true rfl) ?_
  intro p e s m below meth c ls X hnm S hl
  have hl : lv_has ls 3 [(0, .ref (b + a0)), (1, .int x1), (2, .int x2)] := hl
  replace hf := (ck_spec hf).2
  exact w_X8_otherwise_e X (z_i X) _ _ _ _ hf _ _ _ S hl
/-! RoomRings.odds(II)I -/
abbrev RM_X8_odds : Room := { frames := 4, cells := 0, slots := 0, locals := 92 }
def f_X8_odds_b22   (h : HP) : Option (Int32 × HP) :=
  some ((-1000000001), h)
set_option maxRecDepth 100000 in
set_option maxHeartbeats 4000000 in
theorem w_X8_odds_b22 (X : CX RX8 cX8_odds 6 (some .int) p s m args meth c G b) {out : Int32 × HP} (Z : ZI p l e RM_X8_odds s m args below meth c cX8_odds G b False 0 0 Q out)  : ∀  (h : HP), f_X8_odds_b22   h = some out → ∀ (H : Heap) (locs : List Loc) (ls : Array Slot), ST G b False s h H locs → lv_has ls 6 [] → W p l e RM_X8_odds s m args below meth c H locs 0 0 Q (F0 m 22 ls []) := by
  intro  h hf H locs ls S hl
  unfold f_X8_odds_b22 at hf
  have hx := X.1
  have hb := X.2.1
  refine lv_ldc (v := (-1000000001)) hx hb X.2.2.2.1 (X.2.2.2.2.1 _ cn_X8_143) dX8_odds_22 ?_
  obtain rfl := Option.some.inj hf
  exact Z _ _ _ _ dX8_odds_24 S
def f_X8_odds_b91 (K50 : Nat → Int32 → Int32 → Int32 → Int32 → Int32 → HP → Option (Int32 × HP)) (a0 : Nat) (x1 : Int32) (x2 : Int32) (x3 : Int32) (x4 : Int32) (x5 : Int32) (h : HP) : Option (Int32 × HP) :=
  K50 a0 x1 x2 x3 x4 (x5 + 1) h
set_option maxRecDepth 100000 in
set_option maxHeartbeats 4000000 in
theorem w_X8_odds_b91 (X : CX RX8 cX8_odds 6 (some .int) p s m args meth c G b) {out : Int32 × HP} (Z : ZI p l e RM_X8_odds s m args below meth c cX8_odds G b False 0 0 Q out) {K50 : Nat → Int32 → Int32 → Int32 → Int32 → Int32 → HP → Option (Int32 × HP)} (hK50 : ∀ (a0 : Nat) (x1 : Int32) (x2 : Int32) (x3 : Int32) (x4 : Int32) (x5 : Int32) (h : HP), K50 a0 x1 x2 x3 x4 x5 h = some out → ∀ (H : Heap) (locs : List Loc) (ls : Array Slot), ST G b False s h H locs → lv_has ls 6 [(0, .ref (b + a0)), (1, .int x1), (2, .int x2), (3, .int x3), (4, .int x4), (5, .int x5)] → W p l e RM_X8_odds s m args below meth c H locs 0 0 Q (F0 m 50 ls [])) : ∀ (a0 : Nat) (x1 : Int32) (x2 : Int32) (x3 : Int32) (x4 : Int32) (x5 : Int32) (h : HP), f_X8_odds_b91 K50 a0 x1 x2 x3 x4 x5 h = some out → ∀ (H : Heap) (locs : List Loc) (ls : Array Slot), ST G b False s h H locs → lv_has ls 6 [(0, .ref (b + a0)), (1, .int x1), (2, .int x2), (3, .int x3), (4, .int x4), (5, .int x5)] → W p l e RM_X8_odds s m args below meth c H locs 0 0 Q (F0 m 91 ls []) := by
  intro a0 x1 x2 x3 x4 x5 h hf H locs ls S hl
  unfold f_X8_odds_b91 at hf
  have hx := X.1
  have hb := X.2.1
  refine lv_iinc (v := x5 + 1) (lv' := [(5, .int (x5 + 1)), (0, .ref (b + a0)), (1, .int x1), (2, .int x2), (3, .int x3), (4, .int x4)]) hx hb dX8_odds_91 hl (k := 5) rfl rfl (by decide) rfl (fun ls hl => ?_)
  refine lv_goto (tgt := 50) hx hb dX8_odds_94 (by decide) ?_
  exact hK50 _ _ _ _ _ _ _ hf _ _ _ S (lv_sub hl [1, 2, 3, 4, 5, 0] rfl)
def f_X8_odds_b50 (K50 : Nat → Int32 → Int32 → Int32 → Int32 → Int32 → HP → Option (Int32 × HP)) (a0 : Nat) (x1 : Int32) (x2 : Int32) (x3 : Int32) (x4 : Int32) (x5 : Int32) (h : HP) : Option (Int32 × HP) :=
  if x3 ≤ x5 then
    some (x4, h)
  else
    (gR h a0 8 2).bind fun r1 =>
    (f_X3_orderBy r1 x5 h).bind fun h2 =>
    (gR h2 a0 8 3).bind fun r3 =>
    (gR h2 a0 8 2).bind fun r4 =>
    (f_X1_deal r3 r4 h2).bind fun h5 =>
    (gR h5 a0 8 3).bind fun r6 =>
    (f_X1_roomOf r6 x1 h5).bind fun q7 =>
    if q7.1 = x2 then
      f_X8_odds_b91 K50 a0 x1 x2 x3 (x4 + 1) x5 q7.2
    else
      f_X8_odds_b91 K50 a0 x1 x2 x3 x4 x5 q7.2
set_option maxRecDepth 100000 in
set_option maxHeartbeats 4000000 in
theorem w_X8_odds_b50 (X : CX RX8 cX8_odds 6 (some .int) p s m args meth c G b) {out : Int32 × HP} (Z : ZI p l e RM_X8_odds s m args below meth c cX8_odds G b False 0 0 Q out) {K50 : Nat → Int32 → Int32 → Int32 → Int32 → Int32 → HP → Option (Int32 × HP)} (hK50 : ∀ (a0 : Nat) (x1 : Int32) (x2 : Int32) (x3 : Int32) (x4 : Int32) (x5 : Int32) (h : HP), K50 a0 x1 x2 x3 x4 x5 h = some out → ∀ (H : Heap) (locs : List Loc) (ls : Array Slot), ST G b False s h H locs → lv_has ls 6 [(0, .ref (b + a0)), (1, .int x1), (2, .int x2), (3, .int x3), (4, .int x4), (5, .int x5)] → W p l e RM_X8_odds s m args below meth c H locs 0 0 Q (F0 m 50 ls [])) : ∀ (a0 : Nat) (x1 : Int32) (x2 : Int32) (x3 : Int32) (x4 : Int32) (x5 : Int32) (h : HP), f_X8_odds_b50 K50 a0 x1 x2 x3 x4 x5 h = some out → ∀ (H : Heap) (locs : List Loc) (ls : Array Slot), ST G b False s h H locs → lv_has ls 6 [(0, .ref (b + a0)), (1, .int x1), (2, .int x2), (3, .int x3), (4, .int x4), (5, .int x5)] → W p l e RM_X8_odds s m args below meth c H locs 0 0 Q (F0 m 50 ls []) := by
  intro a0 x1 x2 x3 x4 x5 h hf H locs ls S hl
  unfold f_X8_odds_b50 at hf
  have hx := X.1
  have hb := X.2.1
  refine lv_iload hx hb dX8_odds_50 (lv_at hl 5 rfl) ?_
  refine lv_iload_n hx hb dX8_odds_52 rfl (lv_at hl 3 rfl) ?_
  refine lv_icmp_ge (tgt := 97) hx hb dX8_odds_53 (by decide) (fun hc => ?_) (fun hc => ?_)
  · replace hf := ip hf hc
    refine lv_iload hx hb dX8_odds_97 (lv_at hl 4 rfl) ?_
    obtain rfl := Option.some.inj hf
    exact Z _ _ _ _ dX8_odds_99 S
  · replace hf := im hf hc
    refine lv_aload_n hx hb dX8_odds_56 rfl (lv_at hl 0 rfl) ?_
    obtain ⟨r1, e_r1, hf⟩ := ob hf
    refine r_getR X S fl_X8_23 e_r1 dX8_odds_57 ?_
    refine lv_iload hx hb dX8_odds_60 (lv_at hl 5 rfl) ?_
    obtain ⟨h2, e_h2, hf⟩ := ob hf
    refine r_callV X S hl.1 (As := [.int x5]) (rest := []) (c_X3_orderBy e_h2) my_X3_orderBy mv_X3_orderBy ml_X8_234 rfl (o_X3_orderBy e_h2) ⟨rfl, rfl, Nat.le_of_ble_eq_true rfl, Nat.le_of_ble_eq_true rfl⟩ rfl rfl (Nat.le_of_ble_eq_true rfl) dX8_odds_62 ⟨Nat.le_of_ble_eq_true rfl, Nat.le_of_ble_eq_true rfl⟩ (fun H locs S => ?_)
    refine W.eq (g2 := F0 m 65 ls []) rfl ?_
    refine lv_aload_n hx hb dX8_odds_65 rfl (lv_at hl 0 rfl) ?_
    obtain ⟨r3, e_r3, hf⟩ := ob hf
    refine r_getR X S fl_X8_29 e_r3 dX8_odds_66 ?_
    refine lv_aload_n hx hb dX8_odds_69 rfl (lv_at hl 0 rfl) ?_
    obtain ⟨r4, e_r4, hf⟩ := ob hf
    refine r_getR X S fl_X8_23 e_r4 dX8_odds_70 ?_
    obtain ⟨h5, e_h5, hf⟩ := ob hf
    refine r_callV X S hl.1 (As := [.ref (b + r4)]) (rest := []) (c_X1_deal e_h5) my_X1_deal mv_X1_deal ml_X8_225 rfl (o_X1_deal e_h5) ⟨rfl, rfl, Nat.le_of_ble_eq_true rfl, Nat.le_of_ble_eq_true rfl⟩ rfl rfl (Nat.le_of_ble_eq_true rfl) dX8_odds_73 ⟨Nat.le_of_ble_eq_true rfl, Nat.le_of_ble_eq_true rfl⟩ (fun H locs S => ?_)
    refine W.eq (g2 := F0 m 76 ls []) rfl ?_
    refine lv_aload_n hx hb dX8_odds_76 rfl (lv_at hl 0 rfl) ?_
    obtain ⟨r6, e_r6, hf⟩ := ob hf
    refine r_getR X S fl_X8_29 e_r6 dX8_odds_77 ?_
    refine lv_iload_n hx hb dX8_odds_80 rfl (lv_at hl 1 rfl) ?_
    obtain ⟨q7, e_q7, hf⟩ := ob hf
    refine r_callV X S hl.1 (As := [.int x1]) (rest := []) (c_X1_roomOf e_q7) my_X1_roomOf mv_X1_roomOf ml_X8_153 rfl (o_X1_roomOf e_q7) ⟨rfl, rfl, Nat.le_of_ble_eq_true rfl, Nat.le_of_ble_eq_true rfl⟩ rfl rfl (Nat.le_of_ble_eq_true rfl) dX8_odds_81 ⟨Nat.le_of_ble_eq_true rfl, Nat.le_of_ble_eq_true rfl⟩ (fun H locs S => ?_)
    refine W.eq (g2 := F0 m 84 ls [.int q7.1]) rfl ?_
    refine lv_iload_n hx hb dX8_odds_84 rfl (lv_at hl 2 rfl) ?_
    refine lv_icmp_ne (tgt := 91) hx hb dX8_odds_85 (by decide) (fun hc => ?_) (fun hc => ?_)
    · replace hf := im hf hc
      exact w_X8_odds_b91 X Z hK50 _ _ _ _ _ _ _ hf _ _ _ S (lv_sub hl [0, 1, 2, 3, 4, 5] rfl)
    · replace hf := ip hf hc
      refine lv_iinc (v := x4 + 1) (lv' := [(4, .int (x4 + 1)), (0, .ref (b + a0)), (1, .int x1), (2, .int x2), (3, .int x3), (5, .int x5)]) hx hb dX8_odds_88 hl (k := 4) rfl rfl (by decide) rfl (fun ls hl => ?_)
      exact w_X8_odds_b91 X Z hK50 _ _ _ _ _ _ _ hf _ _ _ S (lv_sub hl [1, 2, 3, 4, 0, 5] rfl)
def F_X8_odds_50  : Nat → Nat → Int32 → Int32 → Int32 → Int32 → Int32 → HP → Option (Int32 × HP)
  | 0 => fun _ _ _ _ _ _ _ => none
  | n + 1 => fun a0 x1 x2 x3 x4 x5 h => f_X8_odds_b50 (F_X8_odds_50  n) a0 x1 x2 x3 x4 x5 h
theorem wl_X8_odds_50 (X : CX RX8 cX8_odds 6 (some .int) p s m args meth c G b) {out : Int32 × HP} (Z : ZI p l e RM_X8_odds s m args below meth c cX8_odds G b False 0 0 Q out)  : ∀ (n : Nat) (a0 : Nat) (x1 : Int32) (x2 : Int32) (x3 : Int32) (x4 : Int32) (x5 : Int32) (h : HP), F_X8_odds_50  n a0 x1 x2 x3 x4 x5 h = some out → ∀ (H : Heap) (locs : List Loc) (ls : Array Slot), ST G b False s h H locs → lv_has ls 6 [(0, .ref (b + a0)), (1, .int x1), (2, .int x2), (3, .int x3), (4, .int x4), (5, .int x5)] → W p l e RM_X8_odds s m args below meth c H locs 0 0 Q (F0 m 50 ls []) := by
  intro n
  induction n with
  | zero => intro a0 x1 x2 x3 x4 x5 h hf; exact nn hf
  | succ n ih => exact w_X8_odds_b50 X Z ih
def f_X8_odds_e  (a0 : Nat) (x1 : Int32) (x2 : Int32) (h : HP) : Option (Int32 × HP) :=
  (gR h a0 8 1).bind fun r1 =>
  (f_X3_hasPerson r1 x1 h).bind fun q2 =>
  if q2.1 = 0 then
    f_X8_odds_b22   q2.2
  else
    (gR q2.2 a0 8 1).bind fun r3 =>
    (f_X3_hasRoomOrNone r3 x2 q2.2).bind fun q4 =>
    if q4.1 = 0 then
      f_X8_odds_b22   q4.2
    else
      (gR q4.2 a0 8 2).bind fun r5 =>
      (gR q4.2 a0 8 1).bind fun r6 =>
      (f_X3_copy r5 r6 q4.2).bind fun h7 =>
      (gR h7 a0 8 2).bind fun r8 =>
      (f_X3_orders r8 h7).bind fun q9 =>
      F_X8_odds_50  FU a0 x1 x2 q9.1 0 0 q9.2
set_option maxRecDepth 100000 in
set_option maxHeartbeats 4000000 in
theorem w_X8_odds_e (X : CX RX8 cX8_odds 6 (some .int) p s m args meth c G b) {out : Int32 × HP} (Z : ZI p l e RM_X8_odds s m args below meth c cX8_odds G b False 0 0 Q out)  : ∀ (a0 : Nat) (x1 : Int32) (x2 : Int32) (h : HP), f_X8_odds_e  a0 x1 x2 h = some out → ∀ (H : Heap) (locs : List Loc) (ls : Array Slot), ST G b False s h H locs → lv_has ls 6 [(0, .ref (b + a0)), (1, .int x1), (2, .int x2)] → W p l e RM_X8_odds s m args below meth c H locs 0 0 Q (F0 m 0 ls []) := by
  intro a0 x1 x2 h hf H locs ls S hl
  unfold f_X8_odds_e at hf
  have hx := X.1
  have hb := X.2.1
  refine lv_aload_n hx hb dX8_odds_0 rfl (lv_at hl 0 rfl) ?_
  obtain ⟨r1, e_r1, hf⟩ := ob hf
  refine r_getR X S fl_X8_19 e_r1 dX8_odds_1 ?_
  refine lv_iload_n hx hb dX8_odds_4 rfl (lv_at hl 1 rfl) ?_
  obtain ⟨q2, e_q2, hf⟩ := ob hf
  refine r_callV X S hl.1 (As := [.int x1]) (rest := []) (c_X3_hasPerson e_q2) my_X3_hasPerson mv_X3_hasPerson ml_X8_139 rfl (o_X3_hasPerson e_q2) ⟨rfl, rfl, Nat.le_of_ble_eq_true rfl, Nat.le_of_ble_eq_true rfl⟩ rfl rfl (Nat.le_of_ble_eq_true rfl) dX8_odds_5 ⟨Nat.le_of_ble_eq_true rfl, Nat.le_of_ble_eq_true rfl⟩ (fun H locs S => ?_)
  refine W.eq (g2 := F0 m 8 ls [.int q2.1]) rfl ?_
  refine lv_if_eq (tgt := 22) hx hb dX8_odds_8 (by decide) (fun hc => ?_) (fun hc => ?_)
  · replace hf := ip hf hc
    exact w_X8_odds_b22 X Z  _ hf _ _ _ S (lv_sub hl [] rfl)
  · replace hf := im hf hc
    refine lv_aload_n hx hb dX8_odds_11 rfl (lv_at hl 0 rfl) ?_
    obtain ⟨r3, e_r3, hf⟩ := ob hf
    refine r_getR X S fl_X8_19 e_r3 dX8_odds_12 ?_
    refine lv_iload_n hx hb dX8_odds_15 rfl (lv_at hl 2 rfl) ?_
    obtain ⟨q4, e_q4, hf⟩ := ob hf
    refine r_callV X S hl.1 (As := [.int x2]) (rest := []) (c_X3_hasRoomOrNone e_q4) my_X3_hasRoomOrNone mv_X3_hasRoomOrNone ml_X8_228 rfl (o_X3_hasRoomOrNone e_q4) ⟨rfl, rfl, Nat.le_of_ble_eq_true rfl, Nat.le_of_ble_eq_true rfl⟩ rfl rfl (Nat.le_of_ble_eq_true rfl) dX8_odds_16 ⟨Nat.le_of_ble_eq_true rfl, Nat.le_of_ble_eq_true rfl⟩ (fun H locs S => ?_)
    refine W.eq (g2 := F0 m 19 ls [.int q4.1]) rfl ?_
    refine lv_if_ne (tgt := 25) hx hb dX8_odds_19 (by decide) (fun hc => ?_) (fun hc => ?_)
    · replace hf := im hf hc
      refine lv_aload_n hx hb dX8_odds_25 rfl (lv_at hl 0 rfl) ?_
      obtain ⟨r5, e_r5, hf⟩ := ob hf
      refine r_getR X S fl_X8_23 e_r5 dX8_odds_26 ?_
      refine lv_aload_n hx hb dX8_odds_29 rfl (lv_at hl 0 rfl) ?_
      obtain ⟨r6, e_r6, hf⟩ := ob hf
      refine r_getR X S fl_X8_19 e_r6 dX8_odds_30 ?_
      obtain ⟨h7, e_h7, hf⟩ := ob hf
      refine r_callV X S hl.1 (As := [.ref (b + r6)]) (rest := []) (c_X3_copy e_h7) my_X3_copy mv_X3_copy ml_X8_77 rfl (o_X3_copy e_h7) ⟨rfl, rfl, Nat.le_of_ble_eq_true rfl, Nat.le_of_ble_eq_true rfl⟩ rfl rfl (Nat.le_of_ble_eq_true rfl) dX8_odds_33 ⟨Nat.le_of_ble_eq_true rfl, Nat.le_of_ble_eq_true rfl⟩ (fun H locs S => ?_)
      refine W.eq (g2 := F0 m 36 ls []) rfl ?_
      refine lv_aload_n hx hb dX8_odds_36 rfl (lv_at hl 0 rfl) ?_
      obtain ⟨r8, e_r8, hf⟩ := ob hf
      refine r_getR X S fl_X8_23 e_r8 dX8_odds_37 ?_
      obtain ⟨q9, e_q9, hf⟩ := ob hf
      refine r_callV X S hl.1 (As := []) (rest := []) (c_X3_orders e_q9) my_X3_orders mv_X3_orders ml_X8_231 rfl (o_X3_orders e_q9) ⟨rfl, rfl, Nat.le_of_ble_eq_true rfl, Nat.le_of_ble_eq_true rfl⟩ rfl rfl (Nat.le_of_ble_eq_true rfl) dX8_odds_40 ⟨Nat.le_of_ble_eq_true rfl, Nat.le_of_ble_eq_true rfl⟩ (fun H locs S => ?_)
      refine W.eq (g2 := F0 m 43 ls [.int q9.1]) rfl ?_
      refine lv_istore_n (lv' := [(3, .int q9.1), (0, .ref (b + a0)), (1, .int x1), (2, .int x2)]) hx hb dX8_odds_43 rfl hl (by decide) rfl (fun ls hl => ?_)
      refine lv_iconst (v := 0) hx hb dX8_odds_44 (by decide) ?_
      refine lv_istore (lv' := [(4, .int 0), (3, .int q9.1), (0, .ref (b + a0)), (1, .int x1), (2, .int x2)]) hx hb dX8_odds_45 hl (by decide) rfl (fun ls hl => ?_)
      refine lv_iconst (v := 0) hx hb dX8_odds_47 (by decide) ?_
      refine lv_istore (lv' := [(5, .int 0), (4, .int 0), (3, .int q9.1), (0, .ref (b + a0)), (1, .int x1), (2, .int x2)]) hx hb dX8_odds_48 hl (by decide) rfl (fun ls hl => ?_)
      exact wl_X8_odds_50 X Z  FU _ _ _ _ _ _ _ hf _ _ _ S (lv_sub hl [3, 4, 5, 2, 1, 0] rfl)
    · replace hf := ip hf hc
      exact w_X8_odds_b22 X Z  _ hf _ _ _ S (lv_sub hl [] rfl)
def f_X8_odds (a0 : Nat) (x1 : Int32) (x2 : Int32) (h : HP) : Option (Int32 × HP) := ck h a0 8 (f_X8_odds_e a0 x1 x2 h)
theorem o_X8_odds {a0 : Nat} {x1 : Int32} {x2 : Int32} {h : HP} {out : Int32 × HP} (hf : f_X8_odds a0 x1 x2 h = some out) : ∃ fs, h[a0]? = some (.inl (8, fs)) := (ck_spec hf).1
set_option maxRecDepth 100000 in
theorem c_X8_odds {l : Launch} {G : GT} {b : Nat} {a0 : Nat} {x1 : Int32} {x2 : Int32} {h : HP} {out : Int32 × HP} (hf : f_X8_odds a0 x1 x2 h = some out) : MT l G b False False yX8_odds cX8_odds 6 (some .int) RM_X8_odds [.ref (b + a0), .int x1, .int x2] h (some (.int out.1)) out.2 0 0 := by
  refine met_of (by decide) (Nat.le_of_ble_eq_true rfl) ?_
  intro p e s m below meth c ls X hnm S hl
  have hl : lv_has ls 6 [(0, .ref (b + a0)), (1, .int x1), (2, .int x2)] := hl
  replace hf := (ck_spec hf).2
  exact w_X8_odds_e X (z_i X) _ _ _ _ hf _ _ _ S hl
/-! RoomRings.quiet(II)I -/
abbrev RM_X8_quiet : Room := { frames := 0, cells := 0, slots := 0, locals := 0 }
def f_X8_quiet_b20   (h : HP) : Option (Int32 × HP) :=
  some ((-1000000002), h)
set_option maxRecDepth 100000 in
set_option maxHeartbeats 4000000 in
theorem w_X8_quiet_b20 (X : CX RX8 cX8_quiet 6 (some .int) p s m args meth c G b) {out : Int32 × HP} (Z : ZI p l e RM_X8_quiet s m args below meth c cX8_quiet G b False 0 0 Q out)  : ∀  (h : HP), f_X8_quiet_b20   h = some out → ∀ (H : Heap) (locs : List Loc) (ls : Array Slot), ST G b False s h H locs → lv_has ls 6 [] → W p l e RM_X8_quiet s m args below meth c H locs 0 0 Q (F0 m 20 ls []) := by
  intro  h hf H locs ls S hl
  unfold f_X8_quiet_b20 at hf
  have hx := X.1
  have hb := X.2.1
  refine lv_ldc (v := (-1000000002)) hx hb X.2.2.2.1 (X.2.2.2.2.1 _ cn_X8_68) dX8_quiet_20 ?_
  obtain rfl := Option.some.inj hf
  exact Z _ _ _ _ dX8_quiet_22 S
def f_X8_quiet_b30 (K30 : Int32 → Int32 → Int64 → Int32 → HP → Option (Int32 × HP)) (x1 : Int32) (x2 : Int32) (l3 : Int64) (x5 : Int32) (h : HP) : Option (Int32 × HP) :=
  if x1 ≤ x5 then
    some ((Int64.toInt32 l3), h)
  else
    K30 x1 x2 ((l3 * (Int32.toInt64 x2)) / 100) (x5 + 1) h
set_option maxRecDepth 100000 in
set_option maxHeartbeats 4000000 in
theorem w_X8_quiet_b30 (X : CX RX8 cX8_quiet 6 (some .int) p s m args meth c G b) {out : Int32 × HP} (Z : ZI p l e RM_X8_quiet s m args below meth c cX8_quiet G b False 0 0 Q out) {K30 : Int32 → Int32 → Int64 → Int32 → HP → Option (Int32 × HP)} (hK30 : ∀ (x1 : Int32) (x2 : Int32) (l3 : Int64) (x5 : Int32) (h : HP), K30 x1 x2 l3 x5 h = some out → ∀ (H : Heap) (locs : List Loc) (ls : Array Slot), ST G b False s h H locs → lv_has ls 6 [(1, .int x1), (2, .int x2), (3, .long l3), (5, .int x5)] → W p l e RM_X8_quiet s m args below meth c H locs 0 0 Q (F0 m 30 ls [])) : ∀ (x1 : Int32) (x2 : Int32) (l3 : Int64) (x5 : Int32) (h : HP), f_X8_quiet_b30 K30 x1 x2 l3 x5 h = some out → ∀ (H : Heap) (locs : List Loc) (ls : Array Slot), ST G b False s h H locs → lv_has ls 6 [(1, .int x1), (2, .int x2), (3, .long l3), (5, .int x5)] → W p l e RM_X8_quiet s m args below meth c H locs 0 0 Q (F0 m 30 ls []) := by
  intro x1 x2 l3 x5 h hf H locs ls S hl
  unfold f_X8_quiet_b30 at hf
  have hx := X.1
  have hb := X.2.1
  refine lv_iload hx hb dX8_quiet_30 (lv_at hl 3 rfl) ?_
  refine lv_iload_n hx hb dX8_quiet_32 rfl (lv_at hl 0 rfl) ?_
  refine lv_icmp_ge (tgt := 51) hx hb dX8_quiet_33 (by decide) (fun hc => ?_) (fun hc => ?_)
  · replace hf := ip hf hc
    refine lv_lload_n hx hb dX8_quiet_51 rfl (lv_at hl 2 rfl) ?_
    refine lv_l2i (v := Int64.toInt32 l3) hx hb dX8_quiet_52 rfl ?_
    obtain rfl := Option.some.inj hf
    exact Z _ _ _ _ dX8_quiet_53 S
  · replace hf := im hf hc
    refine lv_lload_n hx hb dX8_quiet_36 rfl (lv_at hl 2 rfl) ?_
    refine lv_iload_n hx hb dX8_quiet_37 rfl (lv_at hl 1 rfl) ?_
    refine lv_i2l (v := Int32.toInt64 x2) hx hb dX8_quiet_38 rfl ?_
    refine lv_lmul hx hb dX8_quiet_39 ?_
    refine lv_ldc2 (v := 100) hx hb X.2.2.2.1 (X.2.2.2.2.1 _ cl_X8_239) dX8_quiet_40 ?_
    refine lv_ldiv hx hb dX8_quiet_43 (by decide) ?_
    refine lv_lstore_n (lv' := [(3, .long ((l3 * (Int32.toInt64 x2)) / 100)), (1, .int x1), (2, .int x2), (5, .int x5)]) hx hb dX8_quiet_44 rfl hl (by decide) rfl (fun ls hl => ?_)
    refine lv_iinc (v := x5 + 1) (lv' := [(5, .int (x5 + 1)), (3, .long ((l3 * (Int32.toInt64 x2)) / 100)), (1, .int x1), (2, .int x2)]) hx hb dX8_quiet_45 hl (k := 3) rfl rfl (by decide) rfl (fun ls hl => ?_)
    refine lv_goto (tgt := 30) hx hb dX8_quiet_48 (by decide) ?_
    exact hK30 _ _ _ _ _ hf _ _ _ S (lv_sub hl [2, 3, 1, 0] rfl)
def F_X8_quiet_30  : Nat → Int32 → Int32 → Int64 → Int32 → HP → Option (Int32 × HP)
  | 0 => fun _ _ _ _ _ => none
  | n + 1 => fun x1 x2 l3 x5 h => f_X8_quiet_b30 (F_X8_quiet_30  n) x1 x2 l3 x5 h
theorem wl_X8_quiet_30 (X : CX RX8 cX8_quiet 6 (some .int) p s m args meth c G b) {out : Int32 × HP} (Z : ZI p l e RM_X8_quiet s m args below meth c cX8_quiet G b False 0 0 Q out)  : ∀ (n : Nat) (x1 : Int32) (x2 : Int32) (l3 : Int64) (x5 : Int32) (h : HP), F_X8_quiet_30  n x1 x2 l3 x5 h = some out → ∀ (H : Heap) (locs : List Loc) (ls : Array Slot), ST G b False s h H locs → lv_has ls 6 [(1, .int x1), (2, .int x2), (3, .long l3), (5, .int x5)] → W p l e RM_X8_quiet s m args below meth c H locs 0 0 Q (F0 m 30 ls []) := by
  intro n
  induction n with
  | zero => intro x1 x2 l3 x5 h hf; exact nn hf
  | succ n ih => exact w_X8_quiet_b30 X Z ih
def f_X8_quiet_e  (a0 : Nat) (x1 : Int32) (x2 : Int32) (h : HP) : Option (Int32 × HP) :=
  if x1 < 0 then
    f_X8_quiet_b20   h
  else
    if 60 < x1 then
      f_X8_quiet_b20   h
    else
      if x2 < 0 then
        f_X8_quiet_b20   h
      else
        if x2 ≤ 100 then
          F_X8_quiet_30  FU x1 x2 1000000000 0 h
        else
          f_X8_quiet_b20   h
set_option maxRecDepth 100000 in
set_option maxHeartbeats 4000000 in
theorem w_X8_quiet_e (X : CX RX8 cX8_quiet 6 (some .int) p s m args meth c G b) {out : Int32 × HP} (Z : ZI p l e RM_X8_quiet s m args below meth c cX8_quiet G b False 0 0 Q out)  : ∀ (a0 : Nat) (x1 : Int32) (x2 : Int32) (h : HP), f_X8_quiet_e  a0 x1 x2 h = some out → ∀ (H : Heap) (locs : List Loc) (ls : Array Slot), ST G b False s h H locs → lv_has ls 6 [(0, .ref (b + a0)), (1, .int x1), (2, .int x2)] → W p l e RM_X8_quiet s m args below meth c H locs 0 0 Q (F0 m 0 ls []) := by
  intro a0 x1 x2 h hf H locs ls S hl
  unfold f_X8_quiet_e at hf
  have hx := X.1
  have hb := X.2.1
  refine lv_iload_n hx hb dX8_quiet_0 rfl (lv_at hl 1 rfl) ?_
  refine lv_if_lt (tgt := 20) hx hb dX8_quiet_1 (by decide) (fun hc => ?_) (fun hc => ?_)
  · replace hf := ip hf hc
    exact w_X8_quiet_b20 X Z  _ hf _ _ _ S (lv_sub hl [] rfl)
  · replace hf := im hf hc
    refine lv_iload_n hx hb dX8_quiet_4 rfl (lv_at hl 1 rfl) ?_
    refine lv_bipush (v := 60) hx hb dX8_quiet_5 (by decide) ?_
    refine lv_icmp_gt (tgt := 20) hx hb dX8_quiet_7 (by decide) (fun hc => ?_) (fun hc => ?_)
    · replace hf := ip hf hc
      exact w_X8_quiet_b20 X Z  _ hf _ _ _ S (lv_sub hl [] rfl)
    · replace hf := im hf hc
      refine lv_iload_n hx hb dX8_quiet_10 rfl (lv_at hl 2 rfl) ?_
      refine lv_if_lt (tgt := 20) hx hb dX8_quiet_11 (by decide) (fun hc => ?_) (fun hc => ?_)
      · replace hf := ip hf hc
        exact w_X8_quiet_b20 X Z  _ hf _ _ _ S (lv_sub hl [] rfl)
      · replace hf := im hf hc
        refine lv_iload_n hx hb dX8_quiet_14 rfl (lv_at hl 2 rfl) ?_
        refine lv_bipush (v := 100) hx hb dX8_quiet_15 (by decide) ?_
        refine lv_icmp_le (tgt := 23) hx hb dX8_quiet_17 (by decide) (fun hc => ?_) (fun hc => ?_)
        · replace hf := ip hf hc
          refine lv_ldc2 (v := 1000000000) hx hb X.2.2.2.1 (X.2.2.2.2.1 _ cl_X8_237) dX8_quiet_23 ?_
          refine lv_lstore_n (lv' := [(3, .long 1000000000), (0, .ref (b + a0)), (1, .int x1), (2, .int x2)]) hx hb dX8_quiet_26 rfl hl (by decide) rfl (fun ls hl => ?_)
          refine lv_iconst (v := 0) hx hb dX8_quiet_27 (by decide) ?_
          refine lv_istore (lv' := [(5, .int 0), (3, .long 1000000000), (0, .ref (b + a0)), (1, .int x1), (2, .int x2)]) hx hb dX8_quiet_28 hl (by decide) rfl (fun ls hl => ?_)
          exact wl_X8_quiet_30 X Z  FU _ _ _ _ _ hf _ _ _ S (lv_sub hl [3, 4, 1, 0] rfl)
        · replace hf := im hf hc
          exact w_X8_quiet_b20 X Z  _ hf _ _ _ S (lv_sub hl [] rfl)
def f_X8_quiet (a0 : Nat) (x1 : Int32) (x2 : Int32) (h : HP) : Option (Int32 × HP) := ck h a0 8 (f_X8_quiet_e a0 x1 x2 h)
theorem o_X8_quiet {a0 : Nat} {x1 : Int32} {x2 : Int32} {h : HP} {out : Int32 × HP} (hf : f_X8_quiet a0 x1 x2 h = some out) : ∃ fs, h[a0]? = some (.inl (8, fs)) := (ck_spec hf).1
set_option maxRecDepth 100000 in
theorem c_X8_quiet {l : Launch} {G : GT} {b : Nat} {a0 : Nat} {x1 : Int32} {x2 : Int32} {h : HP} {out : Int32 × HP} (hf : f_X8_quiet a0 x1 x2 h = some out) : MT l G b False False yX8_quiet cX8_quiet 6 (some .int) RM_X8_quiet [.ref (b + a0), .int x1, .int x2] h (some (.int out.1)) out.2 0 0 := by
  refine met_of (by decide) (Nat.le_of_ble_eq_true rfl) ?_
  intro p e s m below meth c ls X hnm S hl
  have hl : lv_has ls 6 [(0, .ref (b + a0)), (1, .int x1), (2, .int x2)] := hl
  replace hf := (ck_spec hf).2
  exact w_X8_quiet_e X (z_i X) _ _ _ _ hf _ _ _ S hl
/-! RoomRings.see(IZ)I -/
abbrev RM_X8_see : Room := { frames := 2, cells := 0, slots := 0, locals := 44 }
def f_X8_see_e  (a0 : Nat) (x1 : Int32) (x2 : Int32) (h : HP) : Option (Int32 × HP) :=
  (gR h a0 8 1).bind fun r1 =>
  (f_X3_hasRoomOrNone r1 x1 h).bind fun q2 =>
  if q2.1 = 0 then
    some ((-1000000001), q2.2)
  else
    (gR q2.2 a0 8 6).bind fun r3 =>
    (f_X5_addSeen r3 x1 x2 q2.2).bind fun q4 =>
    some (q4.1, q4.2)
set_option maxRecDepth 100000 in
set_option maxHeartbeats 4000000 in
theorem w_X8_see_e (X : CX RX8 cX8_see 3 (some .int) p s m args meth c G b) {out : Int32 × HP} (Z : ZI p l e RM_X8_see s m args below meth c cX8_see G b False 0 0 Q out)  : ∀ (a0 : Nat) (x1 : Int32) (x2 : Int32) (h : HP), f_X8_see_e  a0 x1 x2 h = some out → ∀ (H : Heap) (locs : List Loc) (ls : Array Slot), ST G b False s h H locs → lv_has ls 3 [(0, .ref (b + a0)), (1, .int x1), (2, .int x2)] → W p l e RM_X8_see s m args below meth c H locs 0 0 Q (F0 m 0 ls []) := by
  intro a0 x1 x2 h hf H locs ls S hl
  unfold f_X8_see_e at hf
  have hx := X.1
  have hb := X.2.1
  refine lv_aload_n hx hb dX8_see_0 rfl (lv_at hl 0 rfl) ?_
  obtain ⟨r1, e_r1, hf⟩ := ob hf
  refine r_getR X S fl_X8_19 e_r1 dX8_see_1 ?_
  refine lv_iload_n hx hb dX8_see_4 rfl (lv_at hl 1 rfl) ?_
  obtain ⟨q2, e_q2, hf⟩ := ob hf
  refine r_callV X S hl.1 (As := [.int x1]) (rest := []) (c_X3_hasRoomOrNone e_q2) my_X3_hasRoomOrNone mv_X3_hasRoomOrNone ml_X8_228 rfl (o_X3_hasRoomOrNone e_q2) ⟨rfl, rfl, Nat.le_of_ble_eq_true rfl, Nat.le_of_ble_eq_true rfl⟩ rfl rfl (Nat.le_of_ble_eq_true rfl) dX8_see_5 ⟨Nat.le_of_ble_eq_true rfl, Nat.le_of_ble_eq_true rfl⟩ (fun H locs S => ?_)
  refine W.eq (g2 := F0 m 8 ls [.int q2.1]) rfl ?_
  refine lv_if_ne (tgt := 14) hx hb dX8_see_8 (by decide) (fun hc => ?_) (fun hc => ?_)
  · replace hf := im hf hc
    refine lv_aload_n hx hb dX8_see_14 rfl (lv_at hl 0 rfl) ?_
    obtain ⟨r3, e_r3, hf⟩ := ob hf
    refine r_getR X S fl_X8_50 e_r3 dX8_see_15 ?_
    refine lv_iload_n hx hb dX8_see_18 rfl (lv_at hl 1 rfl) ?_
    refine lv_iload_n hx hb dX8_see_19 rfl (lv_at hl 2 rfl) ?_
    obtain ⟨q4, e_q4, hf⟩ := ob hf
    refine r_callV X S hl.1 (As := [.int x1, .int x2]) (rest := []) (c_X5_addSeen e_q4) my_X5_addSeen mv_X5_addSeen ml_X8_241 rfl (o_X5_addSeen e_q4) ⟨rfl, rfl, Nat.le_of_ble_eq_true rfl, Nat.le_of_ble_eq_true rfl⟩ rfl rfl (Nat.le_of_ble_eq_true rfl) dX8_see_20 ⟨Nat.le_of_ble_eq_true rfl, Nat.le_of_ble_eq_true rfl⟩ (fun H locs S => ?_)
    refine W.eq (g2 := F0 m 23 ls [.int q4.1]) rfl ?_
    obtain rfl := Option.some.inj hf
    exact Z _ _ _ _ dX8_see_23 S
  · replace hf := ip hf hc
    refine lv_ldc (v := (-1000000001)) hx hb X.2.2.2.1 (X.2.2.2.2.1 _ cn_X8_143) dX8_see_11 ?_
    obtain rfl := Option.some.inj hf
    exact Z _ _ _ _ dX8_see_13 S
def f_X8_see (a0 : Nat) (x1 : Int32) (x2 : Int32) (h : HP) : Option (Int32 × HP) := ck h a0 8 (f_X8_see_e a0 x1 x2 h)
theorem o_X8_see {a0 : Nat} {x1 : Int32} {x2 : Int32} {h : HP} {out : Int32 × HP} (hf : f_X8_see a0 x1 x2 h = some out) : ∃ fs, h[a0]? = some (.inl (8, fs)) := (ck_spec hf).1
set_option maxRecDepth 100000 in
theorem c_X8_see {l : Launch} {G : GT} {b : Nat} {a0 : Nat} {x1 : Int32} {x2 : Int32} {h : HP} {out : Int32 × HP} (hf : f_X8_see a0 x1 x2 h = some out) : MT l G b False False yX8_see cX8_see 3 (some .int) RM_X8_see [.ref (b + a0), .int x1, .int x2] h (some (.int out.1)) out.2 0 0 := by
  refine met_of (by decide) (Nat.le_of_ble_eq_true rfl) ?_
  intro p e s m below meth c ls X hnm S hl
  have hl : lv_has ls 3 [(0, .ref (b + a0)), (1, .int x1), (2, .int x2)] := hl
  replace hf := (ck_spec hf).2
  exact w_X8_see_e X (z_i X) _ _ _ _ hf _ _ _ S hl
/-! RoomRings.couldBe()I -/
abbrev RM_X8_couldBe : Room := { frames := 5, cells := 0, slots := 0, locals := 112 }
def f_X8_couldBe_e  (a0 : Nat) (h : HP) : Option (Int32 × HP) :=
  (gR h a0 8 6).bind fun r1 =>
  (f_X8_dealt a0 h).bind fun q2 => om q2.1 (
    none) fun r3 =>
    (gR q2.2 a0 8 1).bind fun r4 =>
    (gI q2.2 r4 3 1).bind fun v5 =>
    (f_X5_fitting r1 r3 v5 q2.2).bind fun q6 =>
    some (q6.1, q6.2)
set_option maxRecDepth 100000 in
set_option maxHeartbeats 4000000 in
theorem w_X8_couldBe_e (X : CX RX8 cX8_couldBe 1 (some .int) p s m args meth c G b) {out : Int32 × HP} (Z : ZI p l e RM_X8_couldBe s m args below meth c cX8_couldBe G b False 0 0 Q out)  : ∀ (a0 : Nat) (h : HP), f_X8_couldBe_e  a0 h = some out → ∀ (H : Heap) (locs : List Loc) (ls : Array Slot), ST G b False s h H locs → lv_has ls 1 [(0, .ref (b + a0))] → W p l e RM_X8_couldBe s m args below meth c H locs 0 0 Q (F0 m 0 ls []) := by
  intro a0 h hf H locs ls S hl
  unfold f_X8_couldBe_e at hf
  have hx := X.1
  have hb := X.2.1
  refine lv_aload_n hx hb dX8_couldBe_0 rfl (lv_at hl 0 rfl) ?_
  obtain ⟨r1, e_r1, hf⟩ := ob hf
  refine r_getR X S fl_X8_50 e_r1 dX8_couldBe_1 ?_
  refine lv_aload_n hx hb dX8_couldBe_4 rfl (lv_at hl 0 rfl) ?_
  obtain ⟨⟨q2o, q2h⟩, e_q2, hf⟩ := ob hf
  cases q2o with
  | none => exact nn (om_n hf)
  | some r3 =>
    replace hf := om_s hf
    refine r_callV X S hl.1 (As := []) (rest := [.ref (b + r1)]) (c_X8_dealt e_q2) my_X8_dealt mv_X8_dealt ml_X8_103 rfl (o_X8_dealt e_q2) ⟨rfl, rfl, Nat.le_of_ble_eq_true rfl, Nat.le_of_ble_eq_true rfl⟩ rfl rfl (Nat.le_of_ble_eq_true rfl) dX8_couldBe_5 ⟨Nat.le_of_ble_eq_true rfl, Nat.le_of_ble_eq_true rfl⟩ (fun H locs S => ?_)
    refine W.eq (g2 := F0 m 8 ls [.ref (b + r3), .ref (b + r1)]) rfl ?_
    refine lv_aload_n hx hb dX8_couldBe_8 rfl (lv_at hl 0 rfl) ?_
    obtain ⟨r4, e_r4, hf⟩ := ob hf
    refine r_getR X S fl_X8_19 e_r4 dX8_couldBe_9 ?_
    obtain ⟨v5, e_v5, hf⟩ := ob hf
    refine r_getI X S fl_X8_90 e_v5 dX8_couldBe_12 ?_
    obtain ⟨q6, e_q6, hf⟩ := ob hf
    refine r_callV X S hl.1 (As := [.ref (b + r3), .int v5]) (rest := []) (c_X5_fitting e_q6) my_X5_fitting mv_X5_fitting ml_X8_245 rfl (o_X5_fitting e_q6) ⟨rfl, rfl, Nat.le_of_ble_eq_true rfl, Nat.le_of_ble_eq_true rfl⟩ rfl rfl (Nat.le_of_ble_eq_true rfl) dX8_couldBe_15 ⟨Nat.le_of_ble_eq_true rfl, Nat.le_of_ble_eq_true rfl⟩ (fun H locs S => ?_)
    refine W.eq (g2 := F0 m 18 ls [.int q6.1]) rfl ?_
    obtain rfl := Option.some.inj hf
    exact Z _ _ _ _ dX8_couldBe_18 S
def f_X8_couldBe (a0 : Nat) (h : HP) : Option (Int32 × HP) := ck h a0 8 (f_X8_couldBe_e a0 h)
theorem o_X8_couldBe {a0 : Nat} {h : HP} {out : Int32 × HP} (hf : f_X8_couldBe a0 h = some out) : ∃ fs, h[a0]? = some (.inl (8, fs)) := (ck_spec hf).1
set_option maxRecDepth 100000 in
theorem c_X8_couldBe {l : Launch} {G : GT} {b : Nat} {a0 : Nat} {h : HP} {out : Int32 × HP} (hf : f_X8_couldBe a0 h = some out) : MT l G b False False yX8_couldBe cX8_couldBe 1 (some .int) RM_X8_couldBe [.ref (b + a0)] h (some (.int out.1)) out.2 0 0 := by
  refine met_of (by decide) (Nat.le_of_ble_eq_true rfl) ?_
  intro p e s m below meth c ls X hnm S hl
  have hl : lv_has ls 1 [(0, .ref (b + a0))] := hl
  replace hf := (ck_spec hf).2
  exact w_X8_couldBe_e X (z_i X) _ _ hf _ _ _ S hl
/-! RoomRings.ask()I -/
abbrev RM_X8_ask : Room := { frames := 5, cells := 0, slots := 0, locals := 112 }
def f_X8_ask_b96 (K32 : Nat → Int32 → Int32 → Int32 → Int32 → Int32 → HP → Option (Int32 × HP)) (a0 : Nat) (x1 : Int32) (x2 : Int32) (x3 : Int32) (x4 : Int32) (x5 : Int32) (h : HP) : Option (Int32 × HP) :=
  K32 a0 x1 x2 x3 x4 (x5 + 1) h
set_option maxRecDepth 100000 in
set_option maxHeartbeats 4000000 in
theorem w_X8_ask_b96 (X : CX RX8 cX8_ask 8 (some .int) p s m args meth c G b) {out : Int32 × HP} (Z : ZI p l e RM_X8_ask s m args below meth c cX8_ask G b False 0 0 Q out) {K32 : Nat → Int32 → Int32 → Int32 → Int32 → Int32 → HP → Option (Int32 × HP)} (hK32 : ∀ (a0 : Nat) (x1 : Int32) (x2 : Int32) (x3 : Int32) (x4 : Int32) (x5 : Int32) (h : HP), K32 a0 x1 x2 x3 x4 x5 h = some out → ∀ (H : Heap) (locs : List Loc) (ls : Array Slot), ST G b False s h H locs → lv_has ls 8 [(0, .ref (b + a0)), (1, .int x1), (2, .int x2), (3, .int x3), (4, .int x4), (5, .int x5)] → W p l e RM_X8_ask s m args below meth c H locs 0 0 Q (F0 m 32 ls [])) : ∀ (a0 : Nat) (x1 : Int32) (x2 : Int32) (x3 : Int32) (x4 : Int32) (x5 : Int32) (h : HP), f_X8_ask_b96 K32 a0 x1 x2 x3 x4 x5 h = some out → ∀ (H : Heap) (locs : List Loc) (ls : Array Slot), ST G b False s h H locs → lv_has ls 8 [(0, .ref (b + a0)), (1, .int x1), (2, .int x2), (3, .int x3), (4, .int x4), (5, .int x5)] → W p l e RM_X8_ask s m args below meth c H locs 0 0 Q (F0 m 96 ls []) := by
  intro a0 x1 x2 x3 x4 x5 h hf H locs ls S hl
  unfold f_X8_ask_b96 at hf
  have hx := X.1
  have hb := X.2.1
  refine lv_iinc (v := x5 + 1) (lv' := [(5, .int (x5 + 1)), (0, .ref (b + a0)), (1, .int x1), (2, .int x2), (3, .int x3), (4, .int x4)]) hx hb dX8_ask_96 hl (k := 5) rfl rfl (by decide) rfl (fun ls hl => ?_)
  refine lv_goto (tgt := 32) hx hb dX8_ask_99 (by decide) ?_
  exact hK32 _ _ _ _ _ _ _ hf _ _ _ S (lv_sub hl [1, 2, 3, 4, 5, 0] rfl)
def f_X8_ask_b69 (K32 : Nat → Int32 → Int32 → Int32 → Int32 → Int32 → HP → Option (Int32 × HP)) (a0 : Nat) (x1 : Int32) (x2 : Int32) (x3 : Int32) (x4 : Int32) (x5 : Int32) (s0 : Int32) (h : HP) : Option (Int32 × HP) :=
  if x4 ≤ (if s0 < (x2 - s0) then (x2 - s0) else s0) then
    f_X8_ask_b96 K32 a0 x1 x2 x3 x4 x5 h
  else
    f_X8_ask_b96 K32 a0 x1 x2 x5 (if s0 < (x2 - s0) then (x2 - s0) else s0) x5 h
set_option maxRecDepth 100000 in
set_option maxHeartbeats 4000000 in
theorem w_X8_ask_b69 (X : CX RX8 cX8_ask 8 (some .int) p s m args meth c G b) {out : Int32 × HP} (Z : ZI p l e RM_X8_ask s m args below meth c cX8_ask G b False 0 0 Q out) {K32 : Nat → Int32 → Int32 → Int32 → Int32 → Int32 → HP → Option (Int32 × HP)} (hK32 : ∀ (a0 : Nat) (x1 : Int32) (x2 : Int32) (x3 : Int32) (x4 : Int32) (x5 : Int32) (h : HP), K32 a0 x1 x2 x3 x4 x5 h = some out → ∀ (H : Heap) (locs : List Loc) (ls : Array Slot), ST G b False s h H locs → lv_has ls 8 [(0, .ref (b + a0)), (1, .int x1), (2, .int x2), (3, .int x3), (4, .int x4), (5, .int x5)] → W p l e RM_X8_ask s m args below meth c H locs 0 0 Q (F0 m 32 ls [])) : ∀ (a0 : Nat) (x1 : Int32) (x2 : Int32) (x3 : Int32) (x4 : Int32) (x5 : Int32) (s0 : Int32) (h : HP), f_X8_ask_b69 K32 a0 x1 x2 x3 x4 x5 s0 h = some out → ∀ (H : Heap) (locs : List Loc) (ls : Array Slot), ST G b False s h H locs → lv_has ls 8 [(0, .ref (b + a0)), (1, .int x1), (2, .int x2), (3, .int x3), (4, .int x4), (5, .int x5)] → W p l e RM_X8_ask s m args below meth c H locs 0 0 Q (F0 m 69 ls [.int s0]) := by
  intro a0 x1 x2 x3 x4 x5 s0 h hf H locs ls S hl
  unfold f_X8_ask_b69 at hf
  have hx := X.1
  have hb := X.2.1
  refine lv_istore (lv' := [(6, .int s0), (0, .ref (b + a0)), (1, .int x1), (2, .int x2), (3, .int x3), (4, .int x4), (5, .int x5)]) hx hb dX8_ask_69 hl (by decide) rfl (fun ls hl => ?_)
  refine lv_iload hx hb dX8_ask_71 (lv_at hl 0 rfl) ?_
  refine lv_iload_n hx hb dX8_ask_73 rfl (lv_at hl 3 rfl) ?_
  refine lv_iload hx hb dX8_ask_74 (lv_at hl 0 rfl) ?_
  refine lv_isub hx hb dX8_ask_76 ?_
  refine va_mmax hx hb (X.2.2.1.trans hl.1.symm) X.2.2.2.1 (X.2.2.2.2.1 _ mm_X8_253.1) (X.2.2.2.2.1 _ mm_X8_253.2.1) (X.2.2.2.2.1 _ mm_X8_253.2.2.1) (X.2.2.2.2.1 _ mm_X8_253.2.2.2) (Nat.le_of_ble_eq_true rfl) (Nat.le_of_ble_eq_true rfl) (Nat.zero_le _) (Nat.zero_le _) dX8_ask_77 ?_
  refine lv_istore (lv' := [(7, .int (if s0 < (x2 - s0) then (x2 - s0) else s0)), (6, .int s0), (0, .ref (b + a0)), (1, .int x1), (2, .int x2), (3, .int x3), (4, .int x4), (5, .int x5)]) hx hb dX8_ask_80 hl (by decide) rfl (fun ls hl => ?_)
  refine lv_iload hx hb dX8_ask_82 (lv_at hl 0 rfl) ?_
  refine lv_iload hx hb dX8_ask_84 (lv_at hl 6 rfl) ?_
  refine lv_icmp_ge (tgt := 96) hx hb dX8_ask_86 (by decide) (fun hc => ?_) (fun hc => ?_)
  · replace hf := ip hf hc
    exact w_X8_ask_b96 X Z hK32 _ _ _ _ _ _ _ hf _ _ _ S (lv_sub hl [2, 3, 4, 5, 6, 7] rfl)
  · replace hf := im hf hc
    refine lv_iload hx hb dX8_ask_89 (lv_at hl 0 rfl) ?_
    refine lv_istore (lv' := [(4, .int (if s0 < (x2 - s0) then (x2 - s0) else s0)), (7, .int (if s0 < (x2 - s0) then (x2 - s0) else s0)), (6, .int s0), (0, .ref (b + a0)), (1, .int x1), (2, .int x2), (3, .int x3), (5, .int x5)]) hx hb dX8_ask_91 hl (by decide) rfl (fun ls hl => ?_)
    refine lv_iload hx hb dX8_ask_93 (lv_at hl 7 rfl) ?_
    refine lv_istore_n (lv' := [(3, .int x5), (4, .int (if s0 < (x2 - s0) then (x2 - s0) else s0)), (7, .int (if s0 < (x2 - s0) then (x2 - s0) else s0)), (6, .int s0), (0, .ref (b + a0)), (1, .int x1), (2, .int x2), (5, .int x5)]) hx hb dX8_ask_95 rfl hl (by decide) rfl (fun ls hl => ?_)
    exact w_X8_ask_b96 X Z hK32 _ _ _ _ _ _ _ hf _ _ _ S (lv_sub hl [4, 5, 6, 0, 1, 7] rfl)
def f_X8_ask_b32 (K32 : Nat → Int32 → Int32 → Int32 → Int32 → Int32 → HP → Option (Int32 × HP)) (a0 : Nat) (x1 : Int32) (x2 : Int32) (x3 : Int32) (x4 : Int32) (x5 : Int32) (h : HP) : Option (Int32 × HP) :=
  (gR h a0 8 1).bind fun r1 =>
  (gI h r1 3 0).bind fun v2 =>
  if v2 ≤ x5 then
    some (x3, h)
  else
    (gR h a0 8 3).bind fun r3 =>
    (gR h a0 8 1).bind fun r4 =>
    (f_X1_winner r3 r4 x5 h).bind fun q5 =>
    (f_X8_holds x1 q5.1 q5.2).bind fun q6 =>
    if q6.1 = 0 then
      f_X8_ask_b69 K32 a0 x1 x2 x3 x4 x5 0 q6.2
    else
      f_X8_ask_b69 K32 a0 x1 x2 x3 x4 x5 1 q6.2
set_option maxRecDepth 100000 in
set_option maxHeartbeats 4000000 in
theorem w_X8_ask_b32 (X : CX RX8 cX8_ask 8 (some .int) p s m args meth c G b) {out : Int32 × HP} (Z : ZI p l e RM_X8_ask s m args below meth c cX8_ask G b False 0 0 Q out) {K32 : Nat → Int32 → Int32 → Int32 → Int32 → Int32 → HP → Option (Int32 × HP)} (hK32 : ∀ (a0 : Nat) (x1 : Int32) (x2 : Int32) (x3 : Int32) (x4 : Int32) (x5 : Int32) (h : HP), K32 a0 x1 x2 x3 x4 x5 h = some out → ∀ (H : Heap) (locs : List Loc) (ls : Array Slot), ST G b False s h H locs → lv_has ls 8 [(0, .ref (b + a0)), (1, .int x1), (2, .int x2), (3, .int x3), (4, .int x4), (5, .int x5)] → W p l e RM_X8_ask s m args below meth c H locs 0 0 Q (F0 m 32 ls [])) : ∀ (a0 : Nat) (x1 : Int32) (x2 : Int32) (x3 : Int32) (x4 : Int32) (x5 : Int32) (h : HP), f_X8_ask_b32 K32 a0 x1 x2 x3 x4 x5 h = some out → ∀ (H : Heap) (locs : List Loc) (ls : Array Slot), ST G b False s h H locs → lv_has ls 8 [(0, .ref (b + a0)), (1, .int x1), (2, .int x2), (3, .int x3), (4, .int x4), (5, .int x5)] → W p l e RM_X8_ask s m args below meth c H locs 0 0 Q (F0 m 32 ls []) := by
  intro a0 x1 x2 x3 x4 x5 h hf H locs ls S hl
  unfold f_X8_ask_b32 at hf
  have hx := X.1
  have hb := X.2.1
  refine lv_iload hx hb dX8_ask_32 (lv_at hl 5 rfl) ?_
  refine lv_aload_n hx hb dX8_ask_34 rfl (lv_at hl 0 rfl) ?_
  obtain ⟨r1, e_r1, hf⟩ := ob hf
  refine r_getR X S fl_X8_19 e_r1 dX8_ask_35 ?_
  obtain ⟨v2, e_v2, hf⟩ := ob hf
  refine r_getI X S fl_X8_97 e_v2 dX8_ask_38 ?_
  refine lv_icmp_ge (tgt := 102) hx hb dX8_ask_41 (by decide) (fun hc => ?_) (fun hc => ?_)
  · replace hf := ip hf hc
    refine lv_iload_n hx hb dX8_ask_102 rfl (lv_at hl 3 rfl) ?_
    obtain rfl := Option.some.inj hf
    exact Z _ _ _ _ dX8_ask_103 S
  · replace hf := im hf hc
    refine lv_iload_n hx hb dX8_ask_44 rfl (lv_at hl 1 rfl) ?_
    refine lv_aload_n hx hb dX8_ask_45 rfl (lv_at hl 0 rfl) ?_
    obtain ⟨r3, e_r3, hf⟩ := ob hf
    refine r_getR X S fl_X8_29 e_r3 dX8_ask_46 ?_
    refine lv_aload_n hx hb dX8_ask_49 rfl (lv_at hl 0 rfl) ?_
    obtain ⟨r4, e_r4, hf⟩ := ob hf
    refine r_getR X S fl_X8_19 e_r4 dX8_ask_50 ?_
    refine lv_iload hx hb dX8_ask_53 (lv_at hl 5 rfl) ?_
    obtain ⟨q5, e_q5, hf⟩ := ob hf
    refine r_callV X S hl.1 (As := [.ref (b + r4), .int x5]) (rest := [.int x1]) (c_X1_winner e_q5) my_X1_winner mv_X1_winner ml_X8_178 rfl (o_X1_winner e_q5) ⟨rfl, rfl, Nat.le_of_ble_eq_true rfl, Nat.le_of_ble_eq_true rfl⟩ rfl rfl (Nat.le_of_ble_eq_true rfl) dX8_ask_55 ⟨Nat.le_of_ble_eq_true rfl, Nat.le_of_ble_eq_true rfl⟩ (fun H locs S => ?_)
    refine W.eq (g2 := F0 m 58 ls [.int q5.1, .int x1]) rfl ?_
    obtain ⟨q6, e_q6, hf⟩ := ob hf
    refine r_callS X S hl.1 (As := [.int x1, .int q5.1]) (rest := []) (c_X8_holds e_q6) my_X8_holds ms_X8_holds ml_X8_249 ⟨rfl, rfl, Nat.le_of_ble_eq_true rfl, Nat.le_of_ble_eq_true rfl⟩ rfl rfl (Nat.le_of_ble_eq_true rfl) dX8_ask_58 ⟨Nat.le_of_ble_eq_true rfl, Nat.le_of_ble_eq_true rfl⟩ (fun H locs S => ?_)
    refine W.eq (g2 := F0 m 61 ls [.int q6.1]) rfl ?_
    refine lv_if_eq (tgt := 68) hx hb dX8_ask_61 (by decide) (fun hc => ?_) (fun hc => ?_)
    · replace hf := ip hf hc
      refine lv_iconst (v := 0) hx hb dX8_ask_68 (by decide) ?_
      exact w_X8_ask_b69 X Z hK32 _ _ _ _ _ _ _ _ hf _ _ _ S (lv_sub hl [0, 1, 2, 3, 4, 5] rfl)
    · replace hf := im hf hc
      refine lv_iconst (v := 1) hx hb dX8_ask_64 (by decide) ?_
      refine lv_goto (tgt := 69) hx hb dX8_ask_65 (by decide) ?_
      exact w_X8_ask_b69 X Z hK32 _ _ _ _ _ _ _ _ hf _ _ _ S (lv_sub hl [0, 1, 2, 3, 4, 5] rfl)
def F_X8_ask_32  : Nat → Nat → Int32 → Int32 → Int32 → Int32 → Int32 → HP → Option (Int32 × HP)
  | 0 => fun _ _ _ _ _ _ _ => none
  | n + 1 => fun a0 x1 x2 x3 x4 x5 h => f_X8_ask_b32 (F_X8_ask_32  n) a0 x1 x2 x3 x4 x5 h
theorem wl_X8_ask_32 (X : CX RX8 cX8_ask 8 (some .int) p s m args meth c G b) {out : Int32 × HP} (Z : ZI p l e RM_X8_ask s m args below meth c cX8_ask G b False 0 0 Q out)  : ∀ (n : Nat) (a0 : Nat) (x1 : Int32) (x2 : Int32) (x3 : Int32) (x4 : Int32) (x5 : Int32) (h : HP), F_X8_ask_32  n a0 x1 x2 x3 x4 x5 h = some out → ∀ (H : Heap) (locs : List Loc) (ls : Array Slot), ST G b False s h H locs → lv_has ls 8 [(0, .ref (b + a0)), (1, .int x1), (2, .int x2), (3, .int x3), (4, .int x4), (5, .int x5)] → W p l e RM_X8_ask s m args below meth c H locs 0 0 Q (F0 m 32 ls []) := by
  intro n
  induction n with
  | zero => intro a0 x1 x2 x3 x4 x5 h hf; exact nn hf
  | succ n ih => exact w_X8_ask_b32 X Z ih
def f_X8_ask_e  (a0 : Nat) (h : HP) : Option (Int32 × HP) :=
  (gR h a0 8 6).bind fun r1 =>
  (f_X8_dealt a0 h).bind fun q2 => om q2.1 (
    none) fun r3 =>
    (gR q2.2 a0 8 1).bind fun r4 =>
    (gI q2.2 r4 3 1).bind fun v5 =>
    (f_X5_fitting r1 r3 v5 q2.2).bind fun q6 =>
    (f_J6_bitCount_0f7a4 q6.1 q6.2).bind fun q7 =>
    F_X8_ask_32  FU a0 q6.1 q7.1 (-1) q7.1 0 q7.2
set_option maxRecDepth 100000 in
set_option maxHeartbeats 4000000 in
theorem w_X8_ask_e (X : CX RX8 cX8_ask 8 (some .int) p s m args meth c G b) {out : Int32 × HP} (Z : ZI p l e RM_X8_ask s m args below meth c cX8_ask G b False 0 0 Q out)  : ∀ (a0 : Nat) (h : HP), f_X8_ask_e  a0 h = some out → ∀ (H : Heap) (locs : List Loc) (ls : Array Slot), ST G b False s h H locs → lv_has ls 8 [(0, .ref (b + a0))] → W p l e RM_X8_ask s m args below meth c H locs 0 0 Q (F0 m 0 ls []) := by
  intro a0 h hf H locs ls S hl
  unfold f_X8_ask_e at hf
  have hx := X.1
  have hb := X.2.1
  refine lv_aload_n hx hb dX8_ask_0 rfl (lv_at hl 0 rfl) ?_
  obtain ⟨r1, e_r1, hf⟩ := ob hf
  refine r_getR X S fl_X8_50 e_r1 dX8_ask_1 ?_
  refine lv_aload_n hx hb dX8_ask_4 rfl (lv_at hl 0 rfl) ?_
  obtain ⟨⟨q2o, q2h⟩, e_q2, hf⟩ := ob hf
  cases q2o with
  | none => exact nn (om_n hf)
  | some r3 =>
    replace hf := om_s hf
    refine r_callV X S hl.1 (As := []) (rest := [.ref (b + r1)]) (c_X8_dealt e_q2) my_X8_dealt mv_X8_dealt ml_X8_103 rfl (o_X8_dealt e_q2) ⟨rfl, rfl, Nat.le_of_ble_eq_true rfl, Nat.le_of_ble_eq_true rfl⟩ rfl rfl (Nat.le_of_ble_eq_true rfl) dX8_ask_5 ⟨Nat.le_of_ble_eq_true rfl, Nat.le_of_ble_eq_true rfl⟩ (fun H locs S => ?_)
    refine W.eq (g2 := F0 m 8 ls [.ref (b + r3), .ref (b + r1)]) rfl ?_
    refine lv_aload_n hx hb dX8_ask_8 rfl (lv_at hl 0 rfl) ?_
    obtain ⟨r4, e_r4, hf⟩ := ob hf
    refine r_getR X S fl_X8_19 e_r4 dX8_ask_9 ?_
    obtain ⟨v5, e_v5, hf⟩ := ob hf
    refine r_getI X S fl_X8_90 e_v5 dX8_ask_12 ?_
    obtain ⟨q6, e_q6, hf⟩ := ob hf
    refine r_callV X S hl.1 (As := [.ref (b + r3), .int v5]) (rest := []) (c_X5_fitting e_q6) my_X5_fitting mv_X5_fitting ml_X8_245 rfl (o_X5_fitting e_q6) ⟨rfl, rfl, Nat.le_of_ble_eq_true rfl, Nat.le_of_ble_eq_true rfl⟩ rfl rfl (Nat.le_of_ble_eq_true rfl) dX8_ask_15 ⟨Nat.le_of_ble_eq_true rfl, Nat.le_of_ble_eq_true rfl⟩ (fun H locs S => ?_)
    refine W.eq (g2 := F0 m 18 ls [.int q6.1]) rfl ?_
    refine lv_istore_n (lv' := [(1, .int q6.1), (0, .ref (b + a0))]) hx hb dX8_ask_18 rfl hl (by decide) rfl (fun ls hl => ?_)
    refine lv_iload_n hx hb dX8_ask_19 rfl (lv_at hl 0 rfl) ?_
    obtain ⟨q7, e_q7, hf⟩ := ob hf
    refine r_callS X S hl.1 (As := [.int q6.1]) (rest := []) (c_J6_bitCount_0f7a4 e_q7) my_J6_bitCount_0f7a4 ms_J6_bitCount_0f7a4 ml_X8_209 ⟨rfl, rfl, Nat.le_of_ble_eq_true rfl, Nat.le_of_ble_eq_true rfl⟩ rfl rfl (Nat.le_of_ble_eq_true rfl) dX8_ask_20 ⟨Nat.le_of_ble_eq_true rfl, Nat.le_of_ble_eq_true rfl⟩ (fun H locs S => ?_)
    refine W.eq (g2 := F0 m 23 ls [.int q7.1]) rfl ?_
    refine lv_istore_n (lv' := [(2, .int q7.1), (1, .int q6.1), (0, .ref (b + a0))]) hx hb dX8_ask_23 rfl hl (by decide) rfl (fun ls hl => ?_)
    refine lv_iconst (v := (-1)) hx hb dX8_ask_24 (by decide) ?_
    refine lv_istore_n (lv' := [(3, .int (-1)), (2, .int q7.1), (1, .int q6.1), (0, .ref (b + a0))]) hx hb dX8_ask_25 rfl hl (by decide) rfl (fun ls hl => ?_)
    refine lv_iload_n hx hb dX8_ask_26 rfl (lv_at hl 1 rfl) ?_
    refine lv_istore (lv' := [(4, .int q7.1), (3, .int (-1)), (2, .int q7.1), (1, .int q6.1), (0, .ref (b + a0))]) hx hb dX8_ask_27 hl (by decide) rfl (fun ls hl => ?_)
    refine lv_iconst (v := 0) hx hb dX8_ask_29 (by decide) ?_
    refine lv_istore (lv' := [(5, .int 0), (4, .int q7.1), (3, .int (-1)), (2, .int q7.1), (1, .int q6.1), (0, .ref (b + a0))]) hx hb dX8_ask_30 hl (by decide) rfl (fun ls hl => ?_)
    exact wl_X8_ask_32 X Z  FU _ _ _ _ _ _ _ hf _ _ _ S (lv_sub hl [5, 4, 3, 2, 1, 0] rfl)
def f_X8_ask (a0 : Nat) (h : HP) : Option (Int32 × HP) := ck h a0 8 (f_X8_ask_e a0 h)
theorem o_X8_ask {a0 : Nat} {h : HP} {out : Int32 × HP} (hf : f_X8_ask a0 h = some out) : ∃ fs, h[a0]? = some (.inl (8, fs)) := (ck_spec hf).1
set_option maxRecDepth 100000 in
theorem c_X8_ask {l : Launch} {G : GT} {b : Nat} {a0 : Nat} {h : HP} {out : Int32 × HP} (hf : f_X8_ask a0 h = some out) : MT l G b False False yX8_ask cX8_ask 8 (some .int) RM_X8_ask [.ref (b + a0)] h (some (.int out.1)) out.2 0 0 := by
  refine met_of (by decide) (Nat.le_of_ble_eq_true rfl) ?_
  intro p e s m below meth c ls X hnm S hl
  have hl : lv_has ls 8 [(0, .ref (b + a0))] := hl
  replace hf := (ck_spec hf).2
  exact w_X8_ask_e X (z_i X) _ _ hf _ _ _ S hl
/-! RoomRings.write(II)I -/
abbrev RM_X8_write : Room := { frames := 2, cells := 0, slots := 0, locals := 44 }
def f_X8_write_b22   (h : HP) : Option (Int32 × HP) :=
  some ((-1000000001), h)
set_option maxRecDepth 100000 in
set_option maxHeartbeats 4000000 in
theorem w_X8_write_b22 (X : CX RX8 cX8_write 3 (some .int) p s m args meth c G b) {out : Int32 × HP} (Z : ZI p l e RM_X8_write s m args below meth c cX8_write G b False 0 0 Q out)  : ∀  (h : HP), f_X8_write_b22   h = some out → ∀ (H : Heap) (locs : List Loc) (ls : Array Slot), ST G b False s h H locs → lv_has ls 3 [] → W p l e RM_X8_write s m args below meth c H locs 0 0 Q (F0 m 22 ls []) := by
  intro  h hf H locs ls S hl
  unfold f_X8_write_b22 at hf
  have hx := X.1
  have hb := X.2.1
  refine lv_ldc (v := (-1000000001)) hx hb X.2.2.2.1 (X.2.2.2.2.1 _ cn_X8_143) dX8_write_22 ?_
  obtain rfl := Option.some.inj hf
  exact Z _ _ _ _ dX8_write_24 S
def f_X8_write_e  (a0 : Nat) (x1 : Int32) (x2 : Int32) (h : HP) : Option (Int32 × HP) :=
  (gR h a0 8 1).bind fun r1 =>
  (f_X3_hasPerson r1 x1 h).bind fun q2 =>
  if q2.1 = 0 then
    f_X8_write_b22   q2.2
  else
    (gR q2.2 a0 8 1).bind fun r3 =>
    (f_X3_hasRoomOrNone r3 x2 q2.2).bind fun q4 =>
    if q4.1 = 0 then
      f_X8_write_b22   q4.2
    else
      (gR q4.2 a0 8 6).bind fun r5 =>
      (f_X5_addEntry r5 x1 x2 q4.2).bind fun q6 =>
      some (q6.1, q6.2)
set_option maxRecDepth 100000 in
set_option maxHeartbeats 4000000 in
theorem w_X8_write_e (X : CX RX8 cX8_write 3 (some .int) p s m args meth c G b) {out : Int32 × HP} (Z : ZI p l e RM_X8_write s m args below meth c cX8_write G b False 0 0 Q out)  : ∀ (a0 : Nat) (x1 : Int32) (x2 : Int32) (h : HP), f_X8_write_e  a0 x1 x2 h = some out → ∀ (H : Heap) (locs : List Loc) (ls : Array Slot), ST G b False s h H locs → lv_has ls 3 [(0, .ref (b + a0)), (1, .int x1), (2, .int x2)] → W p l e RM_X8_write s m args below meth c H locs 0 0 Q (F0 m 0 ls []) := by
  intro a0 x1 x2 h hf H locs ls S hl
  unfold f_X8_write_e at hf
  have hx := X.1
  have hb := X.2.1
  refine lv_aload_n hx hb dX8_write_0 rfl (lv_at hl 0 rfl) ?_
  obtain ⟨r1, e_r1, hf⟩ := ob hf
  refine r_getR X S fl_X8_19 e_r1 dX8_write_1 ?_
  refine lv_iload_n hx hb dX8_write_4 rfl (lv_at hl 1 rfl) ?_
  obtain ⟨q2, e_q2, hf⟩ := ob hf
  refine r_callV X S hl.1 (As := [.int x1]) (rest := []) (c_X3_hasPerson e_q2) my_X3_hasPerson mv_X3_hasPerson ml_X8_139 rfl (o_X3_hasPerson e_q2) ⟨rfl, rfl, Nat.le_of_ble_eq_true rfl, Nat.le_of_ble_eq_true rfl⟩ rfl rfl (Nat.le_of_ble_eq_true rfl) dX8_write_5 ⟨Nat.le_of_ble_eq_true rfl, Nat.le_of_ble_eq_true rfl⟩ (fun H locs S => ?_)
  refine W.eq (g2 := F0 m 8 ls [.int q2.1]) rfl ?_
  refine lv_if_eq (tgt := 22) hx hb dX8_write_8 (by decide) (fun hc => ?_) (fun hc => ?_)
  · replace hf := ip hf hc
    exact w_X8_write_b22 X Z  _ hf _ _ _ S (lv_sub hl [] rfl)
  · replace hf := im hf hc
    refine lv_aload_n hx hb dX8_write_11 rfl (lv_at hl 0 rfl) ?_
    obtain ⟨r3, e_r3, hf⟩ := ob hf
    refine r_getR X S fl_X8_19 e_r3 dX8_write_12 ?_
    refine lv_iload_n hx hb dX8_write_15 rfl (lv_at hl 2 rfl) ?_
    obtain ⟨q4, e_q4, hf⟩ := ob hf
    refine r_callV X S hl.1 (As := [.int x2]) (rest := []) (c_X3_hasRoomOrNone e_q4) my_X3_hasRoomOrNone mv_X3_hasRoomOrNone ml_X8_228 rfl (o_X3_hasRoomOrNone e_q4) ⟨rfl, rfl, Nat.le_of_ble_eq_true rfl, Nat.le_of_ble_eq_true rfl⟩ rfl rfl (Nat.le_of_ble_eq_true rfl) dX8_write_16 ⟨Nat.le_of_ble_eq_true rfl, Nat.le_of_ble_eq_true rfl⟩ (fun H locs S => ?_)
    refine W.eq (g2 := F0 m 19 ls [.int q4.1]) rfl ?_
    refine lv_if_ne (tgt := 25) hx hb dX8_write_19 (by decide) (fun hc => ?_) (fun hc => ?_)
    · replace hf := im hf hc
      refine lv_aload_n hx hb dX8_write_25 rfl (lv_at hl 0 rfl) ?_
      obtain ⟨r5, e_r5, hf⟩ := ob hf
      refine r_getR X S fl_X8_50 e_r5 dX8_write_26 ?_
      refine lv_iload_n hx hb dX8_write_29 rfl (lv_at hl 1 rfl) ?_
      refine lv_iload_n hx hb dX8_write_30 rfl (lv_at hl 2 rfl) ?_
      obtain ⟨q6, e_q6, hf⟩ := ob hf
      refine r_callV X S hl.1 (As := [.int x1, .int x2]) (rest := []) (c_X5_addEntry e_q6) my_X5_addEntry mv_X5_addEntry ml_X8_258 rfl (o_X5_addEntry e_q6) ⟨rfl, rfl, Nat.le_of_ble_eq_true rfl, Nat.le_of_ble_eq_true rfl⟩ rfl rfl (Nat.le_of_ble_eq_true rfl) dX8_write_31 ⟨Nat.le_of_ble_eq_true rfl, Nat.le_of_ble_eq_true rfl⟩ (fun H locs S => ?_)
      refine W.eq (g2 := F0 m 34 ls [.int q6.1]) rfl ?_
      obtain rfl := Option.some.inj hf
      exact Z _ _ _ _ dX8_write_34 S
    · replace hf := ip hf hc
      exact w_X8_write_b22 X Z  _ hf _ _ _ S (lv_sub hl [] rfl)
def f_X8_write (a0 : Nat) (x1 : Int32) (x2 : Int32) (h : HP) : Option (Int32 × HP) := ck h a0 8 (f_X8_write_e a0 x1 x2 h)
theorem o_X8_write {a0 : Nat} {x1 : Int32} {x2 : Int32} {h : HP} {out : Int32 × HP} (hf : f_X8_write a0 x1 x2 h = some out) : ∃ fs, h[a0]? = some (.inl (8, fs)) := (ck_spec hf).1
set_option maxRecDepth 100000 in
theorem c_X8_write {l : Launch} {G : GT} {b : Nat} {a0 : Nat} {x1 : Int32} {x2 : Int32} {h : HP} {out : Int32 × HP} (hf : f_X8_write a0 x1 x2 h = some out) : MT l G b False False yX8_write cX8_write 3 (some .int) RM_X8_write [.ref (b + a0), .int x1, .int x2] h (some (.int out.1)) out.2 0 0 := by
  refine met_of (by decide) (Nat.le_of_ble_eq_true rfl) ?_
  intro p e s m below meth c ls X hnm S hl
  have hl : lv_has ls 3 [(0, .ref (b + a0)), (1, .int x1), (2, .int x2)] := hl
  replace hf := (ck_spec hf).2
  exact w_X8_write_e X (z_i X) _ _ _ _ hf _ _ _ S hl
/-! RoomRings.judge()I -/
abbrev RM_X8_judge : Room := { frames := 5, cells := 0, slots := 0, locals := 112 }
def f_X8_judge_e  (a0 : Nat) (h : HP) : Option (Int32 × HP) :=
  (gR h a0 8 6).bind fun r1 =>
  (f_X8_dealt a0 h).bind fun q2 => om q2.1 (
    none) fun r3 =>
    (f_X5_firstWrong r1 r3 q2.2).bind fun q4 =>
    some (q4.1, q4.2)
set_option maxRecDepth 100000 in
set_option maxHeartbeats 4000000 in
theorem w_X8_judge_e (X : CX RX8 cX8_judge 1 (some .int) p s m args meth c G b) {out : Int32 × HP} (Z : ZI p l e RM_X8_judge s m args below meth c cX8_judge G b False 0 0 Q out)  : ∀ (a0 : Nat) (h : HP), f_X8_judge_e  a0 h = some out → ∀ (H : Heap) (locs : List Loc) (ls : Array Slot), ST G b False s h H locs → lv_has ls 1 [(0, .ref (b + a0))] → W p l e RM_X8_judge s m args below meth c H locs 0 0 Q (F0 m 0 ls []) := by
  intro a0 h hf H locs ls S hl
  unfold f_X8_judge_e at hf
  have hx := X.1
  have hb := X.2.1
  refine lv_aload_n hx hb dX8_judge_0 rfl (lv_at hl 0 rfl) ?_
  obtain ⟨r1, e_r1, hf⟩ := ob hf
  refine r_getR X S fl_X8_50 e_r1 dX8_judge_1 ?_
  refine lv_aload_n hx hb dX8_judge_4 rfl (lv_at hl 0 rfl) ?_
  obtain ⟨⟨q2o, q2h⟩, e_q2, hf⟩ := ob hf
  cases q2o with
  | none => exact nn (om_n hf)
  | some r3 =>
    replace hf := om_s hf
    refine r_callV X S hl.1 (As := []) (rest := [.ref (b + r1)]) (c_X8_dealt e_q2) my_X8_dealt mv_X8_dealt ml_X8_103 rfl (o_X8_dealt e_q2) ⟨rfl, rfl, Nat.le_of_ble_eq_true rfl, Nat.le_of_ble_eq_true rfl⟩ rfl rfl (Nat.le_of_ble_eq_true rfl) dX8_judge_5 ⟨Nat.le_of_ble_eq_true rfl, Nat.le_of_ble_eq_true rfl⟩ (fun H locs S => ?_)
    refine W.eq (g2 := F0 m 8 ls [.ref (b + r3), .ref (b + r1)]) rfl ?_
    obtain ⟨q4, e_q4, hf⟩ := ob hf
    refine r_callV X S hl.1 (As := [.ref (b + r3)]) (rest := []) (c_X5_firstWrong e_q4) my_X5_firstWrong mv_X5_firstWrong ml_X8_261 rfl (o_X5_firstWrong e_q4) ⟨rfl, rfl, Nat.le_of_ble_eq_true rfl, Nat.le_of_ble_eq_true rfl⟩ rfl rfl (Nat.le_of_ble_eq_true rfl) dX8_judge_8 ⟨Nat.le_of_ble_eq_true rfl, Nat.le_of_ble_eq_true rfl⟩ (fun H locs S => ?_)
    refine W.eq (g2 := F0 m 11 ls [.int q4.1]) rfl ?_
    obtain rfl := Option.some.inj hf
    exact Z _ _ _ _ dX8_judge_11 S
def f_X8_judge (a0 : Nat) (h : HP) : Option (Int32 × HP) := ck h a0 8 (f_X8_judge_e a0 h)
theorem o_X8_judge {a0 : Nat} {h : HP} {out : Int32 × HP} (hf : f_X8_judge a0 h = some out) : ∃ fs, h[a0]? = some (.inl (8, fs)) := (ck_spec hf).1
set_option maxRecDepth 100000 in
theorem c_X8_judge {l : Launch} {G : GT} {b : Nat} {a0 : Nat} {h : HP} {out : Int32 × HP} (hf : f_X8_judge a0 h = some out) : MT l G b False False yX8_judge cX8_judge 1 (some .int) RM_X8_judge [.ref (b + a0)] h (some (.int out.1)) out.2 0 0 := by
  refine met_of (by decide) (Nat.le_of_ble_eq_true rfl) ?_
  intro p e s m below meth c ls X hnm S hl
  have hl : lv_has ls 1 [(0, .ref (b + a0))] := hl
  replace hf := (ck_spec hf).2
  exact w_X8_judge_e X (z_i X) _ _ hf _ _ _ S hl
/-! RoomRings.tear()I -/
abbrev RM_X8_tear : Room := { frames := 1, cells := 0, slots := 0, locals := 20 }
def f_X8_tear_e  (a0 : Nat) (h : HP) : Option (Int32 × HP) :=
  (gR h a0 8 6).bind fun r1 =>
  (gI h r1 5 0).bind fun v2 =>
  (gR h a0 8 6).bind fun r3 =>
  (gI h r3 5 1).bind fun v4 =>
  (gR h a0 8 6).bind fun r5 =>
  (f_X5_clear r5 h).bind fun h6 =>
  some ((v2 + v4), h6)
set_option maxRecDepth 100000 in
set_option maxHeartbeats 4000000 in
theorem w_X8_tear_e (X : CX RX8 cX8_tear 2 (some .int) p s m args meth c G b) {out : Int32 × HP} (Z : ZI p l e RM_X8_tear s m args below meth c cX8_tear G b False 0 0 Q out)  : ∀ (a0 : Nat) (h : HP), f_X8_tear_e  a0 h = some out → ∀ (H : Heap) (locs : List Loc) (ls : Array Slot), ST G b False s h H locs → lv_has ls 2 [(0, .ref (b + a0))] → W p l e RM_X8_tear s m args below meth c H locs 0 0 Q (F0 m 0 ls []) := by
  intro a0 h hf H locs ls S hl
  unfold f_X8_tear_e at hf
  have hx := X.1
  have hb := X.2.1
  refine lv_aload_n hx hb dX8_tear_0 rfl (lv_at hl 0 rfl) ?_
  obtain ⟨r1, e_r1, hf⟩ := ob hf
  refine r_getR X S fl_X8_50 e_r1 dX8_tear_1 ?_
  obtain ⟨v2, e_v2, hf⟩ := ob hf
  refine r_getI X S fl_X8_130 e_v2 dX8_tear_4 ?_
  refine lv_aload_n hx hb dX8_tear_7 rfl (lv_at hl 0 rfl) ?_
  obtain ⟨r3, e_r3, hf⟩ := ob hf
  refine r_getR X S fl_X8_50 e_r3 dX8_tear_8 ?_
  obtain ⟨v4, e_v4, hf⟩ := ob hf
  refine r_getI X S fl_X8_133 e_v4 dX8_tear_11 ?_
  refine lv_iadd hx hb dX8_tear_14 ?_
  refine lv_istore_n (lv' := [(1, .int (v2 + v4)), (0, .ref (b + a0))]) hx hb dX8_tear_15 rfl hl (by decide) rfl (fun ls hl => ?_)
  refine lv_aload_n hx hb dX8_tear_16 rfl (lv_at hl 1 rfl) ?_
  obtain ⟨r5, e_r5, hf⟩ := ob hf
  refine r_getR X S fl_X8_50 e_r5 dX8_tear_17 ?_
  obtain ⟨h6, e_h6, hf⟩ := ob hf
  refine r_callV X S hl.1 (As := []) (rest := []) (c_X5_clear e_h6) my_X5_clear mv_X5_clear ml_X8_84 rfl (o_X5_clear e_h6) ⟨rfl, rfl, Nat.le_of_ble_eq_true rfl, Nat.le_of_ble_eq_true rfl⟩ rfl rfl (Nat.le_of_ble_eq_true rfl) dX8_tear_20 ⟨Nat.le_of_ble_eq_true rfl, Nat.le_of_ble_eq_true rfl⟩ (fun H locs S => ?_)
  refine W.eq (g2 := F0 m 23 ls []) rfl ?_
  refine lv_iload_n hx hb dX8_tear_23 rfl (lv_at hl 0 rfl) ?_
  obtain rfl := Option.some.inj hf
  exact Z _ _ _ _ dX8_tear_24 S
def f_X8_tear (a0 : Nat) (h : HP) : Option (Int32 × HP) := ck h a0 8 (f_X8_tear_e a0 h)
theorem o_X8_tear {a0 : Nat} {h : HP} {out : Int32 × HP} (hf : f_X8_tear a0 h = some out) : ∃ fs, h[a0]? = some (.inl (8, fs)) := (ck_spec hf).1
set_option maxRecDepth 100000 in
theorem c_X8_tear {l : Launch} {G : GT} {b : Nat} {a0 : Nat} {h : HP} {out : Int32 × HP} (hf : f_X8_tear a0 h = some out) : MT l G b False False yX8_tear cX8_tear 2 (some .int) RM_X8_tear [.ref (b + a0)] h (some (.int out.1)) out.2 0 0 := by
  refine met_of (by decide) (Nat.le_of_ble_eq_true rfl) ?_
  intro p e s m below meth c ls X hnm S hl
  have hl : lv_has ls 2 [(0, .ref (b + a0))] := hl
  replace hf := (ck_spec hf).2
  exact w_X8_tear_e X (z_i X) _ _ hf _ _ _ S hl
end M10
