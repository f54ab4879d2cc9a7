section M18
variable {p : Program} {l : Launch} {e : Env} {s : State} {m : MethodId} {args : Array Value} {below : List Frame} {meth : Method} {c : Code} {Q : State → Prop} {G : GT} {b : Nat}
/-! RoomRingsModel.draw(I)I -/
abbrev RM_X9_draw : Room := { frames := 0, cells := 0, slots := 0, locals := 0 }
def f_X9_draw_e  (a0 : Nat) (x1 : Int32) (h : HP) : Option (Int32 × HP) :=
  (gR h a0 9 0).bind fun r1 =>
  (ald h r1 66).bind fun v2 =>
  (some ((((Int32.toInt64 v2) * 1103515245) + 12345) - (((Int32.toInt64 v2) * 1103515245) + 12345) / 2147483648 * 2147483648)).bind fun y3 =>
  (gR h a0 9 0).bind fun r4 =>
  (ast h r4 66 (Int64.toInt32 y3)).bind fun h5 =>
  (gR h5 a0 9 0).bind fun r6 =>
  (ald h5 r6 66).bind fun v7 =>
  if x1 = 0 then none else
  some (((v7 / 65536) - (v7 / 65536) / x1 * x1), h5)
set_option maxRecDepth 100000 in
set_option maxHeartbeats 4000000 in
theorem w_X9_draw_e (X : CX RX9 cX9_draw 4 (some .int) p s m args meth c G b) {out : Int32 × HP} (Z : ZI p l e RM_X9_draw s m args below meth c cX9_draw G b False 0 0 Q out)  : ∀ (a0 : Nat) (x1 : Int32) (h : HP), f_X9_draw_e  a0 x1 h = some out → ∀ (H : Heap) (locs : List Loc) (ls : Array Slot), ST G b False s h H locs → lv_has ls 4 [(0, .ref (b + a0)), (1, .int x1)] → W p l e RM_X9_draw s m args below meth c H locs 0 0 Q (F0 m 0 ls []) := by
  intro a0 x1 h hf H locs ls S hl
  unfold f_X9_draw_e at hf
  have hx := X.1
  have hb := X.2.1
  refine lv_aload_n hx hb dX9_draw_0 rfl (lv_at hl 0 rfl) ?_
  obtain ⟨r1, e_r1, hf⟩ := ob hf
  refine r_getR X S fl_X9_7 e_r1 dX9_draw_1 ?_
  refine lv_bipush (v := 66) hx hb dX9_draw_4 (by decide) ?_
  obtain ⟨v2, e_v2, hf⟩ := ob hf
  refine r_ald X S e_v2 dX9_draw_6 ?_
  refine lv_i2l (v := Int32.toInt64 v2) hx hb dX9_draw_7 rfl ?_
  refine lv_ldc2 (v := 1103515245) hx hb X.2.2.2.1 (X.2.2.2.2.1 _ cl_X9_237) dX9_draw_8 ?_
  refine lv_lmul hx hb dX9_draw_11 ?_
  refine lv_ldc2 (v := 12345) hx hb X.2.2.2.1 (X.2.2.2.2.1 _ cl_X9_239) dX9_draw_12 ?_
  refine lv_ladd hx hb dX9_draw_15 ?_
  refine lv_ldc2 (v := 2147483648) hx hb X.2.2.2.1 (X.2.2.2.2.1 _ cl_X9_241) dX9_draw_16 ?_
  refine lv_lrem hx hb dX9_draw_19 (by decide) ?_
  obtain ⟨y3, e_y3, hf⟩ := ob hf
  rw [Option.some.inj e_y3]
  refine lv_lstore_n (lv' := [(2, .long y3), (0, .ref (b + a0)), (1, .int x1)]) hx hb dX9_draw_20 rfl hl (by decide) rfl (fun ls hl => ?_)
  refine lv_aload_n hx hb dX9_draw_21 rfl (lv_at hl 1 rfl) ?_
  obtain ⟨r4, e_r4, hf⟩ := ob hf
  refine r_getR X S fl_X9_7 e_r4 dX9_draw_22 ?_
  refine lv_bipush (v := 66) hx hb dX9_draw_25 (by decide) ?_
  refine lv_lload_n hx hb dX9_draw_27 rfl (lv_at hl 0 rfl) ?_
  refine lv_l2i (v := Int64.toInt32 y3) hx hb dX9_draw_28 rfl ?_
  obtain ⟨h5, e_h5, hf⟩ := ob hf
  refine r_ast X S e_h5 dX9_draw_29 (fun H locs S => ?_)
  refine lv_aload_n hx hb dX9_draw_30 rfl (lv_at hl 1 rfl) ?_
  obtain ⟨r6, e_r6, hf⟩ := ob hf
  refine r_getR X S fl_X9_7 e_r6 dX9_draw_31 ?_
  refine lv_bipush (v := 66) hx hb dX9_draw_34 (by decide) ?_
  obtain ⟨v7, e_v7, hf⟩ := ob hf
  refine r_ald X S e_v7 dX9_draw_36 ?_
  refine lv_ldc (v := 65536) hx hb X.2.2.2.1 (X.2.2.2.2.1 _ cn_X9_243) dX9_draw_37 ?_
  refine lv_idiv hx hb dX9_draw_39 (by decide) ?_
  refine lv_iload_n hx hb dX9_draw_40 rfl (lv_at hl 2 rfl) ?_
  obtain ⟨hne, hf⟩ := ign hf
  refine lv_irem hx hb dX9_draw_41 hne ?_
  obtain rfl := Option.some.inj hf
  exact Z _ _ _ _ dX9_draw_42 S
def f_X9_draw (a0 : Nat) (x1 : Int32) (h : HP) : Option (Int32 × HP) := ck h a0 9 (f_X9_draw_e a0 x1 h)
theorem o_X9_draw {a0 : Nat} {x1 : Int32} {h : HP} {out : Int32 × HP} (hf : f_X9_draw a0 x1 h = some out) : ∃ fs, h[a0]? = some (.inl (9, fs)) := (ck_spec hf).1
set_option maxRecDepth 100000 in
theorem c_X9_draw {l : Launch} {G : GT} {b : Nat} {a0 : Nat} {x1 : Int32} {h : HP} {out : Int32 × HP} (hf : f_X9_draw a0 x1 h = some out) : MT l G b False False yX9_draw cX9_draw 4 (some .int) RM_X9_draw [.ref (b + a0), .int x1] h (some (.int out.1)) out.2 0 0 := by
  refine met_of (by decide) (Nat.le_of_ble_eq_true rfl) ?_
  intro p e s m below meth c ls X hnm S hl
  have hl : lv_has ls 4 [(0, .ref (b + a0)), (1, .int x1)] := hl
  replace hf := (ck_spec hf).2
  exact w_X9_draw_e X (z_i X) _ _ _ hf _ _ _ S hl
/-! RoomRingsModel.time()V -/
abbrev RM_X9_time : Room := { frames := 8, cells := 0, slots := 0, locals := 181 }
def f_X9_time_b92   (h : HP) : Option (HP) :=
  some h
set_option maxRecDepth 100000 in
set_option maxHeartbeats 4000000 in
theorem w_X9_time_b92 (X : CX RX9 cX9_time 4 none p s m args meth c G b) {out : HP} (Z : ZV p l e RM_X9_time s m args below meth c cX9_time G b False 0 0 Q out)  : ∀  (h : HP), f_X9_time_b92   h = some out → ∀ (H : Heap) (locs : List Loc) (ls : Array Slot), ST G b False s h H locs → lv_has ls 4 [] → W p l e RM_X9_time s m args below meth c H locs 0 0 Q (F0 m 92 ls []) := by
  intro  h hf H locs ls S hl
  unfold f_X9_time_b92 at hf
  have hx := X.1
  have hb := X.2.1
  obtain rfl := Option.some.inj hf
  exact Z _ _ _ _ dX9_time_92 S
def f_X9_time_e  (a0 : Nat) (h : HP) : Option (HP) :=
  (f_X9_draw a0 4 h).bind fun q1 =>
  (gI q1.2 a0 9 2).bind fun v2 =>
  (f_X9_draw a0 v2 q1.2).bind fun q3 =>
  if q1.1 = 0 then
    (gI q3.2 a0 9 1).bind fun v4 =>
    (f_X9_draw a0 v4 q3.2).bind fun q5 =>
    (f_X9_draw a0 8 q5.2).bind fun q6 =>
    (f_X9_putIn a0 0 q3.1 q5.1 q6.1 q6.2).bind fun h7 =>
    f_X9_time_b92   h7
  else
    if q1.1 = 1 then
      (gI q3.2 a0 9 1).bind fun v8 =>
      (f_X9_draw a0 v8 q3.2).bind fun q9 =>
      (f_X9_strikeOut a0 0 q3.1 q9.1 q9.2).bind fun h10 =>
      f_X9_time_b92   h10
    else
      if q1.1 = 2 then
        (gI q3.2 a0 9 2).bind fun v11 =>
        (f_X9_draw a0 v11 q3.2).bind fun q12 =>
        (f_X9_setLot a0 q3.1 q12.1 q12.2).bind fun h13 =>
        f_X9_time_b92   h13
      else
        (f_X9_moveAll a0 q3.2).bind fun q14 =>
        f_X9_time_b92   q14.2
set_option maxRecDepth 100000 in
set_option maxHeartbeats 4000000 in
theorem w_X9_time_e (X : CX RX9 cX9_time 4 none p s m args meth c G b) {out : HP} (Z : ZV p l e RM_X9_time s m args below meth c cX9_time G b False 0 0 Q out)  : ∀ (a0 : Nat) (h : HP), f_X9_time_e  a0 h = some out → ∀ (H : Heap) (locs : List Loc) (ls : Array Slot), ST G b False s h H locs → lv_has ls 4 [(0, .ref (b + a0))] → W p l e RM_X9_time s m args below meth c H locs 0 0 Q (F0 m 0 ls []) := by
  intro a0 h hf H locs ls S hl
  unfold f_X9_time_e at hf
  have hx := X.1
  have hb := X.2.1
  refine lv_aload_n hx hb dX9_time_0 rfl (lv_at hl 0 rfl) ?_
  refine lv_iconst (v := 4) hx hb dX9_time_1 (by decide) ?_
  obtain ⟨q1, e_q1, hf⟩ := ob hf
  refine r_callV X S hl.1 (As := [.int 4]) (rest := []) (c_X9_draw e_q1) my_X9_draw mv_X9_draw ml_X9_244 rfl (o_X9_draw e_q1) ⟨rfl, rfl, Nat.le_of_ble_eq_true rfl, Nat.le_of_ble_eq_true rfl⟩ rfl rfl (Nat.le_of_ble_eq_true rfl) dX9_time_2 ⟨Nat.le_of_ble_eq_true rfl, Nat.le_of_ble_eq_true rfl⟩ (fun H locs S => ?_)
  refine W.eq (g2 := F0 m 5 ls [.int q1.1]) rfl ?_
  refine lv_istore_n (lv' := [(1, .int q1.1), (0, .ref (b + a0))]) hx hb dX9_time_5 rfl hl (by decide) rfl (fun ls hl => ?_)
  refine lv_aload_n hx hb dX9_time_6 rfl (lv_at hl 1 rfl) ?_
  refine lv_aload_n hx hb dX9_time_7 rfl (lv_at hl 1 rfl) ?_
  obtain ⟨v2, e_v2, hf⟩ := ob hf
  refine r_getI X S fl_X9_51 e_v2 dX9_time_8 ?_
  obtain ⟨q3, e_q3, hf⟩ := ob hf
  refine r_callV X S hl.1 (As := [.int v2]) (rest := []) (c_X9_draw e_q3) my_X9_draw mv_X9_draw ml_X9_244 rfl (o_X9_draw e_q3) ⟨rfl, rfl, Nat.le_of_ble_eq_true rfl, Nat.le_of_ble_eq_true rfl⟩ rfl rfl (Nat.le_of_ble_eq_true rfl) dX9_time_11 ⟨Nat.le_of_ble_eq_true rfl, Nat.le_of_ble_eq_true rfl⟩ (fun H locs S => ?_)
  refine W.eq (g2 := F0 m 14 ls [.int q3.1]) rfl ?_
  refine lv_istore_n (lv' := [(2, .int q3.1), (1, .int q1.1), (0, .ref (b + a0))]) hx hb dX9_time_14 rfl hl (by decide) rfl (fun ls hl => ?_)
  refine lv_iload_n hx hb dX9_time_15 rfl (lv_at hl 1 rfl) ?_
  refine lv_if_ne (tgt := 44) hx hb dX9_time_16 (by decide) (fun hc => ?_) (fun hc => ?_)
  · replace hf := im hf hc
    refine lv_iload_n hx hb dX9_time_44 rfl (lv_at hl 1 rfl) ?_
    refine lv_iconst (v := 1) hx hb dX9_time_45 (by decide) ?_
    refine lv_icmp_ne (tgt := 66) hx hb dX9_time_46 (by decide) (fun hc => ?_) (fun hc => ?_)
    · replace hf := im hf hc
      refine lv_iload_n hx hb dX9_time_66 rfl (lv_at hl 1 rfl) ?_
      refine lv_iconst (v := 2) hx hb dX9_time_67 (by decide) ?_
      refine lv_icmp_ne (tgt := 87) hx hb dX9_time_68 (by decide) (fun hc => ?_) (fun hc => ?_)
      · replace hf := im hf hc
        refine lv_aload_n hx hb dX9_time_87 rfl (lv_at hl 2 rfl) ?_
        obtain ⟨q14, e_q14, hf⟩ := ob hf
        refine r_callV X S hl.1 (As := []) (rest := []) (c_X9_moveAll e_q14) my_X9_moveAll mv_X9_moveAll ml_X9_234 rfl (o_X9_moveAll e_q14) ⟨rfl, rfl, Nat.le_of_ble_eq_true rfl, Nat.le_of_ble_eq_true rfl⟩ rfl rfl (Nat.le_of_ble_eq_true rfl) dX9_time_88 ⟨Nat.le_of_ble_eq_true rfl, Nat.le_of_ble_eq_true rfl⟩ (fun H locs S => ?_)
        refine W.eq (g2 := F0 m 91 ls [.int q14.1]) rfl ?_
        refine lv_istore_n (lv' := [(3, .int q14.1), (2, .int q3.1), (1, .int q1.1), (0, .ref (b + a0))]) hx hb dX9_time_91 rfl hl (by decide) rfl (fun ls hl => ?_)
        exact w_X9_time_b92 X Z  _ hf _ _ _ S (lv_sub hl [] rfl)
      · replace hf := ip hf hc
        refine lv_aload_n hx hb dX9_time_71 rfl (lv_at hl 2 rfl) ?_
        refine lv_iload_n hx hb dX9_time_72 rfl (lv_at hl 0 rfl) ?_
        refine lv_aload_n hx hb dX9_time_73 rfl (lv_at hl 2 rfl) ?_
        refine lv_aload_n hx hb dX9_time_74 rfl (lv_at hl 2 rfl) ?_
        obtain ⟨v11, e_v11, hf⟩ := ob hf
        refine r_getI X S fl_X9_51 e_v11 dX9_time_75 ?_
        obtain ⟨q12, e_q12, hf⟩ := ob hf
        refine r_callV X S hl.1 (As := [.int v11]) (rest := [.int q3.1, .ref (b + a0)]) (c_X9_draw e_q12) my_X9_draw mv_X9_draw ml_X9_244 rfl (o_X9_draw e_q12) ⟨rfl, rfl, Nat.le_of_ble_eq_true rfl, Nat.le_of_ble_eq_true rfl⟩ rfl rfl (Nat.le_of_ble_eq_true rfl) dX9_time_78 ⟨Nat.le_of_ble_eq_true rfl, Nat.le_of_ble_eq_true rfl⟩ (fun H locs S => ?_)
        refine W.eq (g2 := F0 m 81 ls [.int q12.1, .int q3.1, .ref (b + a0)]) rfl ?_
        obtain ⟨h13, e_h13, hf⟩ := ob hf
        refine r_callV X S hl.1 (As := [.int q3.1, .int q12.1]) (rest := []) (c_X9_setLot e_h13) my_X9_setLot mv_X9_setLot ml_X9_231 rfl (o_X9_setLot e_h13) ⟨rfl, rfl, Nat.le_of_ble_eq_true rfl, Nat.le_of_ble_eq_true rfl⟩ rfl rfl (Nat.le_of_ble_eq_true rfl) dX9_time_81 ⟨Nat.le_of_ble_eq_true rfl, Nat.le_of_ble_eq_true rfl⟩ (fun H locs S => ?_)
        refine W.eq (g2 := F0 m 84 ls []) rfl ?_
        refine lv_goto (tgt := 92) hx hb dX9_time_84 (by decide) ?_
        exact w_X9_time_b92 X Z  _ hf _ _ _ S (lv_sub hl [] rfl)
    · replace hf := ip hf hc
      refine lv_aload_n hx hb dX9_time_49 rfl (lv_at hl 2 rfl) ?_
      refine lv_iconst (v := 0) hx hb dX9_time_50 (by decide) ?_
      refine lv_iload_n hx hb dX9_time_51 rfl (lv_at hl 0 rfl) ?_
      refine lv_aload_n hx hb dX9_time_52 rfl (lv_at hl 2 rfl) ?_
      refine lv_aload_n hx hb dX9_time_53 rfl (lv_at hl 2 rfl) ?_
      obtain ⟨v8, e_v8, hf⟩ := ob hf
      refine r_getI X S fl_X9_58 e_v8 dX9_time_54 ?_
      obtain ⟨q9, e_q9, hf⟩ := ob hf
      refine r_callV X S hl.1 (As := [.int v8]) (rest := [.int q3.1, .int 0, .ref (b + a0)]) (c_X9_draw e_q9) my_X9_draw mv_X9_draw ml_X9_244 rfl (o_X9_draw e_q9) ⟨rfl, rfl, Nat.le_of_ble_eq_true rfl, Nat.le_of_ble_eq_true rfl⟩ rfl rfl (Nat.le_of_ble_eq_true rfl) dX9_time_57 ⟨Nat.le_of_ble_eq_true rfl, Nat.le_of_ble_eq_true rfl⟩ (fun H locs S => ?_)
      refine W.eq (g2 := F0 m 60 ls [.int q9.1, .int q3.1, .int 0, .ref (b + a0)]) rfl ?_
      obtain ⟨h10, e_h10, hf⟩ := ob hf
      refine r_callV X S hl.1 (As := [.int 0, .int q3.1, .int q9.1]) (rest := []) (c_X9_strikeOut e_h10) my_X9_strikeOut mv_X9_strikeOut ml_X9_219 rfl (o_X9_strikeOut e_h10) ⟨rfl, rfl, Nat.le_of_ble_eq_true rfl, Nat.le_of_ble_eq_true rfl⟩ rfl rfl (Nat.le_of_ble_eq_true rfl) dX9_time_60 ⟨Nat.le_of_ble_eq_true rfl, Nat.le_of_ble_eq_true rfl⟩ (fun H locs S => ?_)
      refine W.eq (g2 := F0 m 63 ls []) rfl ?_
      refine lv_goto (tgt := 92) hx hb dX9_time_63 (by decide) ?_
      exact w_X9_time_b92 X Z  _ hf _ _ _ S (lv_sub hl [] rfl)
  · replace hf := ip hf hc
    refine lv_aload_n hx hb dX9_time_19 rfl (lv_at hl 2 rfl) ?_
    refine lv_aload_n hx hb dX9_time_20 rfl (lv_at hl 2 rfl) ?_
    obtain ⟨v4, e_v4, hf⟩ := ob hf
    refine r_getI X S fl_X9_58 e_v4 dX9_time_21 ?_
    obtain ⟨q5, e_q5, hf⟩ := ob hf
    refine r_callV X S hl.1 (As := [.int v4]) (rest := []) (c_X9_draw e_q5) my_X9_draw mv_X9_draw ml_X9_244 rfl (o_X9_draw e_q5) ⟨rfl, rfl, Nat.le_of_ble_eq_true rfl, Nat.le_of_ble_eq_true rfl⟩ rfl rfl (Nat.le_of_ble_eq_true rfl) dX9_time_24 ⟨Nat.le_of_ble_eq_true rfl, Nat.le_of_ble_eq_true rfl⟩ (fun H locs S => ?_)
    refine W.eq (g2 := F0 m 27 ls [.int q5.1]) rfl ?_
    refine lv_istore_n (lv' := [(3, .int q5.1), (2, .int q3.1), (1, .int q1.1), (0, .ref (b + a0))]) hx hb dX9_time_27 rfl hl (by decide) rfl (fun ls hl => ?_)
    refine lv_aload_n hx hb dX9_time_28 rfl (lv_at hl 3 rfl) ?_
    refine lv_iconst (v := 0) hx hb dX9_time_29 (by decide) ?_
    refine lv_iload_n hx hb dX9_time_30 rfl (lv_at hl 1 rfl) ?_
    refine lv_iload_n hx hb dX9_time_31 rfl (lv_at hl 0 rfl) ?_
    refine lv_aload_n hx hb dX9_time_32 rfl (lv_at hl 3 rfl) ?_
    refine lv_bipush (v := 8) hx hb dX9_time_33 (by decide) ?_
    obtain ⟨q6, e_q6, hf⟩ := ob hf
    refine r_callV X S hl.1 (As := [.int 8]) (rest := [.int q5.1, .int q3.1, .int 0, .ref (b + a0)]) (c_X9_draw e_q6) my_X9_draw mv_X9_draw ml_X9_244 rfl (o_X9_draw e_q6) ⟨rfl, rfl, Nat.le_of_ble_eq_true rfl, Nat.le_of_ble_eq_true rfl⟩ rfl rfl (Nat.le_of_ble_eq_true rfl) dX9_time_35 ⟨Nat.le_of_ble_eq_true rfl, Nat.le_of_ble_eq_true rfl⟩ (fun H locs S => ?_)
    refine W.eq (g2 := F0 m 38 ls [.int q6.1, .int q5.1, .int q3.1, .int 0, .ref (b + a0)]) rfl ?_
    obtain ⟨h7, e_h7, hf⟩ := ob hf
    refine r_callV X S hl.1 (As := [.int 0, .int q3.1, .int q5.1, .int q6.1]) (rest := []) (c_X9_putIn e_h7) my_X9_putIn mv_X9_putIn ml_X9_226 rfl (o_X9_putIn e_h7) ⟨rfl, rfl, Nat.le_of_ble_eq_true rfl, Nat.le_of_ble_eq_true rfl⟩ rfl rfl (Nat.le_of_ble_eq_true rfl) dX9_time_38 ⟨Nat.le_of_ble_eq_true rfl, Nat.le_of_ble_eq_true rfl⟩ (fun H locs S => ?_)
    refine W.eq (g2 := F0 m 41 ls []) rfl ?_
    refine lv_goto (tgt := 92) hx hb dX9_time_41 (by decide) ?_
    exact w_X9_time_b92 X Z  _ hf _ _ _ S (lv_sub hl [] rfl)
def f_X9_time (a0 : Nat) (h : HP) : Option (HP) := ck h a0 9 (f_X9_time_e a0 h)
theorem o_X9_time {a0 : Nat} {h : HP} {out : HP} (hf : f_X9_time a0 h = some out) : ∃ fs, h[a0]? = some (.inl (9, fs)) := (ck_spec hf).1
set_option maxRecDepth 100000 in
theorem c_X9_time {l : Launch} {G : GT} {b : Nat} {a0 : Nat} {h : HP} {out : HP} (hf : f_X9_time a0 h = some out) : MT l G b False False yX9_time cX9_time 4 none RM_X9_time [.ref (b + a0)] h none out 0 0 := by
  refine met_of (by decide) (Nat.le_of_ble_eq_true rfl) ?_
  intro p e s m below meth c ls X hnm S hl
  have hl : lv_has ls 4 [(0, .ref (b + a0))] := hl
  replace hf := (ck_spec hf).2
  exact w_X9_time_e X (z_v X) _ _ hf _ _ _ S hl
/-! RoomRingsModel.drift(I)I -/
abbrev RM_X9_drift : Room := { frames := 9, cells := 0, slots := 0, locals := 204 }
def f_X9_drift_b51  (a0 : Nat) (h : HP) : Option (Int32 × HP) :=
  (f_X9_roomsLeft a0 0 h).bind fun q1 =>
  (f_X9_bits q1.1 q1.2).bind fun q2 =>
  some (q2.1, q2.2)
set_option maxRecDepth 100000 in
set_option maxHeartbeats 4000000 in
theorem w_X9_drift_b51 (X : CX RX9 cX9_drift 3 (some .int) p s m args meth c G b) {out : Int32 × HP} (Z : ZI p l e RM_X9_drift s m args below meth c cX9_drift G b False 0 0 Q out)  : ∀ (a0 : Nat) (h : HP), f_X9_drift_b51  a0 h = some out → ∀ (H : Heap) (locs : List Loc) (ls : Array Slot), ST G b False s h H locs → lv_has ls 3 [(0, .ref (b + a0))] → W p l e RM_X9_drift s m args below meth c H locs 0 0 Q (F0 m 51 ls []) := by
  intro a0 h hf H locs ls S hl
  unfold f_X9_drift_b51 at hf
  have hx := X.1
  have hb := X.2.1
  refine lv_aload_n hx hb dX9_drift_51 rfl (lv_at hl 0 rfl) ?_
  refine lv_iconst (v := 0) hx hb dX9_drift_52 (by decide) ?_
  obtain ⟨q1, e_q1, hf⟩ := ob hf
  refine r_callV X S hl.1 (As := [.int 0]) (rest := []) (c_X9_roomsLeft e_q1) my_X9_roomsLeft mv_X9_roomsLeft ml_X9_193 rfl (o_X9_roomsLeft e_q1) ⟨rfl, rfl, Nat.le_of_ble_eq_true rfl, Nat.le_of_ble_eq_true rfl⟩ rfl rfl (Nat.le_of_ble_eq_true rfl) dX9_drift_53 ⟨Nat.le_of_ble_eq_true rfl, Nat.le_of_ble_eq_true rfl⟩ (fun H locs S => ?_)
  refine W.eq (g2 := F0 m 56 ls [.int q1.1]) rfl ?_
  obtain ⟨q2, e_q2, hf⟩ := ob hf
  refine r_callS X S hl.1 (As := [.int q1.1]) (rest := []) (c_X9_bits e_q2) my_X9_bits ms_X9_bits ml_X9_172 ⟨rfl, rfl, Nat.le_of_ble_eq_true rfl, Nat.le_of_ble_eq_true rfl⟩ rfl rfl (Nat.le_of_ble_eq_true rfl) dX9_drift_56 ⟨Nat.le_of_ble_eq_true rfl, Nat.le_of_ble_eq_true rfl⟩ (fun H locs S => ?_)
  refine W.eq (g2 := F0 m 59 ls [.int q2.1]) rfl ?_
  obtain rfl := Option.some.inj hf
  exact Z _ _ _ _ dX9_drift_59 S
def f_X9_drift_b25 (K25 : Nat → Int32 → Int32 → HP → Option (Int32 × HP)) (a0 : Nat) (x1 : Int32) (x2 : Int32) (h : HP) : Option (Int32 × HP) :=
  if x1 ≤ x2 then
    f_X9_drift_b51  a0 h
  else
    (gI h a0 9 2).bind fun v1 =>
    if v1 ≤ 0 then
      f_X9_drift_b51  a0 h
    else
      (f_X9_remember a0 h).bind fun h2 =>
      (f_X9_time a0 h2).bind fun h3 =>
      K25 a0 x1 (x2 + 1) h3
set_option maxRecDepth 100000 in
set_option maxHeartbeats 4000000 in
theorem w_X9_drift_b25 (X : CX RX9 cX9_drift 3 (some .int) p s m args meth c G b) {out : Int32 × HP} (Z : ZI p l e RM_X9_drift s m args below meth c cX9_drift G b False 0 0 Q out) {K25 : Nat → Int32 → Int32 → HP → Option (Int32 × HP)} (hK25 : ∀ (a0 : Nat) (x1 : Int32) (x2 : Int32) (h : HP), K25 a0 x1 x2 h = some out → ∀ (H : Heap) (locs : List Loc) (ls : Array Slot), ST G b False s h H locs → lv_has ls 3 [(0, .ref (b + a0)), (1, .int x1), (2, .int x2)] → W p l e RM_X9_drift s m args below meth c H locs 0 0 Q (F0 m 25 ls [])) : ∀ (a0 : Nat) (x1 : Int32) (x2 : Int32) (h : HP), f_X9_drift_b25 K25 a0 x1 x2 h = some out → ∀ (H : Heap) (locs : List Loc) (ls : Array Slot), ST G b False s h H locs → lv_has ls 3 [(0, .ref (b + a0)), (1, .int x1), (2, .int x2)] → W p l e RM_X9_drift s m args below meth c H locs 0 0 Q (F0 m 25 ls []) := by
  intro a0 x1 x2 h hf H locs ls S hl
  unfold f_X9_drift_b25 at hf
  have hx := X.1
  have hb := X.2.1
  refine lv_iload_n hx hb dX9_drift_25 rfl (lv_at hl 2 rfl) ?_
  refine lv_iload_n hx hb dX9_drift_26 rfl (lv_at hl 1 rfl) ?_
  refine lv_icmp_ge (tgt := 51) hx hb dX9_drift_27 (by decide) (fun hc => ?_) (fun hc => ?_)
  · replace hf := ip hf hc
    exact w_X9_drift_b51 X Z  _ _ hf _ _ _ S (lv_sub hl [0] rfl)
  · replace hf := im hf hc
    refine lv_aload_n hx hb dX9_drift_30 rfl (lv_at hl 0 rfl) ?_
    obtain ⟨v1, e_v1, hf⟩ := ob hf
    refine r_getI X S fl_X9_51 e_v1 dX9_drift_31 ?_
    refine lv_if_le (tgt := 51) hx hb dX9_drift_34 (by decide) (fun hc => ?_) (fun hc => ?_)
    · replace hf := ip hf hc
      exact w_X9_drift_b51 X Z  _ _ hf _ _ _ S (lv_sub hl [0] rfl)
    · replace hf := im hf hc
      refine lv_aload_n hx hb dX9_drift_37 rfl (lv_at hl 0 rfl) ?_
      obtain ⟨h2, e_h2, hf⟩ := ob hf
      refine r_callV X S hl.1 (As := []) (rest := []) (c_X9_remember e_h2) my_X9_remember mv_X9_remember ml_X9_223 rfl (o_X9_remember e_h2) ⟨rfl, rfl, Nat.le_of_ble_eq_true rfl, Nat.le_of_ble_eq_true rfl⟩ rfl rfl (Nat.le_of_ble_eq_true rfl) dX9_drift_38 ⟨Nat.le_of_ble_eq_true rfl, Nat.le_of_ble_eq_true rfl⟩ (fun H locs S => ?_)
      refine W.eq (g2 := F0 m 41 ls []) rfl ?_
      refine lv_aload_n hx hb dX9_drift_41 rfl (lv_at hl 0 rfl) ?_
      obtain ⟨h3, e_h3, hf⟩ := ob hf
      refine r_callV X S hl.1 (As := []) (rest := []) (c_X9_time e_h3) my_X9_time mv_X9_time ml_X9_247 rfl (o_X9_time e_h3) ⟨rfl, rfl, Nat.le_of_ble_eq_true rfl, Nat.le_of_ble_eq_true rfl⟩ rfl rfl (Nat.le_of_ble_eq_true rfl) dX9_drift_42 ⟨Nat.le_of_ble_eq_true rfl, Nat.le_of_ble_eq_true rfl⟩ (fun H locs S => ?_)
      refine W.eq (g2 := F0 m 45 ls []) rfl ?_
      refine lv_iinc (v := x2 + 1) (lv' := [(2, .int (x2 + 1)), (0, .ref (b + a0)), (1, .int x1)]) hx hb dX9_drift_45 hl (k := 2) rfl rfl (by decide) rfl (fun ls hl => ?_)
      refine lv_goto (tgt := 25) hx hb dX9_drift_48 (by decide) ?_
      exact hK25 _ _ _ _ hf _ _ _ S (lv_sub hl [1, 2, 0] rfl)
def F_X9_drift_25  : Nat → Nat → Int32 → Int32 → HP → Option (Int32 × HP)
  | 0 => fun _ _ _ _ => none
  | n + 1 => fun a0 x1 x2 h => f_X9_drift_b25 (F_X9_drift_25  n) a0 x1 x2 h
theorem wl_X9_drift_25 (X : CX RX9 cX9_drift 3 (some .int) p s m args meth c G b) {out : Int32 × HP} (Z : ZI p l e RM_X9_drift s m args below meth c cX9_drift G b False 0 0 Q out)  : ∀ (n : Nat) (a0 : Nat) (x1 : Int32) (x2 : Int32) (h : HP), F_X9_drift_25  n a0 x1 x2 h = some out → ∀ (H : Heap) (locs : List Loc) (ls : Array Slot), ST G b False s h H locs → lv_has ls 3 [(0, .ref (b + a0)), (1, .int x1), (2, .int x2)] → W p l e RM_X9_drift s m args below meth c H locs 0 0 Q (F0 m 25 ls []) := by
  intro n
  induction n with
  | zero => intro a0 x1 x2 h hf; exact nn hf
  | succ n ih => exact w_X9_drift_b25 X Z ih
def f_X9_drift_e  (a0 : Nat) (x1 : Int32) (h : HP) : Option (Int32 × HP) :=
  (f_X9_in x1 1 20 h).bind fun q1 =>
  if q1.1 = 0 then
    some ((-1000000002), q1.2)
  else
    (gI q1.2 a0 9 1).bind fun v2 =>
    if v2 = 0 then
      some ((-1000000003), q1.2)
    else
      F_X9_drift_25  FU a0 x1 0 q1.2
set_option maxRecDepth 100000 in
set_option maxHeartbeats 4000000 in
theorem w_X9_drift_e (X : CX RX9 cX9_drift 3 (some .int) p s m args meth c G b) {out : Int32 × HP} (Z : ZI p l e RM_X9_drift s m args below meth c cX9_drift G b False 0 0 Q out)  : ∀ (a0 : Nat) (x1 : Int32) (h : HP), f_X9_drift_e  a0 x1 h = some out → ∀ (H : Heap) (locs : List Loc) (ls : Array Slot), ST G b False s h H locs → lv_has ls 3 [(0, .ref (b + a0)), (1, .int x1)] → W p l e RM_X9_drift s m args below meth c H locs 0 0 Q (F0 m 0 ls []) := by
  intro a0 x1 h hf H locs ls S hl
  unfold f_X9_drift_e at hf
  have hx := X.1
  have hb := X.2.1
  refine lv_iload_n hx hb dX9_drift_0 rfl (lv_at hl 1 rfl) ?_
  refine lv_iconst (v := 1) hx hb dX9_drift_1 (by decide) ?_
  refine lv_bipush (v := 20) hx hb dX9_drift_2 (by decide) ?_
  obtain ⟨q1, e_q1, hf⟩ := ob hf
  refine r_callS X S hl.1 (As := [.int x1, .int 1, .int 20]) (rest := []) (c_X9_in e_q1) my_X9_in ms_X9_in ml_X9_54 ⟨rfl, rfl, Nat.le_of_ble_eq_true rfl, Nat.le_of_ble_eq_true rfl⟩ rfl rfl (Nat.le_of_ble_eq_true rfl) dX9_drift_4 ⟨Nat.le_of_ble_eq_true rfl, Nat.le_of_ble_eq_true rfl⟩ (fun H locs S => ?_)
  refine W.eq (g2 := F0 m 7 ls [.int q1.1]) rfl ?_
  refine lv_if_ne (tgt := 13) hx hb dX9_drift_7 (by decide) (fun hc => ?_) (fun hc => ?_)
  · replace hf := im hf hc
    refine lv_aload_n hx hb dX9_drift_13 rfl (lv_at hl 0 rfl) ?_
    obtain ⟨v2, e_v2, hf⟩ := ob hf
    refine r_getI X S fl_X9_58 e_v2 dX9_drift_14 ?_
    refine lv_if_ne (tgt := 23) hx hb dX9_drift_17 (by decide) (fun hc => ?_) (fun hc => ?_)
    · replace hf := im hf hc
      refine lv_iconst (v := 0) hx hb dX9_drift_23 (by decide) ?_
      refine lv_istore_n (lv' := [(2, .int 0), (0, .ref (b + a0)), (1, .int x1)]) hx hb dX9_drift_24 rfl hl (by decide) rfl (fun ls hl => ?_)
      exact wl_X9_drift_25 X Z  FU _ _ _ _ hf _ _ _ S (lv_sub hl [1, 2, 0] rfl)
    · replace hf := ip hf hc
      refine lv_ldc (v := (-1000000003)) hx hb X.2.2.2.1 (X.2.2.2.2.1 _ cn_X9_230) dX9_drift_20 ?_
      obtain rfl := Option.some.inj hf
      exact Z _ _ _ _ dX9_drift_22 S
  · replace hf := ip hf hc
    refine lv_ldc (v := (-1000000002)) hx hb X.2.2.2.1 (X.2.2.2.2.1 _ cn_X9_61) dX9_drift_10 ?_
    obtain rfl := Option.some.inj hf
    exact Z _ _ _ _ dX9_drift_12 S
def f_X9_drift (a0 : Nat) (x1 : Int32) (h : HP) : Option (Int32 × HP) := ck h a0 9 (f_X9_drift_e a0 x1 h)
theorem o_X9_drift {a0 : Nat} {x1 : Int32} {h : HP} {out : Int32 × HP} (hf : f_X9_drift a0 x1 h = some out) : ∃ fs, h[a0]? = some (.inl (9, fs)) := (ck_spec hf).1
set_option maxRecDepth 100000 in
theorem c_X9_drift {l : Launch} {G : GT} {b : Nat} {a0 : Nat} {x1 : Int32} {h : HP} {out : Int32 × HP} (hf : f_X9_drift a0 x1 h = some out) : MT l G b False False yX9_drift cX9_drift 3 (some .int) RM_X9_drift [.ref (b + a0), .int x1] h (some (.int out.1)) out.2 0 0 := by
  refine met_of (by decide) (Nat.le_of_ble_eq_true rfl) ?_
  intro p e s m below meth c ls X hnm S hl
  have hl : lv_has ls 3 [(0, .ref (b + a0)), (1, .int x1)] := hl
  replace hf := (ck_spec hf).2
  exact w_X9_drift_e X (z_i X) _ _ _ hf _ _ _ S hl
/-! RoomRingsModel.undo(I)I -/
abbrev RM_X9_undo : Room := { frames := 1, cells := 0, slots := 0, locals := 23 }
def f_X9_undo_e  (a0 : Nat) (x1 : Int32) (h : HP) : Option (Int32 × HP) :=
  (f_X9_in x1 1 20 h).bind fun q1 =>
  if q1.1 = 0 then
    some ((-1000000002), q1.2)
  else
    (gI q1.2 a0 9 3).bind fun v2 =>
    if x1 ≤ v2 then
      (gR q1.2 a0 9 0).bind fun r3 =>
      (ald q1.2 r3 66).bind fun v4 =>
      (gI q1.2 a0 9 3).bind fun v5 =>
      (pI q1.2 a0 9 3 (v5 - x1)).bind fun h6 =>
      (gI h6 a0 9 3).bind fun v7 =>
      (f_X9_copyRow a0 (67 + (67 * v7)) 0 h6).bind fun h8 =>
      (gR h8 a0 9 0).bind fun r9 =>
      (ast h8 r9 66 v4).bind fun h10 =>
      (gI h10 a0 9 3).bind fun v11 =>
      some (v11, h10)
    else
      some ((-1000000003), q1.2)
set_option maxRecDepth 100000 in
set_option maxHeartbeats 4000000 in
theorem w_X9_undo_e (X : CX RX9 cX9_undo 3 (some .int) p s m args meth c G b) {out : Int32 × HP} (Z : ZI p l e RM_X9_undo s m args below meth c cX9_undo G b False 0 0 Q out)  : ∀ (a0 : Nat) (x1 : Int32) (h : HP), f_X9_undo_e  a0 x1 h = some out → ∀ (H : Heap) (locs : List Loc) (ls : Array Slot), ST G b False s h H locs → lv_has ls 3 [(0, .ref (b + a0)), (1, .int x1)] → W p l e RM_X9_undo s m args below meth c H locs 0 0 Q (F0 m 0 ls []) := by
  intro a0 x1 h hf H locs ls S hl
  unfold f_X9_undo_e at hf
  have hx := X.1
  have hb := X.2.1
  refine lv_iload_n hx hb dX9_undo_0 rfl (lv_at hl 1 rfl) ?_
  refine lv_iconst (v := 1) hx hb dX9_undo_1 (by decide) ?_
  refine lv_bipush (v := 20) hx hb dX9_undo_2 (by decide) ?_
  obtain ⟨q1, e_q1, hf⟩ := ob hf
  refine r_callS X S hl.1 (As := [.int x1, .int 1, .int 20]) (rest := []) (c_X9_in e_q1) my_X9_in ms_X9_in ml_X9_54 ⟨rfl, rfl, Nat.le_of_ble_eq_true rfl, Nat.le_of_ble_eq_true rfl⟩ rfl rfl (Nat.le_of_ble_eq_true rfl) dX9_undo_4 ⟨Nat.le_of_ble_eq_true rfl, Nat.le_of_ble_eq_true rfl⟩ (fun H locs S => ?_)
  refine W.eq (g2 := F0 m 7 ls [.int q1.1]) rfl ?_
  refine lv_if_ne (tgt := 13) hx hb dX9_undo_7 (by decide) (fun hc => ?_) (fun hc => ?_)
  · replace hf := im hf hc
    refine lv_iload_n hx hb dX9_undo_13 rfl (lv_at hl 1 rfl) ?_
    refine lv_aload_n hx hb dX9_undo_14 rfl (lv_at hl 0 rfl) ?_
    obtain ⟨v2, e_v2, hf⟩ := ob hf
    refine r_getI X S fl_X9_119 e_v2 dX9_undo_15 ?_
    refine lv_icmp_le (tgt := 24) hx hb dX9_undo_18 (by decide) (fun hc => ?_) (fun hc => ?_)
    · replace hf := ip hf hc
      refine lv_aload_n hx hb dX9_undo_24 rfl (lv_at hl 0 rfl) ?_
      obtain ⟨r3, e_r3, hf⟩ := ob hf
      refine r_getR X S fl_X9_7 e_r3 dX9_undo_25 ?_
      refine lv_bipush (v := 66) hx hb dX9_undo_28 (by decide) ?_
      obtain ⟨v4, e_v4, hf⟩ := ob hf
      refine r_ald X S e_v4 dX9_undo_30 ?_
      refine lv_istore_n (lv' := [(2, .int v4), (0, .ref (b + a0)), (1, .int x1)]) hx hb dX9_undo_31 rfl hl (by decide) rfl (fun ls hl => ?_)
      refine lv_aload_n hx hb dX9_undo_32 rfl (lv_at hl 1 rfl) ?_
      refine lv_dup hx hb dX9_undo_33 rfl ?_
      obtain ⟨v5, e_v5, hf⟩ := ob hf
      refine r_getI X S fl_X9_119 e_v5 dX9_undo_34 ?_
      refine lv_iload_n hx hb dX9_undo_37 rfl (lv_at hl 2 rfl) ?_
      refine lv_isub hx hb dX9_undo_38 ?_
      obtain ⟨h6, e_h6, hf⟩ := ob hf
      refine r_put X S fp_X9_119 (fun h9 => by cases h9) rfl rfl rfl e_h6 dX9_undo_39 (fun H locs S => ?_)
      refine lv_aload_n hx hb dX9_undo_42 rfl (lv_at hl 1 rfl) ?_
      refine lv_bipush (v := 67) hx hb dX9_undo_43 (by decide) ?_
      refine lv_bipush (v := 67) hx hb dX9_undo_45 (by decide) ?_
      refine lv_aload_n hx hb dX9_undo_47 rfl (lv_at hl 1 rfl) ?_
      obtain ⟨v7, e_v7, hf⟩ := ob hf
      refine r_getI X S fl_X9_119 e_v7 dX9_undo_48 ?_
      refine lv_imul hx hb dX9_undo_51 ?_
      refine lv_iadd hx hb dX9_undo_52 ?_
      refine lv_iconst (v := 0) hx hb dX9_undo_53 (by decide) ?_
      obtain ⟨h8, e_h8, hf⟩ := ob hf
      refine r_callV X S hl.1 (As := [.int (67 + (67 * v7)), .int 0]) (rest := []) (c_X9_copyRow e_h8) my_X9_copyRow mv_X9_copyRow ml_X9_116 rfl (o_X9_copyRow e_h8) ⟨rfl, rfl, Nat.le_of_ble_eq_true rfl, Nat.le_of_ble_eq_true rfl⟩ rfl rfl (Nat.le_of_ble_eq_true rfl) dX9_undo_54 ⟨Nat.le_of_ble_eq_true rfl, Nat.le_of_ble_eq_true rfl⟩ (fun H locs S => ?_)
      refine W.eq (g2 := F0 m 57 ls []) rfl ?_
      refine lv_aload_n hx hb dX9_undo_57 rfl (lv_at hl 1 rfl) ?_
      obtain ⟨r9, e_r9, hf⟩ := ob hf
      refine r_getR X S fl_X9_7 e_r9 dX9_undo_58 ?_
      refine lv_bipush (v := 66) hx hb dX9_undo_61 (by decide) ?_
      refine lv_iload_n hx hb dX9_undo_63 rfl (lv_at hl 0 rfl) ?_
      obtain ⟨h10, e_h10, hf⟩ := ob hf
      refine r_ast X S e_h10 dX9_undo_64 (fun H locs S => ?_)
      refine lv_aload_n hx hb dX9_undo_65 rfl (lv_at hl 1 rfl) ?_
      obtain ⟨v11, e_v11, hf⟩ := ob hf
      refine r_getI X S fl_X9_119 e_v11 dX9_undo_66 ?_
      obtain rfl := Option.some.inj hf
      exact Z _ _ _ _ dX9_undo_69 S
    · replace hf := im hf hc
      refine lv_ldc (v := (-1000000003)) hx hb X.2.2.2.1 (X.2.2.2.2.1 _ cn_X9_230) dX9_undo_21 ?_
      obtain rfl := Option.some.inj hf
      exact Z _ _ _ _ dX9_undo_23 S
  · replace hf := ip hf hc
    refine lv_ldc (v := (-1000000002)) hx hb X.2.2.2.1 (X.2.2.2.2.1 _ cn_X9_61) dX9_undo_10 ?_
    obtain rfl := Option.some.inj hf
    exact Z _ _ _ _ dX9_undo_12 S
def f_X9_undo (a0 : Nat) (x1 : Int32) (h : HP) : Option (Int32 × HP) := ck h a0 9 (f_X9_undo_e a0 x1 h)
theorem o_X9_undo {a0 : Nat} {x1 : Int32} {h : HP} {out : Int32 × HP} (hf : f_X9_undo a0 x1 h = some out) : ∃ fs, h[a0]? = some (.inl (9, fs)) := (ck_spec hf).1
set_option maxRecDepth 100000 in
theorem c_X9_undo {l : Launch} {G : GT} {b : Nat} {a0 : Nat} {x1 : Int32} {h : HP} {out : Int32 × HP} (hf : f_X9_undo a0 x1 h = some out) : MT l G b False False yX9_undo cX9_undo 3 (some .int) RM_X9_undo [.ref (b + a0), .int x1] h (some (.int out.1)) out.2 0 0 := by
  refine met_of (by decide) (Nat.le_of_ble_eq_true rfl) ?_
  intro p e s m below meth c ls X hnm S hl
  have hl : lv_has ls 3 [(0, .ref (b + a0)), (1, .int x1)] := hl
  replace hf := (ck_spec hf).2
  exact w_X9_undo_e X (z_i X) _ _ _ hf _ _ _ S hl
/-! RoomRingsModel.otherwise(II)I -/
abbrev RM_X9_otherwise : Room := { frames := 7, cells := 0, slots := 0, locals := 159 }
def f_X9_otherwise_b16   (h : HP) : Option (Int32 × HP) :=
  some ((-1000000001), h)
set_option maxRecDepth 100000 in
set_option maxHeartbeats 4000000 in
theorem w_X9_otherwise_b16 (X : CX RX9 cX9_otherwise 3 (some .int) p s m args meth c G b) {out : Int32 × HP} (Z : ZI p l e RM_X9_otherwise s m args below meth c cX9_otherwise G b False 0 0 Q out)  : ∀  (h : HP), f_X9_otherwise_b16   h = some out → ∀ (H : Heap) (locs : List Loc) (ls : Array Slot), ST G b False s h H locs → lv_has ls 3 [] → W p l e RM_X9_otherwise s m args below meth c H locs 0 0 Q (F0 m 16 ls []) := by
  intro  h hf H locs ls S hl
  unfold f_X9_otherwise_b16 at hf
  have hx := X.1
  have hb := X.2.1
  refine lv_ldc (v := (-1000000001)) hx hb X.2.2.2.1 (X.2.2.2.2.1 _ cn_X9_206) dX9_otherwise_16 ?_
  obtain rfl := Option.some.inj hf
  exact Z _ _ _ _ dX9_otherwise_18 S
def f_X9_otherwise_e  (a0 : Nat) (x1 : Int32) (x2 : Int32) (h : HP) : Option (Int32 × HP) :=
  (f_X9_isPerson a0 x1 h).bind fun q1 =>
  if q1.1 = 0 then
    f_X9_otherwise_b16   q1.2
  else
    (f_X9_isRoom a0 x2 q1.2).bind fun q2 =>
    if q2.1 = 0 then
      f_X9_otherwise_b16   q2.2
    else
      (f_X9_copyRow a0 0 1541 q2.2).bind fun h3 =>
      (gR h3 a0 9 0).bind fun r4 =>
      (ast h3 r4 (1589 + x1) 1).bind fun h5 =>
      (gR h5 a0 9 0).bind fun r6 =>
      (ast h5 r6 (1541 + (8 * x1)) x2).bind fun h7 =>
      (f_X9_giveOut a0 1541 h7).bind fun h8 =>
      (gR h8 a0 9 8).bind fun r9 =>
      (ald h8 r9 x1).bind fun v10 =>
      some (v10, h8)
set_option maxRecDepth 100000 in
set_option maxHeartbeats 4000000 in
theorem w_X9_otherwise_e (X : CX RX9 cX9_otherwise 3 (some .int) p s m args meth c G b) {out : Int32 × HP} (Z : ZI p l e RM_X9_otherwise s m args below meth c cX9_otherwise G b False 0 0 Q out)  : ∀ (a0 : Nat) (x1 : Int32) (x2 : Int32) (h : HP), f_X9_otherwise_e  a0 x1 x2 h = some out → ∀ (H : Heap) (locs : List Loc) (ls : Array Slot), ST G b False s h H locs → lv_has ls 3 [(0, .ref (b + a0)), (1, .int x1), (2, .int x2)] → W p l e RM_X9_otherwise s m args below meth c H locs 0 0 Q (F0 m 0 ls []) := by
  intro a0 x1 x2 h hf H locs ls S hl
  unfold f_X9_otherwise_e at hf
  have hx := X.1
  have hb := X.2.1
  refine lv_aload_n hx hb dX9_otherwise_0 rfl (lv_at hl 0 rfl) ?_
  refine lv_iload_n hx hb dX9_otherwise_1 rfl (lv_at hl 1 rfl) ?_
  obtain ⟨q1, e_q1, hf⟩ := ob hf
  refine r_callV X S hl.1 (As := [.int x1]) (rest := []) (c_X9_isPerson e_q1) my_X9_isPerson mv_X9_isPerson ml_X9_202 rfl (o_X9_isPerson e_q1) ⟨rfl, rfl, Nat.le_of_ble_eq_true rfl, Nat.le_of_ble_eq_true rfl⟩ rfl rfl (Nat.le_of_ble_eq_true rfl) dX9_otherwise_2 ⟨Nat.le_of_ble_eq_true rfl, Nat.le_of_ble_eq_true rfl⟩ (fun H locs S => ?_)
  refine W.eq (g2 := F0 m 5 ls [.int q1.1]) rfl ?_
  refine lv_if_eq (tgt := 16) hx hb dX9_otherwise_5 (by decide) (fun hc => ?_) (fun hc => ?_)
  · replace hf := ip hf hc
    exact w_X9_otherwise_b16 X Z  _ hf _ _ _ S (lv_sub hl [] rfl)
  · replace hf := im hf hc
    refine lv_aload_n hx hb dX9_otherwise_8 rfl (lv_at hl 0 rfl) ?_
    refine lv_iload_n hx hb dX9_otherwise_9 rfl (lv_at hl 2 rfl) ?_
    obtain ⟨q2, e_q2, hf⟩ := ob hf
    refine r_callV X S hl.1 (As := [.int x2]) (rest := []) (c_X9_isRoom e_q2) my_X9_isRoom mv_X9_isRoom ml_X9_216 rfl (o_X9_isRoom e_q2) ⟨rfl, rfl, Nat.le_of_ble_eq_true rfl, Nat.le_of_ble_eq_true rfl⟩ rfl rfl (Nat.le_of_ble_eq_true rfl) dX9_otherwise_10 ⟨Nat.le_of_ble_eq_true rfl, Nat.le_of_ble_eq_true rfl⟩ (fun H locs S => ?_)
    refine W.eq (g2 := F0 m 13 ls [.int q2.1]) rfl ?_
    refine lv_if_ne (tgt := 19) hx hb dX9_otherwise_13 (by decide) (fun hc => ?_) (fun hc => ?_)
    · replace hf := im hf hc
      refine lv_aload_n hx hb dX9_otherwise_19 rfl (lv_at hl 0 rfl) ?_
      refine lv_iconst (v := 0) hx hb dX9_otherwise_20 (by decide) ?_
      refine lv_sipush (v := 1541) hx hb dX9_otherwise_21 (by decide) ?_
      obtain ⟨h3, e_h3, hf⟩ := ob hf
      refine r_callV X S hl.1 (As := [.int 0, .int 1541]) (rest := []) (c_X9_copyRow e_h3) my_X9_copyRow mv_X9_copyRow ml_X9_116 rfl (o_X9_copyRow e_h3) ⟨rfl, rfl, Nat.le_of_ble_eq_true rfl, Nat.le_of_ble_eq_true rfl⟩ rfl rfl (Nat.le_of_ble_eq_true rfl) dX9_otherwise_24 ⟨Nat.le_of_ble_eq_true rfl, Nat.le_of_ble_eq_true rfl⟩ (fun H locs S => ?_)
      refine W.eq (g2 := F0 m 27 ls []) rfl ?_
      refine lv_aload_n hx hb dX9_otherwise_27 rfl (lv_at hl 0 rfl) ?_
      obtain ⟨r4, e_r4, hf⟩ := ob hf
      refine r_getR X S fl_X9_7 e_r4 dX9_otherwise_28 ?_
      refine lv_sipush (v := 1589) hx hb dX9_otherwise_31 (by decide) ?_
      refine lv_iload_n hx hb dX9_otherwise_34 rfl (lv_at hl 1 rfl) ?_
      refine lv_iadd hx hb dX9_otherwise_35 ?_
      refine lv_iconst (v := 1) hx hb dX9_otherwise_36 (by decide) ?_
      obtain ⟨h5, e_h5, hf⟩ := ob hf
      refine r_ast X S e_h5 dX9_otherwise_37 (fun H locs S => ?_)
      refine lv_aload_n hx hb dX9_otherwise_38 rfl (lv_at hl 0 rfl) ?_
      obtain ⟨r6, e_r6, hf⟩ := ob hf
      refine r_getR X S fl_X9_7 e_r6 dX9_otherwise_39 ?_
      refine lv_sipush (v := 1541) hx hb dX9_otherwise_42 (by decide) ?_
      refine lv_bipush (v := 8) hx hb dX9_otherwise_45 (by decide) ?_
      refine lv_iload_n hx hb dX9_otherwise_47 rfl (lv_at hl 1 rfl) ?_
      refine lv_imul hx hb dX9_otherwise_48 ?_
      refine lv_iadd hx hb dX9_otherwise_49 ?_
      refine lv_iload_n hx hb dX9_otherwise_50 rfl (lv_at hl 2 rfl) ?_
      obtain ⟨h7, e_h7, hf⟩ := ob hf
      refine r_ast X S e_h7 dX9_otherwise_51 (fun H locs S => ?_)
      refine lv_aload_n hx hb dX9_otherwise_52 rfl (lv_at hl 0 rfl) ?_
      refine lv_sipush (v := 1541) hx hb dX9_otherwise_53 (by decide) ?_
      obtain ⟨h8, e_h8, hf⟩ := ob hf
      refine r_callV X S hl.1 (As := [.int 1541]) (rest := []) (c_X9_giveOut e_h8) my_X9_giveOut mv_X9_giveOut ml_X9_187 rfl (o_X9_giveOut e_h8) ⟨rfl, rfl, Nat.le_of_ble_eq_true rfl, Nat.le_of_ble_eq_true rfl⟩ rfl rfl (Nat.le_of_ble_eq_true rfl) dX9_otherwise_56 ⟨Nat.le_of_ble_eq_true rfl, Nat.le_of_ble_eq_true rfl⟩ (fun H locs S => ?_)
      refine W.eq (g2 := F0 m 59 ls []) rfl ?_
      refine lv_aload_n hx hb dX9_otherwise_59 rfl (lv_at hl 0 rfl) ?_
      obtain ⟨r9, e_r9, hf⟩ := ob hf
      refine r_getR X S fl_X9_20 e_r9 dX9_otherwise_60 ?_
      refine lv_iload_n hx hb dX9_otherwise_63 rfl (lv_at hl 1 rfl) ?_
      obtain ⟨v10, e_v10, hf⟩ := ob hf
      refine r_ald X S e_v10 dX9_otherwise_64 ?_
      obtain rfl := Option.some.inj hf
      exact Z _ _ _ _ dX9_otherwise_65 S
    · replace hf := ip hf hc
      exact w_X9_otherwise_b16 X Z  _ hf _ _ _ S (lv_sub hl [] rfl)
def f_X9_otherwise (a0 : Nat) (x1 : Int32) (x2 : Int32) (h : HP) : Option (Int32 × HP) := ck h a0 9 (f_X9_otherwise_e a0 x1 x2 h)
theorem o_X9_otherwise {a0 : Nat} {x1 : Int32} {x2 : Int32} {h : HP} {out : Int32 × HP} (hf : f_X9_otherwise a0 x1 x2 h = some out) : ∃ fs, h[a0]? = some (.inl (9, fs)) := (ck_spec hf).1
set_option maxRecDepth 100000 in
theorem c_X9_otherwise {l : Launch} {G : GT} {b : Nat} {a0 : Nat} {x1 : Int32} {x2 : Int32} {h : HP} {out : Int32 × HP} (hf : f_X9_otherwise a0 x1 x2 h = some out) : MT l G b False False yX9_otherwise cX9_otherwise 3 (some .int) RM_X9_otherwise [.ref (b + a0), .int x1, .int x2] h (some (.int out.1)) out.2 0 0 := by
  refine met_of (by decide) (Nat.le_of_ble_eq_true rfl) ?_
  intro p e s m below meth c ls X hnm S hl
  have hl : lv_has ls 3 [(0, .ref (b + a0)), (1, .int x1), (2, .int x2)] := hl
  replace hf := (ck_spec hf).2
  exact w_X9_otherwise_e X (z_i X) _ _ _ _ hf _ _ _ S hl
/-! RoomRingsModel.swap(II)V -/
abbrev RM_X9_swap : Room := { frames := 0, cells := 0, slots := 0, locals := 0 }
def f_X9_swap_e  (a0 : Nat) (x1 : Int32) (x2 : Int32) (h : HP) : Option (HP) :=
  (gR h a0 9 0).bind fun r1 =>
  (ald h r1 (1601 + x1)).bind fun v2 =>
  (gR h a0 9 0).bind fun r3 =>
  (gR h a0 9 0).bind fun r4 =>
  (ald h r4 (1601 + x2)).bind fun v5 =>
  (ast h r3 (1601 + x1) v5).bind fun h6 =>
  (gR h6 a0 9 0).bind fun r7 =>
  (ast h6 r7 (1601 + x2) v2).bind fun h8 =>
  some h8
set_option maxRecDepth 100000 in
set_option maxHeartbeats 4000000 in
theorem w_X9_swap_e (X : CX RX9 cX9_swap 4 none p s m args meth c G b) {out : HP} (Z : ZV p l e RM_X9_swap s m args below meth c cX9_swap G b False 0 0 Q out)  : ∀ (a0 : Nat) (x1 : Int32) (x2 : Int32) (h : HP), f_X9_swap_e  a0 x1 x2 h = some out → ∀ (H : Heap) (locs : List Loc) (ls : Array Slot), ST G b False s h H locs → lv_has ls 4 [(0, .ref (b + a0)), (1, .int x1), (2, .int x2)] → W p l e RM_X9_swap s m args below meth c H locs 0 0 Q (F0 m 0 ls []) := by
  intro a0 x1 x2 h hf H locs ls S hl
  unfold f_X9_swap_e at hf
  have hx := X.1
  have hb := X.2.1
  refine lv_aload_n hx hb dX9_swap_0 rfl (lv_at hl 0 rfl) ?_
  obtain ⟨r1, e_r1, hf⟩ := ob hf
  refine r_getR X S fl_X9_7 e_r1 dX9_swap_1 ?_
  refine lv_sipush (v := 1601) hx hb dX9_swap_4 (by decide) ?_
  refine lv_iload_n hx hb dX9_swap_7 rfl (lv_at hl 1 rfl) ?_
  refine lv_iadd hx hb dX9_swap_8 ?_
  obtain ⟨v2, e_v2, hf⟩ := ob hf
  refine r_ald X S e_v2 dX9_swap_9 ?_
  refine lv_istore_n (lv' := [(3, .int v2), (0, .ref (b + a0)), (1, .int x1), (2, .int x2)]) hx hb dX9_swap_10 rfl hl (by decide) rfl (fun ls hl => ?_)
  refine lv_aload_n hx hb dX9_swap_11 rfl (lv_at hl 1 rfl) ?_
  obtain ⟨r3, e_r3, hf⟩ := ob hf
  refine r_getR X S fl_X9_7 e_r3 dX9_swap_12 ?_
  refine lv_sipush (v := 1601) hx hb dX9_swap_15 (by decide) ?_
  refine lv_iload_n hx hb dX9_swap_18 rfl (lv_at hl 2 rfl) ?_
  refine lv_iadd hx hb dX9_swap_19 ?_
  refine lv_aload_n hx hb dX9_swap_20 rfl (lv_at hl 1 rfl) ?_
  obtain ⟨r4, e_r4, hf⟩ := ob hf
  refine r_getR X S fl_X9_7 e_r4 dX9_swap_21 ?_
  refine lv_sipush (v := 1601) hx hb dX9_swap_24 (by decide) ?_
  refine lv_iload_n hx hb dX9_swap_27 rfl (lv_at hl 3 rfl) ?_
  refine lv_iadd hx hb dX9_swap_28 ?_
  obtain ⟨v5, e_v5, hf⟩ := ob hf
  refine r_ald X S e_v5 dX9_swap_29 ?_
  obtain ⟨h6, e_h6, hf⟩ := ob hf
  refine r_ast X S e_h6 dX9_swap_30 (fun H locs S => ?_)
  refine lv_aload_n hx hb dX9_swap_31 rfl (lv_at hl 1 rfl) ?_
  obtain ⟨r7, e_r7, hf⟩ := ob hf
  refine r_getR X S fl_X9_7 e_r7 dX9_swap_32 ?_
  refine lv_sipush (v := 1601) hx hb dX9_swap_35 (by decide) ?_
  refine lv_iload_n hx hb dX9_swap_38 rfl (lv_at hl 3 rfl) ?_
  refine lv_iadd hx hb dX9_swap_39 ?_
  refine lv_iload_n hx hb dX9_swap_40 rfl (lv_at hl 0 rfl) ?_
  obtain ⟨h8, e_h8, hf⟩ := ob hf
  refine r_ast X S e_h8 dX9_swap_41 (fun H locs S => ?_)
  obtain rfl := Option.some.inj hf
  exact Z _ _ _ _ dX9_swap_42 S
def f_X9_swap (a0 : Nat) (x1 : Int32) (x2 : Int32) (h : HP) : Option (HP) := ck h a0 9 (f_X9_swap_e a0 x1 x2 h)
theorem o_X9_swap {a0 : Nat} {x1 : Int32} {x2 : Int32} {h : HP} {out : HP} (hf : f_X9_swap a0 x1 x2 h = some out) : ∃ fs, h[a0]? = some (.inl (9, fs)) := (ck_spec hf).1
set_option maxRecDepth 100000 in
theorem c_X9_swap {l : Launch} {G : GT} {b : Nat} {a0 : Nat} {x1 : Int32} {x2 : Int32} {h : HP} {out : HP} (hf : f_X9_swap a0 x1 x2 h = some out) : MT l G b False False yX9_swap cX9_swap 4 none RM_X9_swap [.ref (b + a0), .int x1, .int x2] h none out 0 0 := by
  refine met_of (by decide) (Nat.le_of_ble_eq_true rfl) ?_
  intro p e s m below meth c ls X hnm S hl
  have hl : lv_has ls 4 [(0, .ref (b + a0)), (1, .int x1), (2, .int x2)] := hl
  replace hf := (ck_spec hf).2
  exact w_X9_swap_e X (z_v X) _ _ _ _ hf _ _ _ S hl
/-! RoomRingsModel.nextLots()Z -/
abbrev RM_X9_nextLots : Room := { frames := 1, cells := 0, slots := 0, locals := 23 }
def f_X9_nextLots_b102 (K102 : Nat → Int32 → Int32 → HP → Option (Int32 × HP)) (a0 : Nat) (x3 : Int32) (x4 : Int32) (h : HP) : Option (Int32 × HP) :=
  if x4 ≤ x3 then
    some (1, h)
  else
    (f_X9_swap a0 x3 x4 h).bind fun h1 =>
    K102 a0 (x3 + 1) (x4 + (-1)) h1
set_option maxRecDepth 100000 in
set_option maxHeartbeats 4000000 in
theorem w_X9_nextLots_b102 (X : CX RX9 cX9_nextLots 5 (some .boolean) p s m args meth c G b) {out : Int32 × HP} (Z : ZZ p l e RM_X9_nextLots s m args below meth c cX9_nextLots G b False 0 0 Q out) {K102 : Nat → Int32 → Int32 → HP → Option (Int32 × HP)} (hK102 : ∀ (a0 : Nat) (x3 : Int32) (x4 : Int32) (h : HP), K102 a0 x3 x4 h = some out → ∀ (H : Heap) (locs : List Loc) (ls : Array Slot), ST G b False s h H locs → lv_has ls 5 [(0, .ref (b + a0)), (3, .int x3), (4, .int x4)] → W p l e RM_X9_nextLots s m args below meth c H locs 0 0 Q (F0 m 102 ls [])) : ∀ (a0 : Nat) (x3 : Int32) (x4 : Int32) (h : HP), f_X9_nextLots_b102 K102 a0 x3 x4 h = some out → ∀ (H : Heap) (locs : List Loc) (ls : Array Slot), ST G b False s h H locs → lv_has ls 5 [(0, .ref (b + a0)), (3, .int x3), (4, .int x4)] → W p l e RM_X9_nextLots s m args below meth c H locs 0 0 Q (F0 m 102 ls []) := by
  intro a0 x3 x4 h hf H locs ls S hl
  unfold f_X9_nextLots_b102 at hf
  have hx := X.1
  have hb := X.2.1
  refine lv_iload_n hx hb dX9_nextLots_102 rfl (lv_at hl 1 rfl) ?_
  refine lv_iload hx hb dX9_nextLots_103 (lv_at hl 2 rfl) ?_
  refine lv_icmp_ge (tgt := 124) hx hb dX9_nextLots_105 (by decide) (fun hc => ?_) (fun hc => ?_)
  · replace hf := ip hf hc
    refine lv_iconst (v := 1) hx hb dX9_nextLots_124 (by decide) ?_
    obtain rfl := Option.some.inj hf
    exact Z _ _ _ _ dX9_nextLots_125 S (Or.inr rfl)
  · replace hf := im hf hc
    refine lv_aload_n hx hb dX9_nextLots_108 rfl (lv_at hl 0 rfl) ?_
    refine lv_iload_n hx hb dX9_nextLots_109 rfl (lv_at hl 1 rfl) ?_
    refine lv_iload hx hb dX9_nextLots_110 (lv_at hl 2 rfl) ?_
    obtain ⟨h1, e_h1, hf⟩ := ob hf
    refine r_callV X S hl.1 (As := [.int x3, .int x4]) (rest := []) (c_X9_swap e_h1) my_X9_swap mv_X9_swap ml_X9_250 rfl (o_X9_swap e_h1) ⟨rfl, rfl, Nat.le_of_ble_eq_true rfl, Nat.le_of_ble_eq_true rfl⟩ rfl rfl (Nat.le_of_ble_eq_true rfl) dX9_nextLots_112 ⟨Nat.le_of_ble_eq_true rfl, Nat.le_of_ble_eq_true rfl⟩ (fun H locs S => ?_)
    refine W.eq (g2 := F0 m 115 ls []) rfl ?_
    refine lv_iinc (v := x3 + 1) (lv' := [(3, .int (x3 + 1)), (0, .ref (b + a0)), (4, .int x4)]) hx hb dX9_nextLots_115 hl (k := 1) rfl rfl (by decide) rfl (fun ls hl => ?_)
    refine lv_iinc (v := x4 + (-1)) (lv' := [(4, .int (x4 + (-1))), (3, .int (x3 + 1)), (0, .ref (b + a0))]) hx hb dX9_nextLots_118 hl (k := 2) rfl rfl (by decide) rfl (fun ls hl => ?_)
    refine lv_goto (tgt := 102) hx hb dX9_nextLots_121 (by decide) ?_
    exact hK102 _ _ _ _ hf _ _ _ S (lv_sub hl [2, 1, 0] rfl)
def F_X9_nextLots_102  : Nat → Nat → Int32 → Int32 → HP → Option (Int32 × HP)
  | 0 => fun _ _ _ _ => none
  | n + 1 => fun a0 x3 x4 h => f_X9_nextLots_b102 (F_X9_nextLots_102  n) a0 x3 x4 h
theorem wl_X9_nextLots_102 (X : CX RX9 cX9_nextLots 5 (some .boolean) p s m args meth c G b) {out : Int32 × HP} (Z : ZZ p l e RM_X9_nextLots s m args below meth c cX9_nextLots G b False 0 0 Q out)  : ∀ (n : Nat) (a0 : Nat) (x3 : Int32) (x4 : Int32) (h : HP), F_X9_nextLots_102  n a0 x3 x4 h = some out → ∀ (H : Heap) (locs : List Loc) (ls : Array Slot), ST G b False s h H locs → lv_has ls 5 [(0, .ref (b + a0)), (3, .int x3), (4, .int x4)] → W p l e RM_X9_nextLots s m args below meth c H locs 0 0 Q (F0 m 102 ls []) := by
  intro n
  induction n with
  | zero => intro a0 x3 x4 h hf; exact nn hf
  | succ n ih => exact w_X9_nextLots_b102 X Z ih
def f_X9_nextLots_b55 (K55 : Nat → Int32 → Int32 → HP → Option (Int32 × HP)) (a0 : Nat) (x1 : Int32) (x2 : Int32) (h : HP) : Option (Int32 × HP) :=
  (gR h a0 9 0).bind fun r1 =>
  (ald h r1 (1601 + x2)).bind fun v2 =>
  (gR h a0 9 0).bind fun r3 =>
  (ald h r3 (1601 + x1)).bind fun v4 =>
  if v4 ≤ v2 then
    (f_X9_swap a0 x1 x2 h).bind fun h5 =>
    (gI h5 a0 9 2).bind fun v6 =>
    F_X9_nextLots_102  FU a0 (x1 + 1) (v6 - 1) h5
  else
    K55 a0 x1 (x2 + (-1)) h
set_option maxRecDepth 100000 in
set_option maxHeartbeats 4000000 in
theorem w_X9_nextLots_b55 (X : CX RX9 cX9_nextLots 5 (some .boolean) p s m args meth c G b) {out : Int32 × HP} (Z : ZZ p l e RM_X9_nextLots s m args below meth c cX9_nextLots G b False 0 0 Q out) {K55 : Nat → Int32 → Int32 → HP → Option (Int32 × HP)} (hK55 : ∀ (a0 : Nat) (x1 : Int32) (x2 : Int32) (h : HP), K55 a0 x1 x2 h = some out → ∀ (H : Heap) (locs : List Loc) (ls : Array Slot), ST G b False s h H locs → lv_has ls 5 [(0, .ref (b + a0)), (1, .int x1), (2, .int x2)] → W p l e RM_X9_nextLots s m args below meth c H locs 0 0 Q (F0 m 55 ls [])) : ∀ (a0 : Nat) (x1 : Int32) (x2 : Int32) (h : HP), f_X9_nextLots_b55 K55 a0 x1 x2 h = some out → ∀ (H : Heap) (locs : List Loc) (ls : Array Slot), ST G b False s h H locs → lv_has ls 5 [(0, .ref (b + a0)), (1, .int x1), (2, .int x2)] → W p l e RM_X9_nextLots s m args below meth c H locs 0 0 Q (F0 m 55 ls []) := by
  intro a0 x1 x2 h hf H locs ls S hl
  unfold f_X9_nextLots_b55 at hf
  have hx := X.1
  have hb := X.2.1
  refine lv_aload_n hx hb dX9_nextLots_55 rfl (lv_at hl 0 rfl) ?_
  obtain ⟨r1, e_r1, hf⟩ := ob hf
  refine r_getR X S fl_X9_7 e_r1 dX9_nextLots_56 ?_
  refine lv_sipush (v := 1601) hx hb dX9_nextLots_59 (by decide) ?_
  refine lv_iload_n hx hb dX9_nextLots_62 rfl (lv_at hl 2 rfl) ?_
  refine lv_iadd hx hb dX9_nextLots_63 ?_
  obtain ⟨v2, e_v2, hf⟩ := ob hf
  refine r_ald X S e_v2 dX9_nextLots_64 ?_
  refine lv_aload_n hx hb dX9_nextLots_65 rfl (lv_at hl 0 rfl) ?_
  obtain ⟨r3, e_r3, hf⟩ := ob hf
  refine r_getR X S fl_X9_7 e_r3 dX9_nextLots_66 ?_
  refine lv_sipush (v := 1601) hx hb dX9_nextLots_69 (by decide) ?_
  refine lv_iload_n hx hb dX9_nextLots_72 rfl (lv_at hl 1 rfl) ?_
  refine lv_iadd hx hb dX9_nextLots_73 ?_
  obtain ⟨v4, e_v4, hf⟩ := ob hf
  refine r_ald X S e_v4 dX9_nextLots_74 ?_
  refine lv_icmp_ge (tgt := 84) hx hb dX9_nextLots_75 (by decide) (fun hc => ?_) (fun hc => ?_)
  · replace hf := ip hf hc
    refine lv_aload_n hx hb dX9_nextLots_84 rfl (lv_at hl 0 rfl) ?_
    refine lv_iload_n hx hb dX9_nextLots_85 rfl (lv_at hl 1 rfl) ?_
    refine lv_iload_n hx hb dX9_nextLots_86 rfl (lv_at hl 2 rfl) ?_
    obtain ⟨h5, e_h5, hf⟩ := ob hf
    refine r_callV X S hl.1 (As := [.int x1, .int x2]) (rest := []) (c_X9_swap e_h5) my_X9_swap mv_X9_swap ml_X9_250 rfl (o_X9_swap e_h5) ⟨rfl, rfl, Nat.le_of_ble_eq_true rfl, Nat.le_of_ble_eq_true rfl⟩ rfl rfl (Nat.le_of_ble_eq_true rfl) dX9_nextLots_87 ⟨Nat.le_of_ble_eq_true rfl, Nat.le_of_ble_eq_true rfl⟩ (fun H locs S => ?_)
    refine W.eq (g2 := F0 m 90 ls []) rfl ?_
    refine lv_iload_n hx hb dX9_nextLots_90 rfl (lv_at hl 1 rfl) ?_
    refine lv_iconst (v := 1) hx hb dX9_nextLots_91 (by decide) ?_
    refine lv_iadd hx hb dX9_nextLots_92 ?_
    refine lv_istore_n (lv' := [(3, .int (x1 + 1)), (0, .ref (b + a0)), (1, .int x1), (2, .int x2)]) hx hb dX9_nextLots_93 rfl hl (by decide) rfl (fun ls hl => ?_)
    refine lv_aload_n hx hb dX9_nextLots_94 rfl (lv_at hl 1 rfl) ?_
    obtain ⟨v6, e_v6, hf⟩ := ob hf
    refine r_getI X S fl_X9_51 e_v6 dX9_nextLots_95 ?_
    refine lv_iconst (v := 1) hx hb dX9_nextLots_98 (by decide) ?_
    refine lv_isub hx hb dX9_nextLots_99 ?_
    refine lv_istore (lv' := [(4, .int (v6 - 1)), (3, .int (x1 + 1)), (0, .ref (b + a0)), (1, .int x1), (2, .int x2)]) hx hb dX9_nextLots_100 hl (by decide) rfl (fun ls hl => ?_)
    exact wl_X9_nextLots_102 X Z  FU _ _ _ _ hf _ _ _ S (lv_sub hl [2, 1, 0] rfl)
  · replace hf := im hf hc
    refine lv_iinc (v := x2 + (-1)) (lv' := [(2, .int (x2 + (-1))), (0, .ref (b + a0)), (1, .int x1)]) hx hb dX9_nextLots_78 hl (k := 2) rfl rfl (by decide) rfl (fun ls hl => ?_)
    refine lv_goto (tgt := 55) hx hb dX9_nextLots_81 (by decide) ?_
    exact hK55 _ _ _ _ hf _ _ _ S (lv_sub hl [1, 2, 0] rfl)
def F_X9_nextLots_55  : Nat → Nat → Int32 → Int32 → HP → Option (Int32 × HP)
  | 0 => fun _ _ _ _ => none
  | n + 1 => fun a0 x1 x2 h => f_X9_nextLots_b55 (F_X9_nextLots_55  n) a0 x1 x2 h
theorem wl_X9_nextLots_55 (X : CX RX9 cX9_nextLots 5 (some .boolean) p s m args meth c G b) {out : Int32 × HP} (Z : ZZ p l e RM_X9_nextLots s m args below meth c cX9_nextLots G b False 0 0 Q out)  : ∀ (n : Nat) (a0 : Nat) (x1 : Int32) (x2 : Int32) (h : HP), F_X9_nextLots_55  n a0 x1 x2 h = some out → ∀ (H : Heap) (locs : List Loc) (ls : Array Slot), ST G b False s h H locs → lv_has ls 5 [(0, .ref (b + a0)), (1, .int x1), (2, .int x2)] → W p l e RM_X9_nextLots s m args below meth c H locs 0 0 Q (F0 m 55 ls []) := by
  intro n
  induction n with
  | zero => intro a0 x1 x2 h hf; exact nn hf
  | succ n ih => exact w_X9_nextLots_b55 X Z ih
def f_X9_nextLots_b42  (a0 : Nat) (x1 : Int32) (h : HP) : Option (Int32 × HP) :=
  if 0 ≤ x1 then
    (gI h a0 9 2).bind fun v1 =>
    F_X9_nextLots_55  FU a0 x1 (v1 - 1) h
  else
    some (0, h)
set_option maxRecDepth 100000 in
set_option maxHeartbeats 4000000 in
theorem w_X9_nextLots_b42 (X : CX RX9 cX9_nextLots 5 (some .boolean) p s m args meth c G b) {out : Int32 × HP} (Z : ZZ p l e RM_X9_nextLots s m args below meth c cX9_nextLots G b False 0 0 Q out)  : ∀ (a0 : Nat) (x1 : Int32) (h : HP), f_X9_nextLots_b42  a0 x1 h = some out → ∀ (H : Heap) (locs : List Loc) (ls : Array Slot), ST G b False s h H locs → lv_has ls 5 [(0, .ref (b + a0)), (1, .int x1)] → W p l e RM_X9_nextLots s m args below meth c H locs 0 0 Q (F0 m 42 ls []) := by
  intro a0 x1 h hf H locs ls S hl
  unfold f_X9_nextLots_b42 at hf
  have hx := X.1
  have hb := X.2.1
  refine lv_iload_n hx hb dX9_nextLots_42 rfl (lv_at hl 1 rfl) ?_
  refine lv_if_ge (tgt := 48) hx hb dX9_nextLots_43 (by decide) (fun hc => ?_) (fun hc => ?_)
  · replace hf := ip hf hc
    refine lv_aload_n hx hb dX9_nextLots_48 rfl (lv_at hl 0 rfl) ?_
    obtain ⟨v1, e_v1, hf⟩ := ob hf
    refine r_getI X S fl_X9_51 e_v1 dX9_nextLots_49 ?_
    refine lv_iconst (v := 1) hx hb dX9_nextLots_52 (by decide) ?_
    refine lv_isub hx hb dX9_nextLots_53 ?_
    refine lv_istore_n (lv' := [(2, .int (v1 - 1)), (0, .ref (b + a0)), (1, .int x1)]) hx hb dX9_nextLots_54 rfl hl (by decide) rfl (fun ls hl => ?_)
    exact wl_X9_nextLots_55 X Z  FU _ _ _ _ hf _ _ _ S (lv_sub hl [1, 2, 0] rfl)
  · replace hf := im hf hc
    refine lv_iconst (v := 0) hx hb dX9_nextLots_46 (by decide) ?_
    obtain rfl := Option.some.inj hf
    exact Z _ _ _ _ dX9_nextLots_47 S (Or.inl rfl)
def f_X9_nextLots_b7 (K7 : Nat → Int32 → HP → Option (Int32 × HP)) (a0 : Nat) (x1 : Int32) (h : HP) : Option (Int32 × HP) :=
  if x1 < 0 then
    f_X9_nextLots_b42  a0 x1 h
  else
    (gR h a0 9 0).bind fun r1 =>
    (ald h r1 (1601 + x1)).bind fun v2 =>
    (gR h a0 9 0).bind fun r3 =>
    (ald h r3 ((1601 + x1) + 1)).bind fun v4 =>
    if v2 ≤ v4 then
      f_X9_nextLots_b42  a0 x1 h
    else
      K7 a0 (x1 + (-1)) h
set_option maxRecDepth 100000 in
set_option maxHeartbeats 4000000 in
theorem w_X9_nextLots_b7 (X : CX RX9 cX9_nextLots 5 (some .boolean) p s m args meth c G b) {out : Int32 × HP} (Z : ZZ p l e RM_X9_nextLots s m args below meth c cX9_nextLots G b False 0 0 Q out) {K7 : Nat → Int32 → HP → Option (Int32 × HP)} (hK7 : ∀ (a0 : Nat) (x1 : Int32) (h : HP), K7 a0 x1 h = some out → ∀ (H : Heap) (locs : List Loc) (ls : Array Slot), ST G b False s h H locs → lv_has ls 5 [(0, .ref (b + a0)), (1, .int x1)] → W p l e RM_X9_nextLots s m args below meth c H locs 0 0 Q (F0 m 7 ls [])) : ∀ (a0 : Nat) (x1 : Int32) (h : HP), f_X9_nextLots_b7 K7 a0 x1 h = some out → ∀ (H : Heap) (locs : List Loc) (ls : Array Slot), ST G b False s h H locs → lv_has ls 5 [(0, .ref (b + a0)), (1, .int x1)] → W p l e RM_X9_nextLots s m args below meth c H locs 0 0 Q (F0 m 7 ls []) := by
  intro a0 x1 h hf H locs ls S hl
  unfold f_X9_nextLots_b7 at hf
  have hx := X.1
  have hb := X.2.1
  refine lv_iload_n hx hb dX9_nextLots_7 rfl (lv_at hl 1 rfl) ?_
  refine lv_if_lt (tgt := 42) hx hb dX9_nextLots_8 (by decide) (fun hc => ?_) (fun hc => ?_)
  · replace hf := ip hf hc
    exact w_X9_nextLots_b42 X Z  _ _ _ hf _ _ _ S (lv_sub hl [0, 1] rfl)
  · replace hf := im hf hc
    refine lv_aload_n hx hb dX9_nextLots_11 rfl (lv_at hl 0 rfl) ?_
    obtain ⟨r1, e_r1, hf⟩ := ob hf
    refine r_getR X S fl_X9_7 e_r1 dX9_nextLots_12 ?_
    refine lv_sipush (v := 1601) hx hb dX9_nextLots_15 (by decide) ?_
    refine lv_iload_n hx hb dX9_nextLots_18 rfl (lv_at hl 1 rfl) ?_
    refine lv_iadd hx hb dX9_nextLots_19 ?_
    obtain ⟨v2, e_v2, hf⟩ := ob hf
    refine r_ald X S e_v2 dX9_nextLots_20 ?_
    refine lv_aload_n hx hb dX9_nextLots_21 rfl (lv_at hl 0 rfl) ?_
    obtain ⟨r3, e_r3, hf⟩ := ob hf
    refine r_getR X S fl_X9_7 e_r3 dX9_nextLots_22 ?_
    refine lv_sipush (v := 1601) hx hb dX9_nextLots_25 (by decide) ?_
    refine lv_iload_n hx hb dX9_nextLots_28 rfl (lv_at hl 1 rfl) ?_
    refine lv_iadd hx hb dX9_nextLots_29 ?_
    refine lv_iconst (v := 1) hx hb dX9_nextLots_30 (by decide) ?_
    refine lv_iadd hx hb dX9_nextLots_31 ?_
    obtain ⟨v4, e_v4, hf⟩ := ob hf
    refine r_ald X S e_v4 dX9_nextLots_32 ?_
    refine lv_icmp_le (tgt := 42) hx hb dX9_nextLots_33 (by decide) (fun hc => ?_) (fun hc => ?_)
    · replace hf := ip hf hc
      exact w_X9_nextLots_b42 X Z  _ _ _ hf _ _ _ S (lv_sub hl [0, 1] rfl)
    · replace hf := im hf hc
      refine lv_iinc (v := x1 + (-1)) (lv' := [(1, .int (x1 + (-1))), (0, .ref (b + a0))]) hx hb dX9_nextLots_36 hl (k := 1) rfl rfl (by decide) rfl (fun ls hl => ?_)
      refine lv_goto (tgt := 7) hx hb dX9_nextLots_39 (by decide) ?_
      exact hK7 _ _ _ hf _ _ _ S (lv_sub hl [1, 0] rfl)
def F_X9_nextLots_7  : Nat → Nat → Int32 → HP → Option (Int32 × HP)
  | 0 => fun _ _ _ => none
  | n + 1 => fun a0 x1 h => f_X9_nextLots_b7 (F_X9_nextLots_7  n) a0 x1 h
theorem wl_X9_nextLots_7 (X : CX RX9 cX9_nextLots 5 (some .boolean) p s m args meth c G b) {out : Int32 × HP} (Z : ZZ p l e RM_X9_nextLots s m args below meth c cX9_nextLots G b False 0 0 Q out)  : ∀ (n : Nat) (a0 : Nat) (x1 : Int32) (h : HP), F_X9_nextLots_7  n a0 x1 h = some out → ∀ (H : Heap) (locs : List Loc) (ls : Array Slot), ST G b False s h H locs → lv_has ls 5 [(0, .ref (b + a0)), (1, .int x1)] → W p l e RM_X9_nextLots s m args below meth c H locs 0 0 Q (F0 m 7 ls []) := by
  intro n
  induction n with
  | zero => intro a0 x1 h hf; exact nn hf
  | succ n ih => exact w_X9_nextLots_b7 X Z ih
def f_X9_nextLots_e  (a0 : Nat) (h : HP) : Option (Int32 × HP) :=
  (gI h a0 9 2).bind fun v1 =>
  F_X9_nextLots_7  FU a0 (v1 - 2) h
set_option maxRecDepth 100000 in
set_option maxHeartbeats 4000000 in
theorem w_X9_nextLots_e (X : CX RX9 cX9_nextLots 5 (some .boolean) p s m args meth c G b) {out : Int32 × HP} (Z : ZZ p l e RM_X9_nextLots s m args below meth c cX9_nextLots G b False 0 0 Q out)  : ∀ (a0 : Nat) (h : HP), f_X9_nextLots_e  a0 h = some out → ∀ (H : Heap) (locs : List Loc) (ls : Array Slot), ST G b False s h H locs → lv_has ls 5 [(0, .ref (b + a0))] → W p l e RM_X9_nextLots s m args below meth c H locs 0 0 Q (F0 m 0 ls []) := by
  intro a0 h hf H locs ls S hl
  unfold f_X9_nextLots_e at hf
  have hx := X.1
  have hb := X.2.1
  refine lv_aload_n hx hb dX9_nextLots_0 rfl (lv_at hl 0 rfl) ?_
  obtain ⟨v1, e_v1, hf⟩ := ob hf
  refine r_getI X S fl_X9_51 e_v1 dX9_nextLots_1 ?_
  refine lv_iconst (v := 2) hx hb dX9_nextLots_4 (by decide) ?_
  refine lv_isub hx hb dX9_nextLots_5 ?_
  refine lv_istore_n (lv' := [(1, .int (v1 - 2)), (0, .ref (b + a0))]) hx hb dX9_nextLots_6 rfl hl (by decide) rfl (fun ls hl => ?_)
  exact wl_X9_nextLots_7 X Z  FU _ _ _ hf _ _ _ S (lv_sub hl [1, 0] rfl)
def f_X9_nextLots (a0 : Nat) (h : HP) : Option (Int32 × HP) := ck h a0 9 (f_X9_nextLots_e a0 h)
theorem o_X9_nextLots {a0 : Nat} {h : HP} {out : Int32 × HP} (hf : f_X9_nextLots a0 h = some out) : ∃ fs, h[a0]? = some (.inl (9, fs)) := (ck_spec hf).1
set_option maxRecDepth 100000 in
theorem c_X9_nextLots {l : Launch} {G : GT} {b : Nat} {a0 : Nat} {h : HP} {out : Int32 × HP} (hf : f_X9_nextLots a0 h = some out) : MT l G b False False yX9_nextLots cX9_nextLots 5 (some .boolean) RM_X9_nextLots [.ref (b + a0)] h (some (.int out.1)) out.2 0 0 := by
  refine met_of (by decide) (Nat.le_of_ble_eq_true rfl) ?_
  intro p e s m below meth c ls X hnm S hl
  have hl : lv_has ls 5 [(0, .ref (b + a0))] := hl
  replace hf := (ck_spec hf).2
  exact w_X9_nextLots_e X (z_zz X) _ _ hf _ _ _ S hl
/-! RoomRingsModel.odds(II)I -/
abbrev RM_X9_odds : Room := { frames := 7, cells := 0, slots := 0, locals := 159 }
def f_X9_odds_b21   (h : HP) : Option (Int32 × HP) :=
  some ((-1000000001), h)
set_option maxRecDepth 100000 in
set_option maxHeartbeats 4000000 in
theorem w_X9_odds_b21 (X : CX RX9 cX9_odds 5 (some .int) p s m args meth c G b) {out : Int32 × HP} (Z : ZI p l e RM_X9_odds s m args below meth c cX9_odds G b False 0 0 Q out)  : ∀  (h : HP), f_X9_odds_b21   h = some out → ∀ (H : Heap) (locs : List Loc) (ls : Array Slot), ST G b False s h H locs → lv_has ls 5 [] → W p l e RM_X9_odds s m args below meth c H locs 0 0 Q (F0 m 21 ls []) := by
  intro  h hf H locs ls S hl
  unfold f_X9_odds_b21 at hf
  have hx := X.1
  have hb := X.2.1
  refine lv_ldc (v := (-1000000001)) hx hb X.2.2.2.1 (X.2.2.2.2.1 _ cn_X9_206) dX9_odds_21 ?_
  obtain rfl := Option.some.inj hf
  exact Z _ _ _ _ dX9_odds_23 S
def f_X9_odds_b72 (K44 : Nat → Int32 → Int32 → Int32 → Int32 → HP → Option (Int32 × HP)) (a0 : Nat) (x1 : Int32) (x2 : Int32) (s0 : Int32) (s1 : Int32) (h : HP) : Option (Int32 × HP) :=
  (f_X9_nextLots a0 h).bind fun q1 =>
  K44 a0 x1 x2 (s0 + s1) q1.1 q1.2
set_option maxRecDepth 100000 in
set_option maxHeartbeats 4000000 in
theorem w_X9_odds_b72 (X : CX RX9 cX9_odds 5 (some .int) p s m args meth c G b) {out : Int32 × HP} (Z : ZI p l e RM_X9_odds s m args below meth c cX9_odds G b False 0 0 Q out) {K44 : Nat → Int32 → Int32 → Int32 → Int32 → HP → Option (Int32 × HP)} (hK44 : ∀ (a0 : Nat) (x1 : Int32) (x2 : Int32) (x3 : Int32) (x4 : Int32) (h : HP), K44 a0 x1 x2 x3 x4 h = some out → ∀ (H : Heap) (locs : List Loc) (ls : Array Slot), ST G b False s h H locs → lv_has ls 5 [(0, .ref (b + a0)), (1, .int x1), (2, .int x2), (3, .int x3), (4, .int x4)] → W p l e RM_X9_odds s m args below meth c H locs 0 0 Q (F0 m 44 ls [])) : ∀ (a0 : Nat) (x1 : Int32) (x2 : Int32) (s0 : Int32) (s1 : Int32) (h : HP), f_X9_odds_b72 K44 a0 x1 x2 s0 s1 h = some out → ∀ (H : Heap) (locs : List Loc) (ls : Array Slot), ST G b False s h H locs → lv_has ls 5 [(0, .ref (b + a0)), (1, .int x1), (2, .int x2)] → W p l e RM_X9_odds s m args below meth c H locs 0 0 Q (F0 m 72 ls [.int s1, .int s0]) := by
  intro a0 x1 x2 s0 s1 h hf H locs ls S hl
  unfold f_X9_odds_b72 at hf
  have hx := X.1
  have hb := X.2.1
  refine lv_iadd hx hb dX9_odds_72 ?_
  refine lv_istore_n (lv' := [(3, .int (s0 + s1)), (0, .ref (b + a0)), (1, .int x1), (2, .int x2)]) hx hb dX9_odds_73 rfl hl (by decide) rfl (fun ls hl => ?_)
  refine lv_aload_n hx hb dX9_odds_74 rfl (lv_at hl 1 rfl) ?_
  obtain ⟨q1, e_q1, hf⟩ := ob hf
  refine r_callV X S hl.1 (As := []) (rest := []) (c_X9_nextLots e_q1) my_X9_nextLots mv_X9_nextLots ml_X9_253 rfl (o_X9_nextLots e_q1) ⟨rfl, rfl, Nat.le_of_ble_eq_true rfl, Nat.le_of_ble_eq_true rfl⟩ rfl rfl (Nat.le_of_ble_eq_true rfl) dX9_odds_75 ⟨Nat.le_of_ble_eq_true rfl, Nat.le_of_ble_eq_true rfl⟩ (fun H locs S => ?_)
  refine W.eq (g2 := F0 m 78 ls [.int q1.1]) rfl ?_
  refine lv_istore (lv' := [(4, .int q1.1), (3, .int (s0 + s1)), (0, .ref (b + a0)), (1, .int x1), (2, .int x2)]) hx hb dX9_odds_78 hl (by decide) rfl (fun ls hl => ?_)
  refine lv_goto (tgt := 44) hx hb dX9_odds_80 (by decide) ?_
  exact hK44 _ _ _ _ _ _ hf _ _ _ S (lv_sub hl [2, 3, 4, 1, 0] rfl)
def f_X9_odds_b44 (K44 : Nat → Int32 → Int32 → Int32 → Int32 → HP → Option (Int32 × HP)) (a0 : Nat) (x1 : Int32) (x2 : Int32) (x3 : Int32) (x4 : Int32) (h : HP) : Option (Int32 × HP) :=
  if x4 = 0 then
    some (x3, h)
  else
    (f_X9_giveOut a0 1541 h).bind fun h1 =>
    (gR h1 a0 9 8).bind fun r2 =>
    (ald h1 r2 x1).bind fun v3 =>
    if v3 = x2 then
      f_X9_odds_b72 K44 a0 x1 x2 x3 1 h1
    else
      f_X9_odds_b72 K44 a0 x1 x2 x3 0 h1
set_option maxRecDepth 100000 in
set_option maxHeartbeats 4000000 in
theorem w_X9_odds_b44 (X : CX RX9 cX9_odds 5 (some .int) p s m args meth c G b) {out : Int32 × HP} (Z : ZI p l e RM_X9_odds s m args below meth c cX9_odds G b False 0 0 Q out) {K44 : Nat → Int32 → Int32 → Int32 → Int32 → HP → Option (Int32 × HP)} (hK44 : ∀ (a0 : Nat) (x1 : Int32) (x2 : Int32) (x3 : Int32) (x4 : Int32) (h : HP), K44 a0 x1 x2 x3 x4 h = some out → ∀ (H : Heap) (locs : List Loc) (ls : Array Slot), ST G b False s h H locs → lv_has ls 5 [(0, .ref (b + a0)), (1, .int x1), (2, .int x2), (3, .int x3), (4, .int x4)] → W p l e RM_X9_odds s m args below meth c H locs 0 0 Q (F0 m 44 ls [])) : ∀ (a0 : Nat) (x1 : Int32) (x2 : Int32) (x3 : Int32) (x4 : Int32) (h : HP), f_X9_odds_b44 K44 a0 x1 x2 x3 x4 h = some out → ∀ (H : Heap) (locs : List Loc) (ls : Array Slot), ST G b False s h H locs → lv_has ls 5 [(0, .ref (b + a0)), (1, .int x1), (2, .int x2), (3, .int x3), (4, .int x4)] → W p l e RM_X9_odds s m args below meth c H locs 0 0 Q (F0 m 44 ls []) := by
  intro a0 x1 x2 x3 x4 h hf H locs ls S hl
  unfold f_X9_odds_b44 at hf
  have hx := X.1
  have hb := X.2.1
  refine lv_iload hx hb dX9_odds_44 (lv_at hl 4 rfl) ?_
  refine lv_if_eq (tgt := 83) hx hb dX9_odds_46 (by decide) (fun hc => ?_) (fun hc => ?_)
  · replace hf := ip hf hc
    refine lv_iload_n hx hb dX9_odds_83 rfl (lv_at hl 3 rfl) ?_
    obtain rfl := Option.some.inj hf
    exact Z _ _ _ _ dX9_odds_84 S
  · replace hf := im hf hc
    refine lv_aload_n hx hb dX9_odds_49 rfl (lv_at hl 0 rfl) ?_
    refine lv_sipush (v := 1541) hx hb dX9_odds_50 (by decide) ?_
    obtain ⟨h1, e_h1, hf⟩ := ob hf
    refine r_callV X S hl.1 (As := [.int 1541]) (rest := []) (c_X9_giveOut e_h1) my_X9_giveOut mv_X9_giveOut ml_X9_187 rfl (o_X9_giveOut e_h1) ⟨rfl, rfl, Nat.le_of_ble_eq_true rfl, Nat.le_of_ble_eq_true rfl⟩ rfl rfl (Nat.le_of_ble_eq_true rfl) dX9_odds_53 ⟨Nat.le_of_ble_eq_true rfl, Nat.le_of_ble_eq_true rfl⟩ (fun H locs S => ?_)
    refine W.eq (g2 := F0 m 56 ls []) rfl ?_
    refine lv_iload_n hx hb dX9_odds_56 rfl (lv_at hl 3 rfl) ?_
    refine lv_aload_n hx hb dX9_odds_57 rfl (lv_at hl 0 rfl) ?_
    obtain ⟨r2, e_r2, hf⟩ := ob hf
    refine r_getR X S fl_X9_20 e_r2 dX9_odds_58 ?_
    refine lv_iload_n hx hb dX9_odds_61 rfl (lv_at hl 1 rfl) ?_
    obtain ⟨v3, e_v3, hf⟩ := ob hf
    refine r_ald X S e_v3 dX9_odds_62 ?_
    refine lv_iload_n hx hb dX9_odds_63 rfl (lv_at hl 2 rfl) ?_
    refine lv_icmp_ne (tgt := 71) hx hb dX9_odds_64 (by decide) (fun hc => ?_) (fun hc => ?_)
    · replace hf := im hf hc
      refine lv_iconst (v := 0) hx hb dX9_odds_71 (by decide) ?_
      exact w_X9_odds_b72 X Z hK44 _ _ _ _ _ _ hf _ _ _ S (lv_sub hl [0, 1, 2] rfl)
    · replace hf := ip hf hc
      refine lv_iconst (v := 1) hx hb dX9_odds_67 (by decide) ?_
      refine lv_goto (tgt := 72) hx hb dX9_odds_68 (by decide) ?_
      exact w_X9_odds_b72 X Z hK44 _ _ _ _ _ _ hf _ _ _ S (lv_sub hl [0, 1, 2] rfl)
def F_X9_odds_44  : Nat → Nat → Int32 → Int32 → Int32 → Int32 → HP → Option (Int32 × HP)
  | 0 => fun _ _ _ _ _ _ => none
  | n + 1 => fun a0 x1 x2 x3 x4 h => f_X9_odds_b44 (F_X9_odds_44  n) a0 x1 x2 x3 x4 h
theorem wl_X9_odds_44 (X : CX RX9 cX9_odds 5 (some .int) p s m args meth c G b) {out : Int32 × HP} (Z : ZI p l e RM_X9_odds s m args below meth c cX9_odds G b False 0 0 Q out)  : ∀ (n : Nat) (a0 : Nat) (x1 : Int32) (x2 : Int32) (x3 : Int32) (x4 : Int32) (h : HP), F_X9_odds_44  n a0 x1 x2 x3 x4 h = some out → ∀ (H : Heap) (locs : List Loc) (ls : Array Slot), ST G b False s h H locs → lv_has ls 5 [(0, .ref (b + a0)), (1, .int x1), (2, .int x2), (3, .int x3), (4, .int x4)] → W p l e RM_X9_odds s m args below meth c H locs 0 0 Q (F0 m 44 ls []) := by
  intro n
  induction n with
  | zero => intro a0 x1 x2 x3 x4 h hf; exact nn hf
  | succ n ih => exact w_X9_odds_b44 X Z ih
def f_X9_odds_b24  (a0 : Nat) (x1 : Int32) (x2 : Int32) (h : HP) : Option (Int32 × HP) :=
  (f_X9_copyRow a0 0 1541 h).bind fun h1 =>
  (f_X9_beginLots a0 1541 h1).bind fun h2 =>
  F_X9_odds_44  FU a0 x1 x2 0 1 h2
set_option maxRecDepth 100000 in
set_option maxHeartbeats 4000000 in
theorem w_X9_odds_b24 (X : CX RX9 cX9_odds 5 (some .int) p s m args meth c G b) {out : Int32 × HP} (Z : ZI p l e RM_X9_odds s m args below meth c cX9_odds G b False 0 0 Q out)  : ∀ (a0 : Nat) (x1 : Int32) (x2 : Int32) (h : HP), f_X9_odds_b24  a0 x1 x2 h = some out → ∀ (H : Heap) (locs : List Loc) (ls : Array Slot), ST G b False s h H locs → lv_has ls 5 [(0, .ref (b + a0)), (1, .int x1), (2, .int x2)] → W p l e RM_X9_odds s m args below meth c H locs 0 0 Q (F0 m 24 ls []) := by
  intro a0 x1 x2 h hf H locs ls S hl
  unfold f_X9_odds_b24 at hf
  have hx := X.1
  have hb := X.2.1
  refine lv_aload_n hx hb dX9_odds_24 rfl (lv_at hl 0 rfl) ?_
  refine lv_iconst (v := 0) hx hb dX9_odds_25 (by decide) ?_
  refine lv_sipush (v := 1541) hx hb dX9_odds_26 (by decide) ?_
  obtain ⟨h1, e_h1, hf⟩ := ob hf
  refine r_callV X S hl.1 (As := [.int 0, .int 1541]) (rest := []) (c_X9_copyRow e_h1) my_X9_copyRow mv_X9_copyRow ml_X9_116 rfl (o_X9_copyRow e_h1) ⟨rfl, rfl, Nat.le_of_ble_eq_true rfl, Nat.le_of_ble_eq_true rfl⟩ rfl rfl (Nat.le_of_ble_eq_true rfl) dX9_odds_29 ⟨Nat.le_of_ble_eq_true rfl, Nat.le_of_ble_eq_true rfl⟩ (fun H locs S => ?_)
  refine W.eq (g2 := F0 m 32 ls []) rfl ?_
  refine lv_aload_n hx hb dX9_odds_32 rfl (lv_at hl 0 rfl) ?_
  refine lv_sipush (v := 1541) hx hb dX9_odds_33 (by decide) ?_
  obtain ⟨h2, e_h2, hf⟩ := ob hf
  refine r_callV X S hl.1 (As := [.int 1541]) (rest := []) (c_X9_beginLots e_h2) my_X9_beginLots mv_X9_beginLots ml_X9_47 rfl (o_X9_beginLots e_h2) ⟨rfl, rfl, Nat.le_of_ble_eq_true rfl, Nat.le_of_ble_eq_true rfl⟩ rfl rfl (Nat.le_of_ble_eq_true rfl) dX9_odds_36 ⟨Nat.le_of_ble_eq_true rfl, Nat.le_of_ble_eq_true rfl⟩ (fun H locs S => ?_)
  refine W.eq (g2 := F0 m 39 ls []) rfl ?_
  refine lv_iconst (v := 0) hx hb dX9_odds_39 (by decide) ?_
  refine lv_istore_n (lv' := [(3, .int 0), (0, .ref (b + a0)), (1, .int x1), (2, .int x2)]) hx hb dX9_odds_40 rfl hl (by decide) rfl (fun ls hl => ?_)
  refine lv_iconst (v := 1) hx hb dX9_odds_41 (by decide) ?_
  refine lv_istore (lv' := [(4, .int 1), (3, .int 0), (0, .ref (b + a0)), (1, .int x1), (2, .int x2)]) hx hb dX9_odds_42 hl (by decide) rfl (fun ls hl => ?_)
  exact wl_X9_odds_44 X Z  FU _ _ _ _ _ _ hf _ _ _ S (lv_sub hl [2, 3, 4, 1, 0] rfl)
def f_X9_odds_e  (a0 : Nat) (x1 : Int32) (x2 : Int32) (h : HP) : Option (Int32 × HP) :=
  (f_X9_isPerson a0 x1 h).bind fun q1 =>
  if q1.1 = 0 then
    f_X9_odds_b21   q1.2
  else
    if x2 = (-1) then
      f_X9_odds_b24  a0 x1 x2 q1.2
    else
      (f_X9_isRoom a0 x2 q1.2).bind fun q2 =>
      if q2.1 = 0 then
        f_X9_odds_b21   q2.2
      else
        f_X9_odds_b24  a0 x1 x2 q2.2
set_option maxRecDepth 100000 in
set_option maxHeartbeats 4000000 in
theorem w_X9_odds_e (X : CX RX9 cX9_odds 5 (some .int) p s m args meth c G b) {out : Int32 × HP} (Z : ZI p l e RM_X9_odds s m args below meth c cX9_odds G b False 0 0 Q out)  : ∀ (a0 : Nat) (x1 : Int32) (x2 : Int32) (h : HP), f_X9_odds_e  a0 x1 x2 h = some out → ∀ (H : Heap) (locs : List Loc) (ls : Array Slot), ST G b False s h H locs → lv_has ls 5 [(0, .ref (b + a0)), (1, .int x1), (2, .int x2)] → W p l e RM_X9_odds s m args below meth c H locs 0 0 Q (F0 m 0 ls []) := by
  intro a0 x1 x2 h hf H locs ls S hl
  unfold f_X9_odds_e at hf
  have hx := X.1
  have hb := X.2.1
  refine lv_aload_n hx hb dX9_odds_0 rfl (lv_at hl 0 rfl) ?_
  refine lv_iload_n hx hb dX9_odds_1 rfl (lv_at hl 1 rfl) ?_
  obtain ⟨q1, e_q1, hf⟩ := ob hf
  refine r_callV X S hl.1 (As := [.int x1]) (rest := []) (c_X9_isPerson e_q1) my_X9_isPerson mv_X9_isPerson ml_X9_202 rfl (o_X9_isPerson e_q1) ⟨rfl, rfl, Nat.le_of_ble_eq_true rfl, Nat.le_of_ble_eq_true rfl⟩ rfl rfl (Nat.le_of_ble_eq_true rfl) dX9_odds_2 ⟨Nat.le_of_ble_eq_true rfl, Nat.le_of_ble_eq_true rfl⟩ (fun H locs S => ?_)
  refine W.eq (g2 := F0 m 5 ls [.int q1.1]) rfl ?_
  refine lv_if_eq (tgt := 21) hx hb dX9_odds_5 (by decide) (fun hc => ?_) (fun hc => ?_)
  · replace hf := ip hf hc
    exact w_X9_odds_b21 X Z  _ hf _ _ _ S (lv_sub hl [] rfl)
  · replace hf := im hf hc
    refine lv_iload_n hx hb dX9_odds_8 rfl (lv_at hl 2 rfl) ?_
    refine lv_iconst (v := (-1)) hx hb dX9_odds_9 (by decide) ?_
    refine lv_icmp_eq (tgt := 24) hx hb dX9_odds_10 (by decide) (fun hc => ?_) (fun hc => ?_)
    · replace hf := ip hf hc
      exact w_X9_odds_b24 X Z  _ _ _ _ hf _ _ _ S (lv_sub hl [0, 1, 2] rfl)
    · replace hf := im hf hc
      refine lv_aload_n hx hb dX9_odds_13 rfl (lv_at hl 0 rfl) ?_
      refine lv_iload_n hx hb dX9_odds_14 rfl (lv_at hl 2 rfl) ?_
      obtain ⟨q2, e_q2, hf⟩ := ob hf
      refine r_callV X S hl.1 (As := [.int x2]) (rest := []) (c_X9_isRoom e_q2) my_X9_isRoom mv_X9_isRoom ml_X9_216 rfl (o_X9_isRoom e_q2) ⟨rfl, rfl, Nat.le_of_ble_eq_true rfl, Nat.le_of_ble_eq_true rfl⟩ rfl rfl (Nat.le_of_ble_eq_true rfl) dX9_odds_15 ⟨Nat.le_of_ble_eq_true rfl, Nat.le_of_ble_eq_true rfl⟩ (fun H locs S => ?_)
      refine W.eq (g2 := F0 m 18 ls [.int q2.1]) rfl ?_
      refine lv_if_ne (tgt := 24) hx hb dX9_odds_18 (by decide) (fun hc => ?_) (fun hc => ?_)
      · replace hf := im hf hc
        exact w_X9_odds_b24 X Z  _ _ _ _ hf _ _ _ S (lv_sub hl [0, 1, 2] rfl)
      · replace hf := ip hf hc
        exact w_X9_odds_b21 X Z  _ hf _ _ _ S (lv_sub hl [] rfl)
def f_X9_odds (a0 : Nat) (x1 : Int32) (x2 : Int32) (h : HP) : Option (Int32 × HP) := ck h a0 9 (f_X9_odds_e a0 x1 x2 h)
theorem o_X9_odds {a0 : Nat} {x1 : Int32} {x2 : Int32} {h : HP} {out : Int32 × HP} (hf : f_X9_odds a0 x1 x2 h = some out) : ∃ fs, h[a0]? = some (.inl (9, fs)) := (ck_spec hf).1
set_option maxRecDepth 100000 in
theorem c_X9_odds {l : Launch} {G : GT} {b : Nat} {a0 : Nat} {x1 : Int32} {x2 : Int32} {h : HP} {out : Int32 × HP} (hf : f_X9_odds a0 x1 x2 h = some out) : MT l G b False False yX9_odds cX9_odds 5 (some .int) RM_X9_odds [.ref (b + a0), .int x1, .int x2] h (some (.int out.1)) out.2 0 0 := by
  refine met_of (by decide) (Nat.le_of_ble_eq_true rfl) ?_
  intro p e s m below meth c ls X hnm S hl
  have hl : lv_has ls 5 [(0, .ref (b + a0)), (1, .int x1), (2, .int x2)] := hl
  replace hf := (ck_spec hf).2
  exact w_X9_odds_e X (z_i X) _ _ _ _ hf _ _ _ S hl
end M18
