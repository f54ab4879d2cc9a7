section M06
variable {p : Program} {l : Launch} {e : Env} {s : State} {m : MethodId} {args : Array Value} {below : List Frame} {meth : Method} {c : Code} {Q : State → Prop} {G : GT} {b : Nat}
/-! RoomRings$Past.pop(ILRoomRings$House;)V -/
abbrev RM_X6_pop : Room := { frames := 2, cells := 0, slots := 0, locals := 39 }
def f_X6_pop_b48   (h : HP) : Option (HP) :=
  some h
set_option maxRecDepth 100000 in
set_option maxHeartbeats 4000000 in
theorem w_X6_pop_b48 (X : CX RX6 cX6_pop 5 none p s m args meth c G b) {out : HP} (Z : ZV p l e RM_X6_pop s m args below meth c cX6_pop G b False 0 0 Q out)  : ∀  (h : HP), f_X6_pop_b48   h = some out → ∀ (H : Heap) (locs : List Loc) (ls : Array Slot), ST G b False s h H locs → lv_has ls 5 [] → W p l e RM_X6_pop s m args below meth c H locs 0 0 Q (F0 m 48 ls []) := by
  intro  h hf H locs ls S hl
  unfold f_X6_pop_b48 at hf
  have hx := X.1
  have hb := X.2.1
  obtain rfl := Option.some.inj hf
  exact Z _ _ _ _ dX6_pop_48 S
def f_X6_pop_b29  (a0 : Nat) (a2 : Nat) (x3 : Int32) (h : HP) : Option (HP) :=
  f_X6_pop_b48   h
set_option maxRecDepth 100000 in
set_option maxHeartbeats 4000000 in
theorem w_X6_pop_b29 (X : CX RX6 cX6_pop 5 none p s m args meth c G b) {out : HP} (Z : ZV p l e RM_X6_pop s m args below meth c cX6_pop G b False 0 0 Q out)  : ∀ (a0 : Nat) (a2 : Nat) (x3 : Int32) (h : HP), f_X6_pop_b29  a0 a2 x3 h = some out → ∀ (H : Heap) (locs : List Loc) (ls : Array Slot), ST G b False s h H locs → lv_has ls 5 [(0, .ref (b + a0)), (2, .ref (b + a2)), (3, .int x3)] → W p l e RM_X6_pop s m args below meth c H locs 0 0 Q (F0 m 29 ls []) := by
  intro a0 a2 x3 h hf H locs ls S hl
  unfold f_X6_pop_b29 at hf
  have hx := X.1
  have hb := X.2.1
  refine lv_null hx hb dX6_pop_29 ?_
  refine lv_astoreN (lv' := [(4, .null), (0, .ref (b + a0)), (2, .ref (b + a2)), (3, .int x3)]) hx hb dX6_pop_30 hl (by decide) rfl (fun ls hl => ?_)
  refine lv_aloadN hx hb dX6_pop_32 (lv_at hl 0 rfl) ?_
  refine lv_ifnullN (tgt := 48) hx hb dX6_pop_34 (by decide) ?_
  exact w_X6_pop_b48 X Z  _ hf _ _ _ S (lv_sub hl [] rfl)
def f_X6_pop_e  (a0 : Nat) (x1 : Int32) (a2 : Nat) (h : HP) : Option (HP) :=
  (gI h a0 6 0).bind fun v1 =>
  if (v1 - x1) < 0 then
    f_X6_pop_b29  a0 a2 (v1 - x1) h
  else
    (gR h a0 6 1).bind fun r2 =>
    (alen h r2).bind fun v3 =>
    if v3 ≤ (v1 - x1) then
      f_X6_pop_b29  a0 a2 (v1 - x1) h
    else
      (gR h a0 6 1).bind fun r4 =>
      (qld h r4 (v1 - x1)).bind fun r5 =>
      (f_X3_copy a2 r5 h).bind fun h6 =>
      (pI h6 a0 6 0 (v1 - x1)).bind fun h7 =>
      f_X6_pop_b48   h7
set_option maxRecDepth 100000 in
set_option maxHeartbeats 4000000 in
theorem w_X6_pop_e (X : CX RX6 cX6_pop 5 none p s m args meth c G b) {out : HP} (Z : ZV p l e RM_X6_pop s m args below meth c cX6_pop G b False 0 0 Q out)  : ∀ (a0 : Nat) (x1 : Int32) (a2 : Nat) (h : HP), f_X6_pop_e  a0 x1 a2 h = some out → ∀ (H : Heap) (locs : List Loc) (ls : Array Slot), ST G b False s h H locs → lv_has ls 5 [(0, .ref (b + a0)), (1, .int x1), (2, .ref (b + a2))] → W p l e RM_X6_pop s m args below meth c H locs 0 0 Q (F0 m 0 ls []) := by
  intro a0 x1 a2 h hf H locs ls S hl
  unfold f_X6_pop_e at hf
  have hx := X.1
  have hb := X.2.1
  refine lv_aload_n hx hb dX6_pop_0 rfl (lv_at hl 0 rfl) ?_
  obtain ⟨v1, e_v1, hf⟩ := ob hf
  refine r_getI X S fl_X6_18 e_v1 dX6_pop_1 ?_
  refine lv_iload_n hx hb dX6_pop_4 rfl (lv_at hl 1 rfl) ?_
  refine lv_isub hx hb dX6_pop_5 ?_
  refine lv_istore_n (lv' := [(3, .int (v1 - x1)), (0, .ref (b + a0)), (1, .int x1), (2, .ref (b + a2))]) hx hb dX6_pop_6 rfl hl (by decide) rfl (fun ls hl => ?_)
  refine lv_iload_n hx hb dX6_pop_7 rfl (lv_at hl 0 rfl) ?_
  refine lv_if_lt (tgt := 29) hx hb dX6_pop_8 (by decide) (fun hc => ?_) (fun hc => ?_)
  · replace hf := ip hf hc
    exact w_X6_pop_b29 X Z  _ _ _ _ hf _ _ _ S (lv_sub hl [1, 3, 0] rfl)
  · replace hf := im hf hc
    refine lv_iload_n hx hb dX6_pop_11 rfl (lv_at hl 0 rfl) ?_
    refine lv_aload_n hx hb dX6_pop_12 rfl (lv_at hl 1 rfl) ?_
    obtain ⟨r2, e_r2, hf⟩ := ob hf
    refine r_getR X S fl_X6_11 e_r2 dX6_pop_13 ?_
    obtain ⟨v3, e_v3, hf⟩ := ob hf
    refine r_alen X S e_v3 dX6_pop_16 ?_
    refine lv_icmp_ge (tgt := 29) hx hb dX6_pop_17 (by decide) (fun hc => ?_) (fun hc => ?_)
    · replace hf := ip hf hc
      exact w_X6_pop_b29 X Z  _ _ _ _ hf _ _ _ S (lv_sub hl [1, 3, 0] rfl)
    · replace hf := im hf hc
      refine lv_aload_n hx hb dX6_pop_20 rfl (lv_at hl 1 rfl) ?_
      obtain ⟨r4, e_r4, hf⟩ := ob hf
      refine r_getR X S fl_X6_11 e_r4 dX6_pop_21 ?_
      refine lv_iload_n hx hb dX6_pop_24 rfl (lv_at hl 0 rfl) ?_
      obtain ⟨r5, e_r5, hf⟩ := ob hf
      refine r_qld X S e_r5 dX6_pop_25 ?_
      refine lv_goto (tgt := 30) hx hb dX6_pop_26 (by decide) ?_
      refine lv_astore (lv' := [(4, .ref (b + r5)), (3, .int (v1 - x1)), (0, .ref (b + a0)), (1, .int x1), (2, .ref (b + a2))]) hx hb dX6_pop_30 hl (by decide) rfl (fun ls hl => ?_)
      refine lv_aload hx hb dX6_pop_32 (lv_at hl 0 rfl) ?_
      refine lv_ifnull hx hb dX6_pop_34 ?_
      refine lv_aload_n hx hb dX6_pop_37 rfl (lv_at hl 4 rfl) ?_
      refine lv_aload hx hb dX6_pop_38 (lv_at hl 0 rfl) ?_
      obtain ⟨h6, e_h6, hf⟩ := ob hf
      refine r_callV X S hl.1 (As := [.ref (b + r5)]) (rest := []) (c_X3_copy e_h6) my_X3_copy mv_X3_copy ml_X6_25 rfl (o_X3_copy e_h6) ⟨rfl, rfl, Nat.le_of_ble_eq_true rfl, Nat.le_of_ble_eq_true rfl⟩ rfl rfl (Nat.le_of_ble_eq_true rfl) dX6_pop_40 ⟨Nat.le_of_ble_eq_true rfl, Nat.le_of_ble_eq_true rfl⟩ (fun H locs S => ?_)
      refine W.eq (g2 := F0 m 43 ls []) rfl ?_
      refine lv_aload_n hx hb dX6_pop_43 rfl (lv_at hl 2 rfl) ?_
      refine lv_iload_n hx hb dX6_pop_44 rfl (lv_at hl 1 rfl) ?_
      obtain ⟨h7, e_h7, hf⟩ := ob hf
      refine r_put X S fp_X6_18 (fun h9 => by cases h9) rfl rfl rfl e_h7 dX6_pop_45 (fun H locs S => ?_)
      exact w_X6_pop_b48 X Z  _ hf _ _ _ S (lv_sub hl [] rfl)
def f_X6_pop (a0 : Nat) (x1 : Int32) (a2 : Nat) (h : HP) : Option (HP) := ck h a0 6 (f_X6_pop_e a0 x1 a2 h)
theorem o_X6_pop {a0 : Nat} {x1 : Int32} {a2 : Nat} {h : HP} {out : HP} (hf : f_X6_pop a0 x1 a2 h = some out) : ∃ fs, h[a0]? = some (.inl (6, fs)) := (ck_spec hf).1
set_option maxRecDepth 100000 in
theorem c_X6_pop {l : Launch} {G : GT} {b : Nat} {a0 : Nat} {x1 : Int32} {a2 : Nat} {h : HP} {out : HP} (hf : f_X6_pop a0 x1 a2 h = some out) : MT l G b False False yX6_pop cX6_pop 5 none RM_X6_pop [.ref (b + a0), .int x1, .ref (b + a2)] h none out 0 0 := by
  refine met_of (by decide) (Nat.le_of_ble_eq_true rfl) ?_
  intro p e s m below meth c ls X hnm S hl
  have hl : lv_has ls 5 [(0, .ref (b + a0)), (1, .int x1), (2, .ref (b + a2))] := hl
  replace hf := (ck_spec hf).2
  exact w_X6_pop_e X (z_v X) _ _ _ _ hf _ _ _ S hl
/-! RoomRings$Text.<init>()V -/
abbrev RM_X7_init : Room := { frames := 1, cells := 1, slots := 240, locals := 12 }
def f_X7_init_e  (a0 : Nat) (h : HP) : Option (HP) :=
  (pI h a0 7 1 (-1)).bind fun h1 =>
  (pR (hpush h1 (.inr (.inl (240, fun _ => 0)))) a0 7 5 (List.length h1)).bind fun h2 =>
  some h2
set_option maxRecDepth 100000 in
set_option maxHeartbeats 4000000 in
theorem w_X7_init_e (X : CX RX7 cX7_init 1 none p s m args meth c G b) (hnm : meth.name = "<init>") {out : HP} (Z : ZV p l e RM_X7_init s m args below meth c cX7_init G b True 1 240 Q out)  : ∀ (a0 : Nat) (h : HP), f_X7_init_e  a0 h = some out → ∀ (H : Heap) (locs : List Loc) (ls : Array Slot), ST G b True s h H locs → lv_has ls 1 [(0, .ref (b + a0))] → W p l e RM_X7_init s m args below meth c H locs 0 0 Q (F0 m 0 ls []) := by
  intro a0 h hf H locs ls S hl
  unfold f_X7_init_e at hf
  have hx := X.1
  have hb := X.2.1
  refine lv_aload_n hx hb dX7_init_0 rfl (lv_at hl 0 rfl) ?_
  refine W.objInit hx hb X.2.2.2.1 (X.2.2.2.2.1 _ ml_X7_3) (X.2.2.2.2.1 _ oi_i) (X.2.2.2.2.1 _ oi_c) rfl (by rw [X.2.2.1]; exact hl.1) rfl dX7_init_1 (Nat.le_of_ble_eq_true rfl) (Nat.le_of_ble_eq_true rfl) ?_
  refine W.eq (g2 := F0 m 4 ls []) rfl ?_
  refine lv_aload_n hx hb dX7_init_4 rfl (lv_at hl 0 rfl) ?_
  refine lv_iconst (v := (-1)) hx hb dX7_init_5 (by decide) ?_
  obtain ⟨h1, e_h1, hf⟩ := ob hf
  refine r_put X S fp_X7_9 (fun h9 => by cases h9) rfl rfl rfl e_h1 dX7_init_6 (fun H locs S => ?_)
  refine lv_aload_n hx hb dX7_init_9 rfl (lv_at hl 0 rfl) ?_
  refine lv_sipush (v := 240) hx hb dX7_init_10 (by decide) ?_
  refine r_newI (N := 240) X S ac_int (by decide) (by decide) (by decide) (Nat.le_of_ble_eq_true rfl) (Nat.le_of_ble_eq_true rfl) dX7_init_13 (fun H locs S => ?_)
  refine W.widen (k := 1) (n := 240) (Nat.le_of_ble_eq_true rfl) (Nat.le_of_ble_eq_true rfl) ?_
  obtain ⟨h2, e_h2, hf⟩ := ob hf
  refine r_put X S fp_X7_15 (fun _ => hnm) rfl rfl rfl e_h2 dX7_init_15 (fun H locs S => ?_)
  obtain rfl := Option.some.inj hf
  exact Z _ _ _ _ dX7_init_18 S
def f_X7_init (a0 : Nat) (h : HP) : Option (HP) := f_X7_init_e a0 h
set_option maxRecDepth 100000 in
theorem c_X7_init {l : Launch} {G : GT} {b : Nat} {a0 : Nat} {h : HP} {out : HP} (hf : f_X7_init a0 h = some out) : MT l G b True True yX7_init cX7_init 1 none RM_X7_init [.ref (b + a0)] h none out 1 240 := by
  refine met_of (by decide) (Nat.le_of_ble_eq_true rfl) ?_
  intro p e s m below meth c ls X hnm S hl
  have hl : lv_has ls 1 [(0, .ref (b + a0))] := hl
  exact w_X7_init_e X hnm (z_v X) _ _ hf _ _ _ S hl
/-! RoomRings$Text.add(I)I -/
abbrev RM_X7_add : Room := { frames := 1, cells := 0, slots := 0, locals := 22 }
def f_X7_add_e  (a0 : Nat) (x1 : Int32) (h : HP) : Option (Int32 × HP) :=
  (gI h a0 7 0).bind fun v1 =>
  if v1 < 240 then
    (gR h a0 7 5).bind fun r2 =>
    (gI h a0 7 0).bind fun v3 =>
    (f_X8_put r2 v3 x1 h).bind fun h4 =>
    (gI h4 a0 7 0).bind fun v5 =>
    (pI h4 a0 7 0 (v5 + 1)).bind fun h6 =>
    (gI h6 a0 7 0).bind fun v7 =>
    some (v7, h6)
  else
    some ((-1000000004), h)
set_option maxRecDepth 100000 in
set_option maxHeartbeats 4000000 in
theorem w_X7_add_e (X : CX RX7 cX7_add 2 (some .int) p s m args meth c G b) {out : Int32 × HP} (Z : ZI p l e RM_X7_add s m args below meth c cX7_add G b False 0 0 Q out)  : ∀ (a0 : Nat) (x1 : Int32) (h : HP), f_X7_add_e  a0 x1 h = some out → ∀ (H : Heap) (locs : List Loc) (ls : Array Slot), ST G b False s h H locs → lv_has ls 2 [(0, .ref (b + a0)), (1, .int x1)] → W p l e RM_X7_add s m args below meth c H locs 0 0 Q (F0 m 0 ls []) := by
  intro a0 x1 h hf H locs ls S hl
  unfold f_X7_add_e at hf
  have hx := X.1
  have hb := X.2.1
  refine lv_aload_n hx hb dX7_add_0 rfl (lv_at hl 0 rfl) ?_
  obtain ⟨v1, e_v1, hf⟩ := ob hf
  refine r_getI X S fl_X7_19 e_v1 dX7_add_1 ?_
  refine lv_sipush (v := 240) hx hb dX7_add_4 (by decide) ?_
  refine lv_icmp_lt (tgt := 13) hx hb dX7_add_7 (by decide) (fun hc => ?_) (fun hc => ?_)
  · replace hf := ip hf hc
    refine lv_aload_n hx hb dX7_add_13 rfl (lv_at hl 0 rfl) ?_
    obtain ⟨r2, e_r2, hf⟩ := ob hf
    refine r_getR X S fl_X7_15 e_r2 dX7_add_14 ?_
    refine lv_aload_n hx hb dX7_add_17 rfl (lv_at hl 0 rfl) ?_
    obtain ⟨v3, e_v3, hf⟩ := ob hf
    refine r_getI X S fl_X7_19 e_v3 dX7_add_18 ?_
    refine lv_iload_n hx hb dX7_add_21 rfl (lv_at hl 1 rfl) ?_
    obtain ⟨h4, e_h4, hf⟩ := ob hf
    refine r_callSN X S hl.1 (As := [.ref (b + r2), .int v3, .int x1]) (rest := []) (c_X8_put e_h4) my_X8_put ms_X8_put nl_X7_23 ⟨rfl, rfl, Nat.le_of_ble_eq_true rfl, Nat.le_of_ble_eq_true rfl⟩ rfl rfl (Nat.le_of_ble_eq_true rfl) dX7_add_22 ⟨Nat.le_of_ble_eq_true rfl, Nat.le_of_ble_eq_true rfl⟩ (fun H locs S => ?_)
    refine W.eq (g2 := F0 m 25 ls []) rfl ?_
    refine lv_aload_n hx hb dX7_add_25 rfl (lv_at hl 0 rfl) ?_
    refine lv_dup hx hb dX7_add_26 rfl ?_
    obtain ⟨v5, e_v5, hf⟩ := ob hf
    refine r_getI X S fl_X7_19 e_v5 dX7_add_27 ?_
    refine lv_iconst (v := 1) hx hb dX7_add_30 (by decide) ?_
    refine lv_iadd hx hb dX7_add_31 ?_
    obtain ⟨h6, e_h6, hf⟩ := ob hf
    refine r_put X S fp_X7_19 (fun h9 => by cases h9) rfl rfl rfl e_h6 dX7_add_32 (fun H locs S => ?_)
    refine lv_aload_n hx hb dX7_add_35 rfl (lv_at hl 0 rfl) ?_
    obtain ⟨v7, e_v7, hf⟩ := ob hf
    refine r_getI X S fl_X7_19 e_v7 dX7_add_36 ?_
    obtain rfl := Option.some.inj hf
    exact Z _ _ _ _ dX7_add_39 S
  · replace hf := im hf hc
    refine lv_ldc (v := (-1000000004)) hx hb X.2.2.2.1 (X.2.2.2.2.1 _ cn_X7_22) dX7_add_10 ?_
    obtain rfl := Option.some.inj hf
    exact Z _ _ _ _ dX7_add_12 S
def f_X7_add (a0 : Nat) (x1 : Int32) (h : HP) : Option (Int32 × HP) := ck h a0 7 (f_X7_add_e a0 x1 h)
theorem o_X7_add {a0 : Nat} {x1 : Int32} {h : HP} {out : Int32 × HP} (hf : f_X7_add a0 x1 h = some out) : ∃ fs, h[a0]? = some (.inl (7, fs)) := (ck_spec hf).1
set_option maxRecDepth 100000 in
theorem c_X7_add {l : Launch} {G : GT} {b : Nat} {a0 : Nat} {x1 : Int32} {h : HP} {out : Int32 × HP} (hf : f_X7_add a0 x1 h = some out) : MT l G b False False yX7_add cX7_add 2 (some .int) RM_X7_add [.ref (b + a0), .int x1] h (some (.int out.1)) out.2 0 0 := by
  refine met_of (by decide) (Nat.le_of_ble_eq_true rfl) ?_
  intro p e s m below meth c ls X hnm S hl
  have hl : lv_has ls 2 [(0, .ref (b + a0)), (1, .int x1)] := hl
  replace hf := (ck_spec hf).2
  exact w_X7_add_e X (z_i X) _ _ _ hf _ _ _ S hl
/-! RoomRings$Text.peek()I -/
abbrev RM_X7_peek : Room := { frames := 0, cells := 0, slots := 0, locals := 0 }
def f_X7_peek_b67   (h : HP) : Option (Int32 × HP) :=
  some ((-1), h)
set_option maxRecDepth 100000 in
set_option maxHeartbeats 4000000 in
theorem w_X7_peek_b67 (X : CX RX7 cX7_peek 1 (some .int) p s m args meth c G b) {out : Int32 × HP} (Z : ZI p l e RM_X7_peek s m args below meth c cX7_peek G b False 0 0 Q out)  : ∀  (h : HP), f_X7_peek_b67   h = some out → ∀ (H : Heap) (locs : List Loc) (ls : Array Slot), ST G b False s h H locs → lv_has ls 1 [] → W p l e RM_X7_peek s m args below meth c H locs 0 0 Q (F0 m 67 ls []) := by
  intro  h hf H locs ls S hl
  unfold f_X7_peek_b67 at hf
  have hx := X.1
  have hb := X.2.1
  refine lv_iconst (v := (-1)) hx hb dX7_peek_67 (by decide) ?_
  obtain rfl := Option.some.inj hf
  exact Z _ _ _ _ dX7_peek_68 S
def f_X7_peek_b0 (K0 : Nat → HP → Option (Int32 × HP)) (a0 : Nat) (h : HP) : Option (Int32 × HP) :=
  (gI h a0 7 3).bind fun v1 =>
  if v1 < 0 then
    f_X7_peek_b67   h
  else
    (gI h a0 7 3).bind fun v2 =>
    (gI h a0 7 0).bind fun v3 =>
    if v3 ≤ v2 then
      f_X7_peek_b67   h
    else
      (gI h a0 7 3).bind fun v4 =>
      (gR h a0 7 5).bind fun r5 =>
      (alen h r5).bind fun v6 =>
      if v6 ≤ v4 then
        f_X7_peek_b67   h
      else
        (gR h a0 7 5).bind fun r7 =>
        (gI h a0 7 3).bind fun v8 =>
        (ald h r7 v8).bind fun v9 =>
        if v9 = 32 then
          (gI h a0 7 3).bind fun v10 =>
          (pI h a0 7 3 (v10 + 1)).bind fun h11 =>
          K0 a0 h11
        else
          (gR h a0 7 5).bind fun r12 =>
          (gI h a0 7 3).bind fun v13 =>
          (ald h r12 v13).bind fun v14 =>
          some (v14, h)
set_option maxRecDepth 100000 in
set_option maxHeartbeats 4000000 in
theorem w_X7_peek_b0 (X : CX RX7 cX7_peek 1 (some .int) p s m args meth c G b) {out : Int32 × HP} (Z : ZI p l e RM_X7_peek s m args below meth c cX7_peek G b False 0 0 Q out) {K0 : Nat → HP → Option (Int32 × HP)} (hK0 : ∀ (a0 : Nat) (h : HP), K0 a0 h = some out → ∀ (H : Heap) (locs : List Loc) (ls : Array Slot), ST G b False s h H locs → lv_has ls 1 [(0, .ref (b + a0))] → W p l e RM_X7_peek s m args below meth c H locs 0 0 Q (F0 m 0 ls [])) : ∀ (a0 : Nat) (h : HP), f_X7_peek_b0 K0 a0 h = some out → ∀ (H : Heap) (locs : List Loc) (ls : Array Slot), ST G b False s h H locs → lv_has ls 1 [(0, .ref (b + a0))] → W p l e RM_X7_peek s m args below meth c H locs 0 0 Q (F0 m 0 ls []) := by
  intro a0 h hf H locs ls S hl
  unfold f_X7_peek_b0 at hf
  have hx := X.1
  have hb := X.2.1
  refine lv_aload_n hx hb dX7_peek_0 rfl (lv_at hl 0 rfl) ?_
  obtain ⟨v1, e_v1, hf⟩ := ob hf
  refine r_getI X S fl_X7_32 e_v1 dX7_peek_1 ?_
  refine lv_if_lt (tgt := 67) hx hb dX7_peek_4 (by decide) (fun hc => ?_) (fun hc => ?_)
  · replace hf := ip hf hc
    exact w_X7_peek_b67 X Z  _ hf _ _ _ S (lv_sub hl [] rfl)
  · replace hf := im hf hc
    refine lv_aload_n hx hb dX7_peek_7 rfl (lv_at hl 0 rfl) ?_
    obtain ⟨v2, e_v2, hf⟩ := ob hf
    refine r_getI X S fl_X7_32 e_v2 dX7_peek_8 ?_
    refine lv_aload_n hx hb dX7_peek_11 rfl (lv_at hl 0 rfl) ?_
    obtain ⟨v3, e_v3, hf⟩ := ob hf
    refine r_getI X S fl_X7_19 e_v3 dX7_peek_12 ?_
    refine lv_icmp_ge (tgt := 67) hx hb dX7_peek_15 (by decide) (fun hc => ?_) (fun hc => ?_)
    · replace hf := ip hf hc
      exact w_X7_peek_b67 X Z  _ hf _ _ _ S (lv_sub hl [] rfl)
    · replace hf := im hf hc
      refine lv_aload_n hx hb dX7_peek_18 rfl (lv_at hl 0 rfl) ?_
      obtain ⟨v4, e_v4, hf⟩ := ob hf
      refine r_getI X S fl_X7_32 e_v4 dX7_peek_19 ?_
      refine lv_aload_n hx hb dX7_peek_22 rfl (lv_at hl 0 rfl) ?_
      obtain ⟨r5, e_r5, hf⟩ := ob hf
      refine r_getR X S fl_X7_15 e_r5 dX7_peek_23 ?_
      obtain ⟨v6, e_v6, hf⟩ := ob hf
      refine r_alen X S e_v6 dX7_peek_26 ?_
      refine lv_icmp_ge (tgt := 67) hx hb dX7_peek_27 (by decide) (fun hc => ?_) (fun hc => ?_)
      · replace hf := ip hf hc
        exact w_X7_peek_b67 X Z  _ hf _ _ _ S (lv_sub hl [] rfl)
      · replace hf := im hf hc
        refine lv_aload_n hx hb dX7_peek_30 rfl (lv_at hl 0 rfl) ?_
        obtain ⟨r7, e_r7, hf⟩ := ob hf
        refine r_getR X S fl_X7_15 e_r7 dX7_peek_31 ?_
        refine lv_aload_n hx hb dX7_peek_34 rfl (lv_at hl 0 rfl) ?_
        obtain ⟨v8, e_v8, hf⟩ := ob hf
        refine r_getI X S fl_X7_32 e_v8 dX7_peek_35 ?_
        obtain ⟨v9, e_v9, hf⟩ := ob hf
        refine r_ald X S e_v9 dX7_peek_38 ?_
        refine lv_bipush (v := 32) hx hb dX7_peek_39 (by decide) ?_
        refine lv_icmp_eq (tgt := 54) hx hb dX7_peek_41 (by decide) (fun hc => ?_) (fun hc => ?_)
        · replace hf := ip hf hc
          refine lv_aload_n hx hb dX7_peek_54 rfl (lv_at hl 0 rfl) ?_
          refine lv_dup hx hb dX7_peek_55 rfl ?_
          obtain ⟨v10, e_v10, hf⟩ := ob hf
          refine r_getI X S fl_X7_32 e_v10 dX7_peek_56 ?_
          refine lv_iconst (v := 1) hx hb dX7_peek_59 (by decide) ?_
          refine lv_iadd hx hb dX7_peek_60 ?_
          obtain ⟨h11, e_h11, hf⟩ := ob hf
          refine r_put X S fp_X7_32 (fun h9 => by cases h9) rfl rfl rfl e_h11 dX7_peek_61 (fun H locs S => ?_)
          refine lv_goto (tgt := 0) hx hb dX7_peek_64 (by decide) ?_
          exact hK0 _ _ hf _ _ _ S (lv_sub hl [0] rfl)
        · replace hf := im hf hc
          refine lv_aload_n hx hb dX7_peek_44 rfl (lv_at hl 0 rfl) ?_
          obtain ⟨r12, e_r12, hf⟩ := ob hf
          refine r_getR X S fl_X7_15 e_r12 dX7_peek_45 ?_
          refine lv_aload_n hx hb dX7_peek_48 rfl (lv_at hl 0 rfl) ?_
          obtain ⟨v13, e_v13, hf⟩ := ob hf
          refine r_getI X S fl_X7_32 e_v13 dX7_peek_49 ?_
          obtain ⟨v14, e_v14, hf⟩ := ob hf
          refine r_ald X S e_v14 dX7_peek_52 ?_
          obtain rfl := Option.some.inj hf
          exact Z _ _ _ _ dX7_peek_53 S
def F_X7_peek_0  : Nat → Nat → HP → Option (Int32 × HP)
  | 0 => fun _ _ => none
  | n + 1 => fun a0 h => f_X7_peek_b0 (F_X7_peek_0  n) a0 h
theorem wl_X7_peek_0 (X : CX RX7 cX7_peek 1 (some .int) p s m args meth c G b) {out : Int32 × HP} (Z : ZI p l e RM_X7_peek s m args below meth c cX7_peek G b False 0 0 Q out)  : ∀ (n : Nat) (a0 : Nat) (h : HP), F_X7_peek_0  n a0 h = some out → ∀ (H : Heap) (locs : List Loc) (ls : Array Slot), ST G b False s h H locs → lv_has ls 1 [(0, .ref (b + a0))] → W p l e RM_X7_peek s m args below meth c H locs 0 0 Q (F0 m 0 ls []) := by
  intro n
  induction n with
  | zero => intro a0 h hf; exact nn hf
  | succ n ih => exact w_X7_peek_b0 X Z ih
def f_X7_peek (a0 : Nat) (h : HP) : Option (Int32 × HP) := ck h a0 7 (F_X7_peek_0 FU a0 h)
theorem o_X7_peek {a0 : Nat} {h : HP} {out : Int32 × HP} (hf : f_X7_peek a0 h = some out) : ∃ fs, h[a0]? = some (.inl (7, fs)) := (ck_spec hf).1
set_option maxRecDepth 100000 in
theorem c_X7_peek {l : Launch} {G : GT} {b : Nat} {a0 : Nat} {h : HP} {out : Int32 × HP} (hf : f_X7_peek a0 h = some out) : MT l G b False False yX7_peek cX7_peek 1 (some .int) RM_X7_peek [.ref (b + a0)] h (some (.int out.1)) out.2 0 0 := by
  refine met_of (by decide) (Nat.le_of_ble_eq_true rfl) ?_
  intro p e s m below meth c ls X hnm S hl
  have hl : lv_has ls 1 [(0, .ref (b + a0))] := hl
  replace hf := (ck_spec hf).2
  exact wl_X7_peek_0 X (z_i X) FU _ _ hf _ _ _ S hl
/-! RoomRings$Text.fail(II)V -/
abbrev RM_X7_fail : Room := { frames := 0, cells := 0, slots := 0, locals := 0 }
def f_X7_fail_b17   (h : HP) : Option (HP) :=
  some h
set_option maxRecDepth 100000 in
set_option maxHeartbeats 4000000 in
theorem w_X7_fail_b17 (X : CX RX7 cX7_fail 3 none p s m args meth c G b) {out : HP} (Z : ZV p l e RM_X7_fail s m args below meth c cX7_fail G b False 0 0 Q out)  : ∀  (h : HP), f_X7_fail_b17   h = some out → ∀ (H : Heap) (locs : List Loc) (ls : Array Slot), ST G b False s h H locs → lv_has ls 3 [] → W p l e RM_X7_fail s m args below meth c H locs 0 0 Q (F0 m 17 ls []) := by
  intro  h hf H locs ls S hl
  unfold f_X7_fail_b17 at hf
  have hx := X.1
  have hb := X.2.1
  obtain rfl := Option.some.inj hf
  exact Z _ _ _ _ dX7_fail_17 S
def f_X7_fail_e  (a0 : Nat) (x1 : Int32) (x2 : Int32) (h : HP) : Option (HP) :=
  (gI h a0 7 2).bind fun v1 =>
  if v1 = 0 then
    (pI h a0 7 2 x1).bind fun h2 =>
    (pI h2 a0 7 1 x2).bind fun h3 =>
    f_X7_fail_b17   h3
  else
    f_X7_fail_b17   h
set_option maxRecDepth 100000 in
set_option maxHeartbeats 4000000 in
theorem w_X7_fail_e (X : CX RX7 cX7_fail 3 none p s m args meth c G b) {out : HP} (Z : ZV p l e RM_X7_fail s m args below meth c cX7_fail G b False 0 0 Q out)  : ∀ (a0 : Nat) (x1 : Int32) (x2 : Int32) (h : HP), f_X7_fail_e  a0 x1 x2 h = some out → ∀ (H : Heap) (locs : List Loc) (ls : Array Slot), ST G b False s h H locs → lv_has ls 3 [(0, .ref (b + a0)), (1, .int x1), (2, .int x2)] → W p l e RM_X7_fail s m args below meth c H locs 0 0 Q (F0 m 0 ls []) := by
  intro a0 x1 x2 h hf H locs ls S hl
  unfold f_X7_fail_e at hf
  have hx := X.1
  have hb := X.2.1
  refine lv_aload_n hx hb dX7_fail_0 rfl (lv_at hl 0 rfl) ?_
  obtain ⟨v1, e_v1, hf⟩ := ob hf
  refine r_getI X S fl_X7_35 e_v1 dX7_fail_1 ?_
  refine lv_if_ne (tgt := 17) hx hb dX7_fail_4 (by decide) (fun hc => ?_) (fun hc => ?_)
  · replace hf := im hf hc
    exact w_X7_fail_b17 X Z  _ hf _ _ _ S (lv_sub hl [] rfl)
  · replace hf := ip hf hc
    refine lv_aload_n hx hb dX7_fail_7 rfl (lv_at hl 0 rfl) ?_
    refine lv_iload_n hx hb dX7_fail_8 rfl (lv_at hl 1 rfl) ?_
    obtain ⟨h2, e_h2, hf⟩ := ob hf
    refine r_put X S fp_X7_35 (fun h9 => by cases h9) rfl rfl rfl e_h2 dX7_fail_9 (fun H locs S => ?_)
    refine lv_aload_n hx hb dX7_fail_12 rfl (lv_at hl 0 rfl) ?_
    refine lv_iload_n hx hb dX7_fail_13 rfl (lv_at hl 2 rfl) ?_
    obtain ⟨h3, e_h3, hf⟩ := ob hf
    refine r_put X S fp_X7_9 (fun h9 => by cases h9) rfl rfl rfl e_h3 dX7_fail_14 (fun H locs S => ?_)
    exact w_X7_fail_b17 X Z  _ hf _ _ _ S (lv_sub hl [] rfl)
def f_X7_fail (a0 : Nat) (x1 : Int32) (x2 : Int32) (h : HP) : Option (HP) := ck h a0 7 (f_X7_fail_e a0 x1 x2 h)
theorem o_X7_fail {a0 : Nat} {x1 : Int32} {x2 : Int32} {h : HP} {out : HP} (hf : f_X7_fail a0 x1 x2 h = some out) : ∃ fs, h[a0]? = some (.inl (7, fs)) := (ck_spec hf).1
set_option maxRecDepth 100000 in
theorem c_X7_fail {l : Launch} {G : GT} {b : Nat} {a0 : Nat} {x1 : Int32} {x2 : Int32} {h : HP} {out : HP} (hf : f_X7_fail a0 x1 x2 h = some out) : MT l G b False False yX7_fail cX7_fail 3 none RM_X7_fail [.ref (b + a0), .int x1, .int x2] h none out 0 0 := by
  refine met_of (by decide) (Nat.le_of_ble_eq_true rfl) ?_
  intro p e s m below meth c ls X hnm S hl
  have hl : lv_has ls 3 [(0, .ref (b + a0)), (1, .int x1), (2, .int x2)] := hl
  replace hf := (ck_spec hf).2
  exact w_X7_fail_e X (z_v X) _ _ _ _ hf _ _ _ S hl
/-! RoomRings$Text.expect(I)V -/
abbrev RM_X7_expect : Room := { frames := 1, cells := 0, slots := 0, locals := 22 }
def f_X7_expect_b30   (h : HP) : Option (HP) :=
  some h
set_option maxRecDepth 100000 in
set_option maxHeartbeats 4000000 in
theorem w_X7_expect_b30 (X : CX RX7 cX7_expect 2 none p s m args meth c G b) {out : HP} (Z : ZV p l e RM_X7_expect s m args below meth c cX7_expect G b False 0 0 Q out)  : ∀  (h : HP), f_X7_expect_b30   h = some out → ∀ (H : Heap) (locs : List Loc) (ls : Array Slot), ST G b False s h H locs → lv_has ls 2 [] → W p l e RM_X7_expect s m args below meth c H locs 0 0 Q (F0 m 30 ls []) := by
  intro  h hf H locs ls S hl
  unfold f_X7_expect_b30 at hf
  have hx := X.1
  have hb := X.2.1
  obtain rfl := Option.some.inj hf
  exact Z _ _ _ _ dX7_expect_30 S
def f_X7_expect_e  (a0 : Nat) (x1 : Int32) (h : HP) : Option (HP) :=
  (f_X7_peek a0 h).bind fun q1 =>
  if q1.1 = x1 then
    (gI q1.2 a0 7 3).bind fun v2 =>
    (pI q1.2 a0 7 3 (v2 + 1)).bind fun h3 =>
    f_X7_expect_b30   h3
  else
    (gI q1.2 a0 7 3).bind fun v4 =>
    (f_X7_fail a0 1 v4 q1.2).bind fun h5 =>
    f_X7_expect_b30   h5
set_option maxRecDepth 100000 in
set_option maxHeartbeats 4000000 in
theorem w_X7_expect_e (X : CX RX7 cX7_expect 2 none p s m args meth c G b) {out : HP} (Z : ZV p l e RM_X7_expect s m args below meth c cX7_expect G b False 0 0 Q out)  : ∀ (a0 : Nat) (x1 : Int32) (h : HP), f_X7_expect_e  a0 x1 h = some out → ∀ (H : Heap) (locs : List Loc) (ls : Array Slot), ST G b False s h H locs → lv_has ls 2 [(0, .ref (b + a0)), (1, .int x1)] → W p l e RM_X7_expect s m args below meth c H locs 0 0 Q (F0 m 0 ls []) := by
  intro a0 x1 h hf H locs ls S hl
  unfold f_X7_expect_e at hf
  have hx := X.1
  have hb := X.2.1
  refine lv_aload_n hx hb dX7_expect_0 rfl (lv_at hl 0 rfl) ?_
  obtain ⟨q1, e_q1, hf⟩ := ob hf
  refine r_callV X S hl.1 (As := []) (rest := []) (c_X7_peek e_q1) my_X7_peek mv_X7_peek ml_X7_38 rfl (o_X7_peek e_q1) ⟨rfl, rfl, Nat.le_of_ble_eq_true rfl, Nat.le_of_ble_eq_true rfl⟩ rfl rfl (Nat.le_of_ble_eq_true rfl) dX7_expect_1 ⟨Nat.le_of_ble_eq_true rfl, Nat.le_of_ble_eq_true rfl⟩ (fun H locs S => ?_)
  refine W.eq (g2 := F0 m 4 ls [.int q1.1]) rfl ?_
  refine lv_iload_n hx hb dX7_expect_4 rfl (lv_at hl 1 rfl) ?_
  refine lv_icmp_ne (tgt := 21) hx hb dX7_expect_5 (by decide) (fun hc => ?_) (fun hc => ?_)
  · replace hf := im hf hc
    refine lv_aload_n hx hb dX7_expect_21 rfl (lv_at hl 0 rfl) ?_
    refine lv_iconst (v := 1) hx hb dX7_expect_22 (by decide) ?_
    refine lv_aload_n hx hb dX7_expect_23 rfl (lv_at hl 0 rfl) ?_
    obtain ⟨v4, e_v4, hf⟩ := ob hf
    refine r_getI X S fl_X7_32 e_v4 dX7_expect_24 ?_
    obtain ⟨h5, e_h5, hf⟩ := ob hf
    refine r_callV X S hl.1 (As := [.int 1, .int v4]) (rest := []) (c_X7_fail e_h5) my_X7_fail mv_X7_fail ml_X7_49 rfl (o_X7_fail e_h5) ⟨rfl, rfl, Nat.le_of_ble_eq_true rfl, Nat.le_of_ble_eq_true rfl⟩ rfl rfl (Nat.le_of_ble_eq_true rfl) dX7_expect_27 ⟨Nat.le_of_ble_eq_true rfl, Nat.le_of_ble_eq_true rfl⟩ (fun H locs S => ?_)
    refine W.eq (g2 := F0 m 30 ls []) rfl ?_
    exact w_X7_expect_b30 X Z  _ hf _ _ _ S (lv_sub hl [] rfl)
  · replace hf := ip hf hc
    refine lv_aload_n hx hb dX7_expect_8 rfl (lv_at hl 0 rfl) ?_
    refine lv_dup hx hb dX7_expect_9 rfl ?_
    obtain ⟨v2, e_v2, hf⟩ := ob hf
    refine r_getI X S fl_X7_32 e_v2 dX7_expect_10 ?_
    refine lv_iconst (v := 1) hx hb dX7_expect_13 (by decide) ?_
    refine lv_iadd hx hb dX7_expect_14 ?_
    obtain ⟨h3, e_h3, hf⟩ := ob hf
    refine r_put X S fp_X7_32 (fun h9 => by cases h9) rfl rfl rfl e_h3 dX7_expect_15 (fun H locs S => ?_)
    refine lv_goto (tgt := 30) hx hb dX7_expect_18 (by decide) ?_
    exact w_X7_expect_b30 X Z  _ hf _ _ _ S (lv_sub hl [] rfl)
def f_X7_expect (a0 : Nat) (x1 : Int32) (h : HP) : Option (HP) := ck h a0 7 (f_X7_expect_e a0 x1 h)
theorem o_X7_expect {a0 : Nat} {x1 : Int32} {h : HP} {out : HP} (hf : f_X7_expect a0 x1 h = some out) : ∃ fs, h[a0]? = some (.inl (7, fs)) := (ck_spec hf).1
set_option maxRecDepth 100000 in
theorem c_X7_expect {l : Launch} {G : GT} {b : Nat} {a0 : Nat} {x1 : Int32} {h : HP} {out : HP} (hf : f_X7_expect a0 x1 h = some out) : MT l G b False False yX7_expect cX7_expect 2 none RM_X7_expect [.ref (b + a0), .int x1] h none out 0 0 := by
  refine met_of (by decide) (Nat.le_of_ble_eq_true rfl) ?_
  intro p e s m below meth c ls X hnm S hl
  have hl : lv_has ls 2 [(0, .ref (b + a0)), (1, .int x1)] := hl
  replace hf := (ck_spec hf).2
  exact w_X7_expect_e X (z_v X) _ _ _ hf _ _ _ S hl
/-! RoomRings$Text.isFigure(I)Z -/
abbrev RM_X7_isFigure : Room := { frames := 0, cells := 0, slots := 0, locals := 0 }
def f_X7_isFigure_b17  (s0 : Int32) (h : HP) : Option (Int32 × HP) :=
  if s0 = 0 ∨ s0 = 1 then some (s0, h) else none
set_option maxRecDepth 100000 in
set_option maxHeartbeats 4000000 in
theorem w_X7_isFigure_b17 (X : CX RX7 cX7_isFigure 1 (some .boolean) p s m args meth c G b) {out : Int32 × HP} (Z : ZZ p l e RM_X7_isFigure s m args below meth c cX7_isFigure G b False 0 0 Q out)  : ∀ (s0 : Int32) (h : HP), f_X7_isFigure_b17  s0 h = some out → ∀ (H : Heap) (locs : List Loc) (ls : Array Slot), ST G b False s h H locs → lv_has ls 1 [] → W p l e RM_X7_isFigure s m args below meth c H locs 0 0 Q (F0 m 17 ls [.int s0]) := by
  intro s0 h hf H locs ls S hl
  unfold f_X7_isFigure_b17 at hf
  have hx := X.1
  have hb := X.2.1
  obtain ⟨hz, hf⟩ := ig hf
  obtain rfl := Option.some.inj hf
  exact Z _ _ _ _ dX7_isFigure_17 S hz
def f_X7_isFigure_b16   (h : HP) : Option (Int32 × HP) :=
  f_X7_isFigure_b17  0 h
set_option maxRecDepth 100000 in
set_option maxHeartbeats 4000000 in
theorem w_X7_isFigure_b16 (X : CX RX7 cX7_isFigure 1 (some .boolean) p s m args meth c G b) {out : Int32 × HP} (Z : ZZ p l e RM_X7_isFigure s m args below meth c cX7_isFigure G b False 0 0 Q out)  : ∀  (h : HP), f_X7_isFigure_b16   h = some out → ∀ (H : Heap) (locs : List Loc) (ls : Array Slot), ST G b False s h H locs → lv_has ls 1 [] → W p l e RM_X7_isFigure s m args below meth c H locs 0 0 Q (F0 m 16 ls []) := by
  intro  h hf H locs ls S hl
  unfold f_X7_isFigure_b16 at hf
  have hx := X.1
  have hb := X.2.1
  refine lv_iconst (v := 0) hx hb dX7_isFigure_16 (by decide) ?_
  exact w_X7_isFigure_b17 X Z  _ _ hf _ _ _ S (lv_sub hl [] rfl)
def f_X7_isFigure_e  (x0 : Int32) (h : HP) : Option (Int32 × HP) :=
  if x0 < 48 then
    f_X7_isFigure_b16   h
  else
    if 57 < x0 then
      f_X7_isFigure_b16   h
    else
      f_X7_isFigure_b17  1 h
set_option maxRecDepth 100000 in
set_option maxHeartbeats 4000000 in
theorem w_X7_isFigure_e (X : CX RX7 cX7_isFigure 1 (some .boolean) p s m args meth c G b) {out : Int32 × HP} (Z : ZZ p l e RM_X7_isFigure s m args below meth c cX7_isFigure G b False 0 0 Q out)  : ∀ (x0 : Int32) (h : HP), f_X7_isFigure_e  x0 h = some out → ∀ (H : Heap) (locs : List Loc) (ls : Array Slot), ST G b False s h H locs → lv_has ls 1 [(0, .int x0)] → W p l e RM_X7_isFigure s m args below meth c H locs 0 0 Q (F0 m 0 ls []) := by
  intro x0 h hf H locs ls S hl
  unfold f_X7_isFigure_e at hf
  have hx := X.1
  have hb := X.2.1
  refine lv_iload_n hx hb dX7_isFigure_0 rfl (lv_at hl 0 rfl) ?_
  refine lv_bipush (v := 48) hx hb dX7_isFigure_1 (by decide) ?_
  refine lv_icmp_lt (tgt := 16) hx hb dX7_isFigure_3 (by decide) (fun hc => ?_) (fun hc => ?_)
  · replace hf := ip hf hc
    exact w_X7_isFigure_b16 X Z  _ hf _ _ _ S (lv_sub hl [] rfl)
  · replace hf := im hf hc
    refine lv_iload_n hx hb dX7_isFigure_6 rfl (lv_at hl 0 rfl) ?_
    refine lv_bipush (v := 57) hx hb dX7_isFigure_7 (by decide) ?_
    refine lv_icmp_gt (tgt := 16) hx hb dX7_isFigure_9 (by decide) (fun hc => ?_) (fun hc => ?_)
    · replace hf := ip hf hc
      exact w_X7_isFigure_b16 X Z  _ hf _ _ _ S (lv_sub hl [] rfl)
    · replace hf := im hf hc
      refine lv_iconst (v := 1) hx hb dX7_isFigure_12 (by decide) ?_
      refine lv_goto (tgt := 17) hx hb dX7_isFigure_13 (by decide) ?_
      exact w_X7_isFigure_b17 X Z  _ _ hf _ _ _ S (lv_sub hl [] rfl)
def f_X7_isFigure (x0 : Int32) (h : HP) : Option (Int32 × HP) := f_X7_isFigure_e x0 h
set_option maxRecDepth 100000 in
theorem c_X7_isFigure {l : Launch} {G : GT} {b : Nat} {x0 : Int32} {h : HP} {out : Int32 × HP} (hf : f_X7_isFigure x0 h = some out) : MT l G b False False yX7_isFigure cX7_isFigure 1 (some .boolean) RM_X7_isFigure [.int x0] h (some (.int out.1)) out.2 0 0 := by
  refine met_of (by decide) (Nat.le_of_ble_eq_true rfl) ?_
  intro p e s m below meth c ls X hnm S hl
  have hl : lv_has ls 1 [(0, .int x0)] := hl
  exact w_X7_isFigure_e X (z_zz X) _ _ hf _ _ _ S hl
/-! RoomRings$Text.readNumber()I -/
abbrev RM_X7_readNumber : Room := { frames := 1, cells := 0, slots := 0, locals := 22 }
def f_X7_readNumber_b73 (K17 : Nat → Int32 → Int32 → HP → Option (Int32 × HP)) (a0 : Nat) (x1 : Int32) (x2 : Int32) (h : HP) : Option (Int32 × HP) :=
  (gI h a0 7 3).bind fun v1 =>
  (pI h a0 7 3 (v1 + 1)).bind fun h2 =>
  K17 a0 x1 x2 h2
set_option maxRecDepth 100000 in
set_option maxHeartbeats 4000000 in
theorem w_X7_readNumber_b73 (X : CX RX7 cX7_readNumber 3 (some .int) p s m args meth c G b) {out : Int32 × HP} (Z : ZI p l e RM_X7_readNumber s m args below meth c cX7_readNumber G b False 0 0 Q out) {K17 : Nat → Int32 → Int32 → HP → Option (Int32 × HP)} (hK17 : ∀ (a0 : Nat) (x1 : Int32) (x2 : Int32) (h : HP), K17 a0 x1 x2 h = some out → ∀ (H : Heap) (locs : List Loc) (ls : Array Slot), ST G b False s h H locs → lv_has ls 3 [(0, .ref (b + a0)), (1, .int x1), (2, .int x2)] → W p l e RM_X7_readNumber s m args below meth c H locs 0 0 Q (F0 m 17 ls [])) : ∀ (a0 : Nat) (x1 : Int32) (x2 : Int32) (h : HP), f_X7_readNumber_b73 K17 a0 x1 x2 h = some out → ∀ (H : Heap) (locs : List Loc) (ls : Array Slot), ST G b False s h H locs → lv_has ls 3 [(0, .ref (b + a0)), (1, .int x1), (2, .int x2)] → W p l e RM_X7_readNumber s m args below meth c H locs 0 0 Q (F0 m 73 ls []) := by
  intro a0 x1 x2 h hf H locs ls S hl
  unfold f_X7_readNumber_b73 at hf
  have hx := X.1
  have hb := X.2.1
  refine lv_aload_n hx hb dX7_readNumber_73 rfl (lv_at hl 0 rfl) ?_
  refine lv_dup hx hb dX7_readNumber_74 rfl ?_
  obtain ⟨v1, e_v1, hf⟩ := ob hf
  refine r_getI X S fl_X7_32 e_v1 dX7_readNumber_75 ?_
  refine lv_iconst (v := 1) hx hb dX7_readNumber_78 (by decide) ?_
  refine lv_iadd hx hb dX7_readNumber_79 ?_
  obtain ⟨h2, e_h2, hf⟩ := ob hf
  refine r_put X S fp_X7_32 (fun h9 => by cases h9) rfl rfl rfl e_h2 dX7_readNumber_80 (fun H locs S => ?_)
  refine lv_goto (tgt := 17) hx hb dX7_readNumber_83 (by decide) ?_
  exact hK17 _ _ _ _ hf _ _ _ S (lv_sub hl [0, 1, 2] rfl)
def f_X7_readNumber_b116  (x1 : Int32) (h : HP) : Option (Int32 × HP) :=
  some (x1, h)
set_option maxRecDepth 100000 in
set_option maxHeartbeats 4000000 in
theorem w_X7_readNumber_b116 (X : CX RX7 cX7_readNumber 3 (some .int) p s m args meth c G b) {out : Int32 × HP} (Z : ZI p l e RM_X7_readNumber s m args below meth c cX7_readNumber G b False 0 0 Q out)  : ∀ (x1 : Int32) (h : HP), f_X7_readNumber_b116  x1 h = some out → ∀ (H : Heap) (locs : List Loc) (ls : Array Slot), ST G b False s h H locs → lv_has ls 3 [(1, .int x1)] → W p l e RM_X7_readNumber s m args below meth c H locs 0 0 Q (F0 m 116 ls []) := by
  intro x1 h hf H locs ls S hl
  unfold f_X7_readNumber_b116 at hf
  have hx := X.1
  have hb := X.2.1
  refine lv_iload_n hx hb dX7_readNumber_116 rfl (lv_at hl 0 rfl) ?_
  obtain rfl := Option.some.inj hf
  exact Z _ _ _ _ dX7_readNumber_117 S
def f_X7_readNumber_b86  (a0 : Nat) (x1 : Int32) (x2 : Int32) (h : HP) : Option (Int32 × HP) :=
  if x2 = 0 then
    (gI h a0 7 4).bind fun v1 =>
    (f_X7_fail a0 1 v1 h).bind fun h2 =>
    f_X7_readNumber_b116  x1 h2
  else
    if x2 ≤ 3 then
      f_X7_readNumber_b116  x1 h
    else
      (gI h a0 7 4).bind fun v3 =>
      (f_X7_fail a0 2 v3 h).bind fun h4 =>
      f_X7_readNumber_b116  x1 h4
set_option maxRecDepth 100000 in
set_option maxHeartbeats 4000000 in
theorem w_X7_readNumber_b86 (X : CX RX7 cX7_readNumber 3 (some .int) p s m args meth c G b) {out : Int32 × HP} (Z : ZI p l e RM_X7_readNumber s m args below meth c cX7_readNumber G b False 0 0 Q out)  : ∀ (a0 : Nat) (x1 : Int32) (x2 : Int32) (h : HP), f_X7_readNumber_b86  a0 x1 x2 h = some out → ∀ (H : Heap) (locs : List Loc) (ls : Array Slot), ST G b False s h H locs → lv_has ls 3 [(0, .ref (b + a0)), (1, .int x1), (2, .int x2)] → W p l e RM_X7_readNumber s m args below meth c H locs 0 0 Q (F0 m 86 ls []) := by
  intro a0 x1 x2 h hf H locs ls S hl
  unfold f_X7_readNumber_b86 at hf
  have hx := X.1
  have hb := X.2.1
  refine lv_iload_n hx hb dX7_readNumber_86 rfl (lv_at hl 2 rfl) ?_
  refine lv_if_ne (tgt := 102) hx hb dX7_readNumber_87 (by decide) (fun hc => ?_) (fun hc => ?_)
  · replace hf := im hf hc
    refine lv_iload_n hx hb dX7_readNumber_102 rfl (lv_at hl 2 rfl) ?_
    refine lv_iconst (v := 3) hx hb dX7_readNumber_103 (by decide) ?_
    refine lv_icmp_le (tgt := 116) hx hb dX7_readNumber_104 (by decide) (fun hc => ?_) (fun hc => ?_)
    · replace hf := ip hf hc
      exact w_X7_readNumber_b116 X Z  _ _ hf _ _ _ S (lv_sub hl [1] rfl)
    · replace hf := im hf hc
      refine lv_aload_n hx hb dX7_readNumber_107 rfl (lv_at hl 0 rfl) ?_
      refine lv_iconst (v := 2) hx hb dX7_readNumber_108 (by decide) ?_
      refine lv_aload_n hx hb dX7_readNumber_109 rfl (lv_at hl 0 rfl) ?_
      obtain ⟨v3, e_v3, hf⟩ := ob hf
      refine r_getI X S fl_X7_60 e_v3 dX7_readNumber_110 ?_
      obtain ⟨h4, e_h4, hf⟩ := ob hf
      refine r_callV X S hl.1 (As := [.int 2, .int v3]) (rest := []) (c_X7_fail e_h4) my_X7_fail mv_X7_fail ml_X7_49 rfl (o_X7_fail e_h4) ⟨rfl, rfl, Nat.le_of_ble_eq_true rfl, Nat.le_of_ble_eq_true rfl⟩ rfl rfl (Nat.le_of_ble_eq_true rfl) dX7_readNumber_113 ⟨Nat.le_of_ble_eq_true rfl, Nat.le_of_ble_eq_true rfl⟩ (fun H locs S => ?_)
      refine W.eq (g2 := F0 m 116 ls []) rfl ?_
      exact w_X7_readNumber_b116 X Z  _ _ hf _ _ _ S (lv_sub hl [1] rfl)
  · replace hf := ip hf hc
    refine lv_aload_n hx hb dX7_readNumber_90 rfl (lv_at hl 0 rfl) ?_
    refine lv_iconst (v := 1) hx hb dX7_readNumber_91 (by decide) ?_
    refine lv_aload_n hx hb dX7_readNumber_92 rfl (lv_at hl 0 rfl) ?_
    obtain ⟨v1, e_v1, hf⟩ := ob hf
    refine r_getI X S fl_X7_60 e_v1 dX7_readNumber_93 ?_
    obtain ⟨h2, e_h2, hf⟩ := ob hf
    refine r_callV X S hl.1 (As := [.int 1, .int v1]) (rest := []) (c_X7_fail e_h2) my_X7_fail mv_X7_fail ml_X7_49 rfl (o_X7_fail e_h2) ⟨rfl, rfl, Nat.le_of_ble_eq_true rfl, Nat.le_of_ble_eq_true rfl⟩ rfl rfl (Nat.le_of_ble_eq_true rfl) dX7_readNumber_96 ⟨Nat.le_of_ble_eq_true rfl, Nat.le_of_ble_eq_true rfl⟩ (fun H locs S => ?_)
    refine W.eq (g2 := F0 m 99 ls []) rfl ?_
    refine lv_goto (tgt := 116) hx hb dX7_readNumber_99 (by decide) ?_
    exact w_X7_readNumber_b116 X Z  _ _ hf _ _ _ S (lv_sub hl [1] rfl)
def f_X7_readNumber_b17 (K17 : Nat → Int32 → Int32 → HP → Option (Int32 × HP)) (a0 : Nat) (x1 : Int32) (x2 : Int32) (h : HP) : Option (Int32 × HP) :=
  (gI h a0 7 3).bind fun v1 =>
  (gI h a0 7 0).bind fun v2 =>
  if v2 ≤ v1 then
    f_X7_readNumber_b86  a0 x1 x2 h
  else
    (gR h a0 7 5).bind fun r3 =>
    (gI h a0 7 3).bind fun v4 =>
    (f_X8_at r3 v4 h).bind fun q5 =>
    (f_X7_isFigure q5.1 q5.2).bind fun q6 =>
    if q6.1 = 0 then
      f_X7_readNumber_b86  a0 x1 x2 q6.2
    else
      if 3 < (x2 + 1) then
        f_X7_readNumber_b73 K17 a0 x1 (x2 + 1) q6.2
      else
        (gR q6.2 a0 7 5).bind fun r7 =>
        (gI q6.2 a0 7 3).bind fun v8 =>
        (f_X8_at r7 v8 q6.2).bind fun q9 =>
        f_X7_readNumber_b73 K17 a0 (((x1 * 10) + q9.1) - 48) (x2 + 1) q9.2
set_option maxRecDepth 100000 in
set_option maxHeartbeats 4000000 in
theorem w_X7_readNumber_b17 (X : CX RX7 cX7_readNumber 3 (some .int) p s m args meth c G b) {out : Int32 × HP} (Z : ZI p l e RM_X7_readNumber s m args below meth c cX7_readNumber G b False 0 0 Q out) {K17 : Nat → Int32 → Int32 → HP → Option (Int32 × HP)} (hK17 : ∀ (a0 : Nat) (x1 : Int32) (x2 : Int32) (h : HP), K17 a0 x1 x2 h = some out → ∀ (H : Heap) (locs : List Loc) (ls : Array Slot), ST G b False s h H locs → lv_has ls 3 [(0, .ref (b + a0)), (1, .int x1), (2, .int x2)] → W p l e RM_X7_readNumber s m args below meth c H locs 0 0 Q (F0 m 17 ls [])) : ∀ (a0 : Nat) (x1 : Int32) (x2 : Int32) (h : HP), f_X7_readNumber_b17 K17 a0 x1 x2 h = some out → ∀ (H : Heap) (locs : List Loc) (ls : Array Slot), ST G b False s h H locs → lv_has ls 3 [(0, .ref (b + a0)), (1, .int x1), (2, .int x2)] → W p l e RM_X7_readNumber s m args below meth c H locs 0 0 Q (F0 m 17 ls []) := by
  intro a0 x1 x2 h hf H locs ls S hl
  unfold f_X7_readNumber_b17 at hf
  have hx := X.1
  have hb := X.2.1
  refine lv_aload_n hx hb dX7_readNumber_17 rfl (lv_at hl 0 rfl) ?_
  obtain ⟨v1, e_v1, hf⟩ := ob hf
  refine r_getI X S fl_X7_32 e_v1 dX7_readNumber_18 ?_
  refine lv_aload_n hx hb dX7_readNumber_21 rfl (lv_at hl 0 rfl) ?_
  obtain ⟨v2, e_v2, hf⟩ := ob hf
  refine r_getI X S fl_X7_19 e_v2 dX7_readNumber_22 ?_
  refine lv_icmp_ge (tgt := 86) hx hb dX7_readNumber_25 (by decide) (fun hc => ?_) (fun hc => ?_)
  · replace hf := ip hf hc
    exact w_X7_readNumber_b86 X Z  _ _ _ _ hf _ _ _ S (lv_sub hl [0, 1, 2] rfl)
  · replace hf := im hf hc
    refine lv_aload_n hx hb dX7_readNumber_28 rfl (lv_at hl 0 rfl) ?_
    obtain ⟨r3, e_r3, hf⟩ := ob hf
    refine r_getR X S fl_X7_15 e_r3 dX7_readNumber_29 ?_
    refine lv_aload_n hx hb dX7_readNumber_32 rfl (lv_at hl 0 rfl) ?_
    obtain ⟨v4, e_v4, hf⟩ := ob hf
    refine r_getI X S fl_X7_32 e_v4 dX7_readNumber_33 ?_
    obtain ⟨q5, e_q5, hf⟩ := ob hf
    refine r_callSN X S hl.1 (As := [.ref (b + r3), .int v4]) (rest := []) (c_X8_at e_q5) my_X8_at ms_X8_at nl_X7_104 ⟨rfl, rfl, Nat.le_of_ble_eq_true rfl, Nat.le_of_ble_eq_true rfl⟩ rfl rfl (Nat.le_of_ble_eq_true rfl) dX7_readNumber_36 ⟨Nat.le_of_ble_eq_true rfl, Nat.le_of_ble_eq_true rfl⟩ (fun H locs S => ?_)
    refine W.eq (g2 := F0 m 39 ls [.int q5.1]) rfl ?_
    obtain ⟨q6, e_q6, hf⟩ := ob hf
    refine r_callS X S hl.1 (As := [.int q5.1]) (rest := []) (c_X7_isFigure e_q6) my_X7_isFigure ms_X7_isFigure ml_X7_108 ⟨rfl, rfl, Nat.le_of_ble_eq_true rfl, Nat.le_of_ble_eq_true rfl⟩ rfl rfl (Nat.le_of_ble_eq_true rfl) dX7_readNumber_39 ⟨Nat.le_of_ble_eq_true rfl, Nat.le_of_ble_eq_true rfl⟩ (fun H locs S => ?_)
    refine W.eq (g2 := F0 m 42 ls [.int q6.1]) rfl ?_
    refine lv_if_eq (tgt := 86) hx hb dX7_readNumber_42 (by decide) (fun hc => ?_) (fun hc => ?_)
    · replace hf := ip hf hc
      exact w_X7_readNumber_b86 X Z  _ _ _ _ hf _ _ _ S (lv_sub hl [0, 1, 2] rfl)
    · replace hf := im hf hc
      refine lv_iinc (v := x2 + 1) (lv' := [(2, .int (x2 + 1)), (0, .ref (b + a0)), (1, .int x1)]) hx hb dX7_readNumber_45 hl (k := 2) rfl rfl (by decide) rfl (fun ls hl => ?_)
      refine lv_iload_n hx hb dX7_readNumber_48 rfl (lv_at hl 0 rfl) ?_
      refine lv_iconst (v := 3) hx hb dX7_readNumber_49 (by decide) ?_
      refine lv_icmp_gt (tgt := 73) hx hb dX7_readNumber_50 (by decide) (fun hc => ?_) (fun hc => ?_)
      · replace hf := ip hf hc
        exact w_X7_readNumber_b73 X Z hK17 _ _ _ _ hf _ _ _ S (lv_sub hl [1, 2, 0] rfl)
      · replace hf := im hf hc
        refine lv_iload_n hx hb dX7_readNumber_53 rfl (lv_at hl 2 rfl) ?_
        refine lv_bipush (v := 10) hx hb dX7_readNumber_54 (by decide) ?_
        refine lv_imul hx hb dX7_readNumber_56 ?_
        refine lv_aload_n hx hb dX7_readNumber_57 rfl (lv_at hl 1 rfl) ?_
        obtain ⟨r7, e_r7, hf⟩ := ob hf
        refine r_getR X S fl_X7_15 e_r7 dX7_readNumber_58 ?_
        refine lv_aload_n hx hb dX7_readNumber_61 rfl (lv_at hl 1 rfl) ?_
        obtain ⟨v8, e_v8, hf⟩ := ob hf
        refine r_getI X S fl_X7_32 e_v8 dX7_readNumber_62 ?_
        obtain ⟨q9, e_q9, hf⟩ := ob hf
        refine r_callSN X S hl.1 (As := [.ref (b + r7), .int v8]) (rest := [.int (x1 * 10)]) (c_X8_at e_q9) my_X8_at ms_X8_at nl_X7_104 ⟨rfl, rfl, Nat.le_of_ble_eq_true rfl, Nat.le_of_ble_eq_true rfl⟩ rfl rfl (Nat.le_of_ble_eq_true rfl) dX7_readNumber_65 ⟨Nat.le_of_ble_eq_true rfl, Nat.le_of_ble_eq_true rfl⟩ (fun H locs S => ?_)
        refine W.eq (g2 := F0 m 68 ls [.int q9.1, .int (x1 * 10)]) rfl ?_
        refine lv_iadd hx hb dX7_readNumber_68 ?_
        refine lv_bipush (v := 48) hx hb dX7_readNumber_69 (by decide) ?_
        refine lv_isub hx hb dX7_readNumber_71 ?_
        refine lv_istore_n (lv' := [(1, .int (((x1 * 10) + q9.1) - 48)), (2, .int (x2 + 1)), (0, .ref (b + a0))]) hx hb dX7_readNumber_72 rfl hl (by decide) rfl (fun ls hl => ?_)
        exact w_X7_readNumber_b73 X Z hK17 _ _ _ _ hf _ _ _ S (lv_sub hl [2, 0, 1] rfl)
def F_X7_readNumber_17  : Nat → Nat → Int32 → Int32 → HP → Option (Int32 × HP)
  | 0 => fun _ _ _ _ => none
  | n + 1 => fun a0 x1 x2 h => f_X7_readNumber_b17 (F_X7_readNumber_17  n) a0 x1 x2 h
theorem wl_X7_readNumber_17 (X : CX RX7 cX7_readNumber 3 (some .int) p s m args meth c G b) {out : Int32 × HP} (Z : ZI p l e RM_X7_readNumber s m args below meth c cX7_readNumber G b False 0 0 Q out)  : ∀ (n : Nat) (a0 : Nat) (x1 : Int32) (x2 : Int32) (h : HP), F_X7_readNumber_17  n a0 x1 x2 h = some out → ∀ (H : Heap) (locs : List Loc) (ls : Array Slot), ST G b False s h H locs → lv_has ls 3 [(0, .ref (b + a0)), (1, .int x1), (2, .int x2)] → W p l e RM_X7_readNumber s m args below meth c H locs 0 0 Q (F0 m 17 ls []) := by
  intro n
  induction n with
  | zero => intro a0 x1 x2 h hf; exact nn hf
  | succ n ih => exact w_X7_readNumber_b17 X Z ih
def f_X7_readNumber_e  (a0 : Nat) (h : HP) : Option (Int32 × HP) :=
  (f_X7_peek a0 h).bind fun q1 =>
  (gI q1.2 a0 7 3).bind fun v2 =>
  (pI q1.2 a0 7 4 v2).bind fun h3 =>
  F_X7_readNumber_17  FU a0 0 0 h3
set_option maxRecDepth 100000 in
set_option maxHeartbeats 4000000 in
theorem w_X7_readNumber_e (X : CX RX7 cX7_readNumber 3 (some .int) p s m args meth c G b) {out : Int32 × HP} (Z : ZI p l e RM_X7_readNumber s m args below meth c cX7_readNumber G b False 0 0 Q out)  : ∀ (a0 : Nat) (h : HP), f_X7_readNumber_e  a0 h = some out → ∀ (H : Heap) (locs : List Loc) (ls : Array Slot), ST G b False s h H locs → lv_has ls 3 [(0, .ref (b + a0))] → W p l e RM_X7_readNumber s m args below meth c H locs 0 0 Q (F0 m 0 ls []) := by
  intro a0 h hf H locs ls S hl
  unfold f_X7_readNumber_e at hf
  have hx := X.1
  have hb := X.2.1
  refine lv_aload_n hx hb dX7_readNumber_0 rfl (lv_at hl 0 rfl) ?_
  obtain ⟨q1, e_q1, hf⟩ := ob hf
  refine r_callV X S hl.1 (As := []) (rest := []) (c_X7_peek e_q1) my_X7_peek mv_X7_peek ml_X7_38 rfl (o_X7_peek e_q1) ⟨rfl, rfl, Nat.le_of_ble_eq_true rfl, Nat.le_of_ble_eq_true rfl⟩ rfl rfl (Nat.le_of_ble_eq_true rfl) dX7_readNumber_1 ⟨Nat.le_of_ble_eq_true rfl, Nat.le_of_ble_eq_true rfl⟩ (fun H locs S => ?_)
  refine W.eq (g2 := F0 m 4 ls [.int q1.1]) rfl ?_
  refine lv_pop hx hb dX7_readNumber_4 rfl ?_
  refine lv_aload_n hx hb dX7_readNumber_5 rfl (lv_at hl 0 rfl) ?_
  refine lv_aload_n hx hb dX7_readNumber_6 rfl (lv_at hl 0 rfl) ?_
  obtain ⟨v2, e_v2, hf⟩ := ob hf
  refine r_getI X S fl_X7_32 e_v2 dX7_readNumber_7 ?_
  obtain ⟨h3, e_h3, hf⟩ := ob hf
  refine r_put X S fp_X7_60 (fun h9 => by cases h9) rfl rfl rfl e_h3 dX7_readNumber_10 (fun H locs S => ?_)
  refine lv_iconst (v := 0) hx hb dX7_readNumber_13 (by decide) ?_
  refine lv_istore_n (lv' := [(1, .int 0), (0, .ref (b + a0))]) hx hb dX7_readNumber_14 rfl hl (by decide) rfl (fun ls hl => ?_)
  refine lv_iconst (v := 0) hx hb dX7_readNumber_15 (by decide) ?_
  refine lv_istore_n (lv' := [(2, .int 0), (1, .int 0), (0, .ref (b + a0))]) hx hb dX7_readNumber_16 rfl hl (by decide) rfl (fun ls hl => ?_)
  exact wl_X7_readNumber_17 X Z  FU _ _ _ _ hf _ _ _ S (lv_sub hl [2, 1, 0] rfl)
def f_X7_readNumber (a0 : Nat) (h : HP) : Option (Int32 × HP) := ck h a0 7 (f_X7_readNumber_e a0 h)
theorem o_X7_readNumber {a0 : Nat} {h : HP} {out : Int32 × HP} (hf : f_X7_readNumber a0 h = some out) : ∃ fs, h[a0]? = some (.inl (7, fs)) := (ck_spec hf).1
set_option maxRecDepth 100000 in
theorem c_X7_readNumber {l : Launch} {G : GT} {b : Nat} {a0 : Nat} {h : HP} {out : Int32 × HP} (hf : f_X7_readNumber a0 h = some out) : MT l G b False False yX7_readNumber cX7_readNumber 3 (some .int) RM_X7_readNumber [.ref (b + a0)] h (some (.int out.1)) out.2 0 0 := by
  refine met_of (by decide) (Nat.le_of_ble_eq_true rfl) ?_
  intro p e s m below meth c ls X hnm S hl
  have hl : lv_has ls 3 [(0, .ref (b + a0))] := hl
  replace hf := (ck_spec hf).2
  exact w_X7_readNumber_e X (z_i X) _ _ hf _ _ _ S hl
/-! RoomRings$Text.readRooms(LRoomRings$House;)V -/
abbrev RM_X7_readRooms : Room := { frames := 2, cells := 0, slots := 0, locals := 44 }
def f_X7_readRooms_b57   (h : HP) : Option (HP) :=
  some h
set_option maxRecDepth 100000 in
set_option maxHeartbeats 4000000 in
theorem w_X7_readRooms_b57 (X : CX RX7 cX7_readRooms 3 none p s m args meth c G b) {out : HP} (Z : ZV p l e RM_X7_readRooms s m args below meth c cX7_readRooms G b False 0 0 Q out)  : ∀  (h : HP), f_X7_readRooms_b57   h = some out → ∀ (H : Heap) (locs : List Loc) (ls : Array Slot), ST G b False s h H locs → lv_has ls 3 [] → W p l e RM_X7_readRooms s m args below meth c H locs 0 0 Q (F0 m 57 ls []) := by
  intro  h hf H locs ls S hl
  unfold f_X7_readRooms_b57 at hf
  have hx := X.1
  have hb := X.2.1
  obtain rfl := Option.some.inj hf
  exact Z _ _ _ _ dX7_readRooms_57 S
def f_X7_readRooms_b39  (a0 : Nat) (a1 : Nat) (x2 : Int32) (h : HP) : Option (HP) :=
  (gI h a0 7 2).bind fun v1 =>
  if v1 = 0 then
    (pI h a1 3 0 x2).bind fun h2 =>
    (f_X7_expect a0 59 h2).bind fun h3 =>
    f_X7_readRooms_b57   h3
  else
    f_X7_readRooms_b57   h
set_option maxRecDepth 100000 in
set_option maxHeartbeats 4000000 in
theorem w_X7_readRooms_b39 (X : CX RX7 cX7_readRooms 3 none p s m args meth c G b) {out : HP} (Z : ZV p l e RM_X7_readRooms s m args below meth c cX7_readRooms G b False 0 0 Q out)  : ∀ (a0 : Nat) (a1 : Nat) (x2 : Int32) (h : HP), f_X7_readRooms_b39  a0 a1 x2 h = some out → ∀ (H : Heap) (locs : List Loc) (ls : Array Slot), ST G b False s h H locs → lv_has ls 3 [(0, .ref (b + a0)), (1, .ref (b + a1)), (2, .int x2)] → W p l e RM_X7_readRooms s m args below meth c H locs 0 0 Q (F0 m 39 ls []) := by
  intro a0 a1 x2 h hf H locs ls S hl
  unfold f_X7_readRooms_b39 at hf
  have hx := X.1
  have hb := X.2.1
  refine lv_aload_n hx hb dX7_readRooms_39 rfl (lv_at hl 0 rfl) ?_
  obtain ⟨v1, e_v1, hf⟩ := ob hf
  refine r_getI X S fl_X7_35 e_v1 dX7_readRooms_40 ?_
  refine lv_if_ne (tgt := 57) hx hb dX7_readRooms_43 (by decide) (fun hc => ?_) (fun hc => ?_)
  · replace hf := im hf hc
    exact w_X7_readRooms_b57 X Z  _ hf _ _ _ S (lv_sub hl [] rfl)
  · replace hf := ip hf hc
    refine lv_aload_n hx hb dX7_readRooms_46 rfl (lv_at hl 1 rfl) ?_
    refine lv_iload_n hx hb dX7_readRooms_47 rfl (lv_at hl 2 rfl) ?_
    obtain ⟨h2, e_h2, hf⟩ := ob hf
    refine r_put X S fp_X7_63 (fun h9 => by cases h9) rfl rfl rfl e_h2 dX7_readRooms_48 (fun H locs S => ?_)
    refine lv_aload_n hx hb dX7_readRooms_51 rfl (lv_at hl 0 rfl) ?_
    refine lv_bipush (v := 59) hx hb dX7_readRooms_52 (by decide) ?_
    obtain ⟨h3, e_h3, hf⟩ := ob hf
    refine r_callV X S hl.1 (As := [.int 59]) (rest := []) (c_X7_expect e_h3) my_X7_expect mv_X7_expect ml_X7_53 rfl (o_X7_expect e_h3) ⟨rfl, rfl, Nat.le_of_ble_eq_true rfl, Nat.le_of_ble_eq_true rfl⟩ rfl rfl (Nat.le_of_ble_eq_true rfl) dX7_readRooms_54 ⟨Nat.le_of_ble_eq_true rfl, Nat.le_of_ble_eq_true rfl⟩ (fun H locs S => ?_)
    refine W.eq (g2 := F0 m 57 ls []) rfl ?_
    exact w_X7_readRooms_b57 X Z  _ hf _ _ _ S (lv_sub hl [] rfl)
def f_X7_readRooms_b30  (a0 : Nat) (a1 : Nat) (x2 : Int32) (h : HP) : Option (HP) :=
  (gI h a0 7 4).bind fun v1 =>
  (f_X7_fail a0 2 v1 h).bind fun h2 =>
  f_X7_readRooms_b39  a0 a1 x2 h2
set_option maxRecDepth 100000 in
set_option maxHeartbeats 4000000 in
theorem w_X7_readRooms_b30 (X : CX RX7 cX7_readRooms 3 none p s m args meth c G b) {out : HP} (Z : ZV p l e RM_X7_readRooms s m args below meth c cX7_readRooms G b False 0 0 Q out)  : ∀ (a0 : Nat) (a1 : Nat) (x2 : Int32) (h : HP), f_X7_readRooms_b30  a0 a1 x2 h = some out → ∀ (H : Heap) (locs : List Loc) (ls : Array Slot), ST G b False s h H locs → lv_has ls 3 [(0, .ref (b + a0)), (1, .ref (b + a1)), (2, .int x2)] → W p l e RM_X7_readRooms s m args below meth c H locs 0 0 Q (F0 m 30 ls []) := by
  intro a0 a1 x2 h hf H locs ls S hl
  unfold f_X7_readRooms_b30 at hf
  have hx := X.1
  have hb := X.2.1
  refine lv_aload_n hx hb dX7_readRooms_30 rfl (lv_at hl 0 rfl) ?_
  refine lv_iconst (v := 2) hx hb dX7_readRooms_31 (by decide) ?_
  refine lv_aload_n hx hb dX7_readRooms_32 rfl (lv_at hl 0 rfl) ?_
  obtain ⟨v1, e_v1, hf⟩ := ob hf
  refine r_getI X S fl_X7_60 e_v1 dX7_readRooms_33 ?_
  obtain ⟨h2, e_h2, hf⟩ := ob hf
  refine r_callV X S hl.1 (As := [.int 2, .int v1]) (rest := []) (c_X7_fail e_h2) my_X7_fail mv_X7_fail ml_X7_49 rfl (o_X7_fail e_h2) ⟨rfl, rfl, Nat.le_of_ble_eq_true rfl, Nat.le_of_ble_eq_true rfl⟩ rfl rfl (Nat.le_of_ble_eq_true rfl) dX7_readRooms_36 ⟨Nat.le_of_ble_eq_true rfl, Nat.le_of_ble_eq_true rfl⟩ (fun H locs S => ?_)
  refine W.eq (g2 := F0 m 39 ls []) rfl ?_
  exact w_X7_readRooms_b39 X Z  _ _ _ _ hf _ _ _ S (lv_sub hl [0, 1, 2] rfl)
def f_X7_readRooms_e  (a0 : Nat) (a1 : Nat) (h : HP) : Option (HP) :=
  (f_X7_expect a0 114 h).bind fun h1 =>
  (gI h1 a0 7 2).bind fun v2 =>
  if v2 = 0 then
    (f_X7_readNumber a0 h1).bind fun q3 =>
    if q3.1 < 1 then
      f_X7_readRooms_b30  a0 a1 q3.1 q3.2
    else
      if q3.1 ≤ 8 then
        f_X7_readRooms_b39  a0 a1 q3.1 q3.2
      else
        f_X7_readRooms_b30  a0 a1 q3.1 q3.2
  else
    some h1
set_option maxRecDepth 100000 in
set_option maxHeartbeats 4000000 in
theorem w_X7_readRooms_e (X : CX RX7 cX7_readRooms 3 none p s m args meth c G b) {out : HP} (Z : ZV p l e RM_X7_readRooms s m args below meth c cX7_readRooms G b False 0 0 Q out)  : ∀ (a0 : Nat) (a1 : Nat) (h : HP), f_X7_readRooms_e  a0 a1 h = some out → ∀ (H : Heap) (locs : List Loc) (ls : Array Slot), ST G b False s h H locs → lv_has ls 3 [(0, .ref (b + a0)), (1, .ref (b + a1))] → W p l e RM_X7_readRooms s m args below meth c H locs 0 0 Q (F0 m 0 ls []) := by
  intro a0 a1 h hf H locs ls S hl
  unfold f_X7_readRooms_e at hf
  have hx := X.1
  have hb := X.2.1
  refine lv_aload_n hx hb dX7_readRooms_0 rfl (lv_at hl 0 rfl) ?_
  refine lv_bipush (v := 114) hx hb dX7_readRooms_1 (by decide) ?_
  obtain ⟨h1, e_h1, hf⟩ := ob hf
  refine r_callV X S hl.1 (As := [.int 114]) (rest := []) (c_X7_expect e_h1) my_X7_expect mv_X7_expect ml_X7_53 rfl (o_X7_expect e_h1) ⟨rfl, rfl, Nat.le_of_ble_eq_true rfl, Nat.le_of_ble_eq_true rfl⟩ rfl rfl (Nat.le_of_ble_eq_true rfl) dX7_readRooms_3 ⟨Nat.le_of_ble_eq_true rfl, Nat.le_of_ble_eq_true rfl⟩ (fun H locs S => ?_)
  refine W.eq (g2 := F0 m 6 ls []) rfl ?_
  refine lv_aload_n hx hb dX7_readRooms_6 rfl (lv_at hl 0 rfl) ?_
  obtain ⟨v2, e_v2, hf⟩ := ob hf
  refine r_getI X S fl_X7_35 e_v2 dX7_readRooms_7 ?_
  refine lv_if_eq (tgt := 14) hx hb dX7_readRooms_10 (by decide) (fun hc => ?_) (fun hc => ?_)
  · replace hf := ip hf hc
    refine lv_aload_n hx hb dX7_readRooms_14 rfl (lv_at hl 0 rfl) ?_
    obtain ⟨q3, e_q3, hf⟩ := ob hf
    refine r_callV X S hl.1 (As := []) (rest := []) (c_X7_readNumber e_q3) my_X7_readNumber mv_X7_readNumber ml_X7_57 rfl (o_X7_readNumber e_q3) ⟨rfl, rfl, Nat.le_of_ble_eq_true rfl, Nat.le_of_ble_eq_true rfl⟩ rfl rfl (Nat.le_of_ble_eq_true rfl) dX7_readRooms_15 ⟨Nat.le_of_ble_eq_true rfl, Nat.le_of_ble_eq_true rfl⟩ (fun H locs S => ?_)
    refine W.eq (g2 := F0 m 18 ls [.int q3.1]) rfl ?_
    refine lv_istore_n (lv' := [(2, .int q3.1), (0, .ref (b + a0)), (1, .ref (b + a1))]) hx hb dX7_readRooms_18 rfl hl (by decide) rfl (fun ls hl => ?_)
    refine lv_iload_n hx hb dX7_readRooms_19 rfl (lv_at hl 0 rfl) ?_
    refine lv_iconst (v := 1) hx hb dX7_readRooms_20 (by decide) ?_
    refine lv_icmp_lt (tgt := 30) hx hb dX7_readRooms_21 (by decide) (fun hc => ?_) (fun hc => ?_)
    · replace hf := ip hf hc
      exact w_X7_readRooms_b30 X Z  _ _ _ _ hf _ _ _ S (lv_sub hl [1, 2, 0] rfl)
    · replace hf := im hf hc
      refine lv_iload_n hx hb dX7_readRooms_24 rfl (lv_at hl 0 rfl) ?_
      refine lv_bipush (v := 8) hx hb dX7_readRooms_25 (by decide) ?_
      refine lv_icmp_le (tgt := 39) hx hb dX7_readRooms_27 (by decide) (fun hc => ?_) (fun hc => ?_)
      · replace hf := ip hf hc
        exact w_X7_readRooms_b39 X Z  _ _ _ _ hf _ _ _ S (lv_sub hl [1, 2, 0] rfl)
      · replace hf := im hf hc
        exact w_X7_readRooms_b30 X Z  _ _ _ _ hf _ _ _ S (lv_sub hl [1, 2, 0] rfl)
  · replace hf := im hf hc
    obtain rfl := Option.some.inj hf
    exact Z _ _ _ _ dX7_readRooms_13 S
def f_X7_readRooms (a0 : Nat) (a1 : Nat) (h : HP) : Option (HP) := ck h a0 7 (f_X7_readRooms_e a0 a1 h)
theorem o_X7_readRooms {a0 : Nat} {a1 : Nat} {h : HP} {out : HP} (hf : f_X7_readRooms a0 a1 h = some out) : ∃ fs, h[a0]? = some (.inl (7, fs)) := (ck_spec hf).1
set_option maxRecDepth 100000 in
theorem c_X7_readRooms {l : Launch} {G : GT} {b : Nat} {a0 : Nat} {a1 : Nat} {h : HP} {out : HP} (hf : f_X7_readRooms a0 a1 h = some out) : MT l G b False False yX7_readRooms cX7_readRooms 3 none RM_X7_readRooms [.ref (b + a0), .ref (b + a1)] h none out 0 0 := by
  refine met_of (by decide) (Nat.le_of_ble_eq_true rfl) ?_
  intro p e s m below meth c ls X hnm S hl
  have hl : lv_has ls 3 [(0, .ref (b + a0)), (1, .ref (b + a1))] := hl
  replace hf := (ck_spec hf).2
  exact w_X7_readRooms_e X (z_v X) _ _ _ hf _ _ _ S hl
/-! RoomRings$Text.checkWord(II)V -/
abbrev RM_X7_checkWord : Room := { frames := 1, cells := 0, slots := 0, locals := 22 }
def f_X7_checkWord_b51   (h : HP) : Option (HP) :=
  some h
set_option maxRecDepth 100000 in
set_option maxHeartbeats 4000000 in
theorem w_X7_checkWord_b51 (X : CX RX7 cX7_checkWord 3 none p s m args meth c G b) {out : HP} (Z : ZV p l e RM_X7_checkWord s m args below meth c cX7_checkWord G b False 0 0 Q out)  : ∀  (h : HP), f_X7_checkWord_b51   h = some out → ∀ (H : Heap) (locs : List Loc) (ls : Array Slot), ST G b False s h H locs → lv_has ls 3 [] → W p l e RM_X7_checkWord s m args below meth c H locs 0 0 Q (F0 m 51 ls []) := by
  intro  h hf H locs ls S hl
  unfold f_X7_checkWord_b51 at hf
  have hx := X.1
  have hb := X.2.1
  obtain rfl := Option.some.inj hf
  exact Z _ _ _ _ dX7_checkWord_51 S
def f_X7_checkWord_b42  (a0 : Nat) (h : HP) : Option (HP) :=
  (gI h a0 7 3).bind fun v1 =>
  (f_X7_fail a0 3 v1 h).bind fun h2 =>
  f_X7_checkWord_b51   h2
set_option maxRecDepth 100000 in
set_option maxHeartbeats 4000000 in
theorem w_X7_checkWord_b42 (X : CX RX7 cX7_checkWord 3 none p s m args meth c G b) {out : HP} (Z : ZV p l e RM_X7_checkWord s m args below meth c cX7_checkWord G b False 0 0 Q out)  : ∀ (a0 : Nat) (h : HP), f_X7_checkWord_b42  a0 h = some out → ∀ (H : Heap) (locs : List Loc) (ls : Array Slot), ST G b False s h H locs → lv_has ls 3 [(0, .ref (b + a0))] → W p l e RM_X7_checkWord s m args below meth c H locs 0 0 Q (F0 m 42 ls []) := by
  intro a0 h hf H locs ls S hl
  unfold f_X7_checkWord_b42 at hf
  have hx := X.1
  have hb := X.2.1
  refine lv_aload_n hx hb dX7_checkWord_42 rfl (lv_at hl 0 rfl) ?_
  refine lv_iconst (v := 3) hx hb dX7_checkWord_43 (by decide) ?_
  refine lv_aload_n hx hb dX7_checkWord_44 rfl (lv_at hl 0 rfl) ?_
  obtain ⟨v1, e_v1, hf⟩ := ob hf
  refine r_getI X S fl_X7_32 e_v1 dX7_checkWord_45 ?_
  obtain ⟨h2, e_h2, hf⟩ := ob hf
  refine r_callV X S hl.1 (As := [.int 3, .int v1]) (rest := []) (c_X7_fail e_h2) my_X7_fail mv_X7_fail ml_X7_49 rfl (o_X7_fail e_h2) ⟨rfl, rfl, Nat.le_of_ble_eq_true rfl, Nat.le_of_ble_eq_true rfl⟩ rfl rfl (Nat.le_of_ble_eq_true rfl) dX7_checkWord_48 ⟨Nat.le_of_ble_eq_true rfl, Nat.le_of_ble_eq_true rfl⟩ (fun H locs S => ?_)
  refine W.eq (g2 := F0 m 51 ls []) rfl ?_
  exact w_X7_checkWord_b51 X Z  _ hf _ _ _ S (lv_sub hl [] rfl)
def f_X7_checkWord_b30  (a0 : Nat) (x1 : Int32) (x2 : Int32) (h : HP) : Option (HP) :=
  if x1 = 114 then
    f_X7_checkWord_b42  a0 h
  else
    if x2 < 6 then
      f_X7_checkWord_b51   h
    else
      f_X7_checkWord_b42  a0 h
set_option maxRecDepth 100000 in
set_option maxHeartbeats 4000000 in
theorem w_X7_checkWord_b30 (X : CX RX7 cX7_checkWord 3 none p s m args meth c G b) {out : HP} (Z : ZV p l e RM_X7_checkWord s m args below meth c cX7_checkWord G b False 0 0 Q out)  : ∀ (a0 : Nat) (x1 : Int32) (x2 : Int32) (h : HP), f_X7_checkWord_b30  a0 x1 x2 h = some out → ∀ (H : Heap) (locs : List Loc) (ls : Array Slot), ST G b False s h H locs → lv_has ls 3 [(0, .ref (b + a0)), (1, .int x1), (2, .int x2)] → W p l e RM_X7_checkWord s m args below meth c H locs 0 0 Q (F0 m 30 ls []) := by
  intro a0 x1 x2 h hf H locs ls S hl
  unfold f_X7_checkWord_b30 at hf
  have hx := X.1
  have hb := X.2.1
  refine lv_iload_n hx hb dX7_checkWord_30 rfl (lv_at hl 1 rfl) ?_
  refine lv_bipush (v := 114) hx hb dX7_checkWord_31 (by decide) ?_
  refine lv_icmp_eq (tgt := 42) hx hb dX7_checkWord_33 (by decide) (fun hc => ?_) (fun hc => ?_)
  · replace hf := ip hf hc
    exact w_X7_checkWord_b42 X Z  _ _ hf _ _ _ S (lv_sub hl [0] rfl)
  · replace hf := im hf hc
    refine lv_iload_n hx hb dX7_checkWord_36 rfl (lv_at hl 2 rfl) ?_
    refine lv_bipush (v := 6) hx hb dX7_checkWord_37 (by decide) ?_
    refine lv_icmp_lt (tgt := 51) hx hb dX7_checkWord_39 (by decide) (fun hc => ?_) (fun hc => ?_)
    · replace hf := ip hf hc
      exact w_X7_checkWord_b51 X Z  _ hf _ _ _ S (lv_sub hl [] rfl)
    · replace hf := im hf hc
      exact w_X7_checkWord_b42 X Z  _ _ hf _ _ _ S (lv_sub hl [0] rfl)
def f_X7_checkWord_e  (a0 : Nat) (x1 : Int32) (x2 : Int32) (h : HP) : Option (HP) :=
  if x1 = 114 then
    f_X7_checkWord_b30  a0 x1 x2 h
  else
    if x1 = 116 then
      f_X7_checkWord_b30  a0 x1 x2 h
    else
      if x1 = 110 then
        f_X7_checkWord_b30  a0 x1 x2 h
      else
        (gI h a0 7 3).bind fun v1 =>
        (f_X7_fail a0 1 v1 h).bind fun h2 =>
        f_X7_checkWord_b51   h2
set_option maxRecDepth 100000 in
set_option maxHeartbeats 4000000 in
theorem w_X7_checkWord_e (X : CX RX7 cX7_checkWord 3 none p s m args meth c G b) {out : HP} (Z : ZV p l e RM_X7_checkWord s m args below meth c cX7_checkWord G b False 0 0 Q out)  : ∀ (a0 : Nat) (x1 : Int32) (x2 : Int32) (h : HP), f_X7_checkWord_e  a0 x1 x2 h = some out → ∀ (H : Heap) (locs : List Loc) (ls : Array Slot), ST G b False s h H locs → lv_has ls 3 [(0, .ref (b + a0)), (1, .int x1), (2, .int x2)] → W p l e RM_X7_checkWord s m args below meth c H locs 0 0 Q (F0 m 0 ls []) := by
  intro a0 x1 x2 h hf H locs ls S hl
  unfold f_X7_checkWord_e at hf
  have hx := X.1
  have hb := X.2.1
  refine lv_iload_n hx hb dX7_checkWord_0 rfl (lv_at hl 1 rfl) ?_
  refine lv_bipush (v := 114) hx hb dX7_checkWord_1 (by decide) ?_
  refine lv_icmp_eq (tgt := 30) hx hb dX7_checkWord_3 (by decide) (fun hc => ?_) (fun hc => ?_)
  · replace hf := ip hf hc
    exact w_X7_checkWord_b30 X Z  _ _ _ _ hf _ _ _ S (lv_sub hl [0, 1, 2] rfl)
  · replace hf := im hf hc
    refine lv_iload_n hx hb dX7_checkWord_6 rfl (lv_at hl 1 rfl) ?_
    refine lv_bipush (v := 116) hx hb dX7_checkWord_7 (by decide) ?_
    refine lv_icmp_eq (tgt := 30) hx hb dX7_checkWord_9 (by decide) (fun hc => ?_) (fun hc => ?_)
    · replace hf := ip hf hc
      exact w_X7_checkWord_b30 X Z  _ _ _ _ hf _ _ _ S (lv_sub hl [0, 1, 2] rfl)
    · replace hf := im hf hc
      refine lv_iload_n hx hb dX7_checkWord_12 rfl (lv_at hl 1 rfl) ?_
      refine lv_bipush (v := 110) hx hb dX7_checkWord_13 (by decide) ?_
      refine lv_icmp_eq (tgt := 30) hx hb dX7_checkWord_15 (by decide) (fun hc => ?_) (fun hc => ?_)
      · replace hf := ip hf hc
        exact w_X7_checkWord_b30 X Z  _ _ _ _ hf _ _ _ S (lv_sub hl [0, 1, 2] rfl)
      · replace hf := im hf hc
        refine lv_aload_n hx hb dX7_checkWord_18 rfl (lv_at hl 0 rfl) ?_
        refine lv_iconst (v := 1) hx hb dX7_checkWord_19 (by decide) ?_
        refine lv_aload_n hx hb dX7_checkWord_20 rfl (lv_at hl 0 rfl) ?_
        obtain ⟨v1, e_v1, hf⟩ := ob hf
        refine r_getI X S fl_X7_32 e_v1 dX7_checkWord_21 ?_
        obtain ⟨h2, e_h2, hf⟩ := ob hf
        refine r_callV X S hl.1 (As := [.int 1, .int v1]) (rest := []) (c_X7_fail e_h2) my_X7_fail mv_X7_fail ml_X7_49 rfl (o_X7_fail e_h2) ⟨rfl, rfl, Nat.le_of_ble_eq_true rfl, Nat.le_of_ble_eq_true rfl⟩ rfl rfl (Nat.le_of_ble_eq_true rfl) dX7_checkWord_24 ⟨Nat.le_of_ble_eq_true rfl, Nat.le_of_ble_eq_true rfl⟩ (fun H locs S => ?_)
        refine W.eq (g2 := F0 m 27 ls []) rfl ?_
        refine lv_goto (tgt := 51) hx hb dX7_checkWord_27 (by decide) ?_
        exact w_X7_checkWord_b51 X Z  _ hf _ _ _ S (lv_sub hl [] rfl)
def f_X7_checkWord (a0 : Nat) (x1 : Int32) (x2 : Int32) (h : HP) : Option (HP) := ck h a0 7 (f_X7_checkWord_e a0 x1 x2 h)
theorem o_X7_checkWord {a0 : Nat} {x1 : Int32} {x2 : Int32} {h : HP} {out : HP} (hf : f_X7_checkWord a0 x1 x2 h = some out) : ∃ fs, h[a0]? = some (.inl (7, fs)) := (ck_spec hf).1
set_option maxRecDepth 100000 in
theorem c_X7_checkWord {l : Launch} {G : GT} {b : Nat} {a0 : Nat} {x1 : Int32} {x2 : Int32} {h : HP} {out : HP} (hf : f_X7_checkWord a0 x1 x2 h = some out) : MT l G b False False yX7_checkWord cX7_checkWord 3 none RM_X7_checkWord [.ref (b + a0), .int x1, .int x2] h none out 0 0 := by
  refine met_of (by decide) (Nat.le_of_ble_eq_true rfl) ?_
  intro p e s m below meth c ls X hnm S hl
  have hl : lv_has ls 3 [(0, .ref (b + a0)), (1, .int x1), (2, .int x2)] := hl
  replace hf := (ck_spec hf).2
  exact w_X7_checkWord_e X (z_v X) _ _ _ _ hf _ _ _ S hl
end M06
