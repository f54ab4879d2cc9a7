section M11
variable {p : Program} {l : Launch} {e : Env} {s : State} {m : MethodId} {args : Array Value} {below : List Frame} {meth : Method} {c : Code} {Q : State → Prop} {G : GT} {b : Nat}
/-! RoomRings.seed(I)I -/
abbrev RM_X8_seed : Room := { frames := 0, cells := 0, slots := 0, locals := 0 }
def f_X8_seed_e  (a0 : Nat) (x1 : Int32) (h : HP) : Option (Int32 × HP) :=
  if 0 ≤ x1 then
    (gR h a0 8 7).bind fun r1 =>
    (gI h r1 2 0).bind fun v2 =>
    (gR h a0 8 7).bind fun r3 =>
    (pI h r3 2 0 x1).bind fun h4 =>
    some (v2, h4)
  else
    some ((-1000000002), h)
set_option maxRecDepth 100000 in
set_option maxHeartbeats 4000000 in
theorem w_X8_seed_e (X : CX RX8 cX8_seed 3 (some .int) p s m args meth c G b) {out : Int32 × HP} (Z : ZI p l e RM_X8_seed s m args below meth c cX8_seed G b False 0 0 Q out)  : ∀ (a0 : Nat) (x1 : Int32) (h : HP), f_X8_seed_e  a0 x1 h = some out → ∀ (H : Heap) (locs : List Loc) (ls : Array Slot), ST G b False s h H locs → lv_has ls 3 [(0, .ref (b + a0)), (1, .int x1)] → W p l e RM_X8_seed s m args below meth c H locs 0 0 Q (F0 m 0 ls []) := by
  intro a0 x1 h hf H locs ls S hl
  unfold f_X8_seed_e at hf
  have hx := X.1
  have hb := X.2.1
  refine lv_iload_n hx hb dX8_seed_0 rfl (lv_at hl 1 rfl) ?_
  refine lv_if_ge (tgt := 7) hx hb dX8_seed_1 (by decide) (fun hc => ?_) (fun hc => ?_)
  · replace hf := ip hf hc
    refine lv_aload_n hx hb dX8_seed_7 rfl (lv_at hl 0 rfl) ?_
    obtain ⟨r1, e_r1, hf⟩ := ob hf
    refine r_getR X S fl_X8_57 e_r1 dX8_seed_8 ?_
    obtain ⟨v2, e_v2, hf⟩ := ob hf
    refine r_getI X S fl_X8_265 e_v2 dX8_seed_11 ?_
    refine lv_istore_n (lv' := [(2, .int v2), (0, .ref (b + a0)), (1, .int x1)]) hx hb dX8_seed_14 rfl hl (by decide) rfl (fun ls hl => ?_)
    refine lv_aload_n hx hb dX8_seed_15 rfl (lv_at hl 1 rfl) ?_
    obtain ⟨r3, e_r3, hf⟩ := ob hf
    refine r_getR X S fl_X8_57 e_r3 dX8_seed_16 ?_
    refine lv_iload_n hx hb dX8_seed_19 rfl (lv_at hl 2 rfl) ?_
    obtain ⟨h4, e_h4, hf⟩ := ob hf
    refine r_put X S fp_X8_265 (fun h9 => by cases h9) rfl rfl rfl e_h4 dX8_seed_20 (fun H locs S => ?_)
    refine lv_iload_n hx hb dX8_seed_23 rfl (lv_at hl 0 rfl) ?_
    obtain rfl := Option.some.inj hf
    exact Z _ _ _ _ dX8_seed_24 S
  · replace hf := im hf hc
    refine lv_ldc (v := (-1000000002)) hx hb X.2.2.2.1 (X.2.2.2.2.1 _ cn_X8_68) dX8_seed_4 ?_
    obtain rfl := Option.some.inj hf
    exact Z _ _ _ _ dX8_seed_6 S
def f_X8_seed (a0 : Nat) (x1 : Int32) (h : HP) : Option (Int32 × HP) := ck h a0 8 (f_X8_seed_e a0 x1 h)
theorem o_X8_seed {a0 : Nat} {x1 : Int32} {h : HP} {out : Int32 × HP} (hf : f_X8_seed a0 x1 h = some out) : ∃ fs, h[a0]? = some (.inl (8, fs)) := (ck_spec hf).1
set_option maxRecDepth 100000 in
theorem c_X8_seed {l : Launch} {G : GT} {b : Nat} {a0 : Nat} {x1 : Int32} {h : HP} {out : Int32 × HP} (hf : f_X8_seed a0 x1 h = some out) : MT l G b False False yX8_seed cX8_seed 3 (some .int) RM_X8_seed [.ref (b + a0), .int x1] h (some (.int out.1)) out.2 0 0 := by
  refine met_of (by decide) (Nat.le_of_ble_eq_true rfl) ?_
  intro p e s m below meth c ls X hnm S hl
  have hl : lv_has ls 3 [(0, .ref (b + a0)), (1, .int x1)] := hl
  replace hf := (ck_spec hf).2
  exact w_X8_seed_e X (z_i X) _ _ _ hf _ _ _ S hl
/-! RoomRings.imageAt(I)LRoomRings$Image; -/
abbrev RM_X8_imageAt : Room := { frames := 0, cells := 0, slots := 0, locals := 0 }
def f_X8_imageAt_b22   (h : HP) : Option (Option Nat × HP) :=
  some (none, h)
set_option maxRecDepth 100000 in
set_option maxHeartbeats 4000000 in
theorem w_X8_imageAt_b22 (X : CX RX8 cX8_imageAt 2 (some (.object "RoomRings$Image")) p s m args meth c G b) {out : Option Nat × HP} (Z : ZR p l e RM_X8_imageAt s m args below meth c cX8_imageAt G b False 0 0 Q out)  : ∀  (h : HP), f_X8_imageAt_b22   h = some out → ∀ (H : Heap) (locs : List Loc) (ls : Array Slot), ST G b False s h H locs → lv_has ls 2 [] → W p l e RM_X8_imageAt s m args below meth c H locs 0 0 Q (F0 m 22 ls []) := by
  intro  h hf H locs ls S hl
  unfold f_X8_imageAt_b22 at hf
  have hx := X.1
  have hb := X.2.1
  refine lv_null hx hb dX8_imageAt_22 ?_
  obtain rfl := Option.some.inj hf
  exact Z _ _ _ _ dX8_imageAt_23 S
def f_X8_imageAt_e  (a0 : Nat) (x1 : Int32) (h : HP) : Option (Option Nat × HP) :=
  if x1 < 0 then
    f_X8_imageAt_b22   h
  else
    (gR h a0 8 8).bind fun r1 =>
    (alen h r1).bind fun v2 =>
    if v2 ≤ x1 then
      f_X8_imageAt_b22   h
    else
      (gR h a0 8 8).bind fun r3 =>
      (qld h r3 x1).bind fun r4 =>
      some (some r4, h)
set_option maxRecDepth 100000 in
set_option maxHeartbeats 4000000 in
theorem w_X8_imageAt_e (X : CX RX8 cX8_imageAt 2 (some (.object "RoomRings$Image")) p s m args meth c G b) {out : Option Nat × HP} (Z : ZR p l e RM_X8_imageAt s m args below meth c cX8_imageAt G b False 0 0 Q out)  : ∀ (a0 : Nat) (x1 : Int32) (h : HP), f_X8_imageAt_e  a0 x1 h = some out → ∀ (H : Heap) (locs : List Loc) (ls : Array Slot), ST G b False s h H locs → lv_has ls 2 [(0, .ref (b + a0)), (1, .int x1)] → W p l e RM_X8_imageAt s m args below meth c H locs 0 0 Q (F0 m 0 ls []) := by
  intro a0 x1 h hf H locs ls S hl
  unfold f_X8_imageAt_e at hf
  have hx := X.1
  have hb := X.2.1
  refine lv_iload_n hx hb dX8_imageAt_0 rfl (lv_at hl 1 rfl) ?_
  refine lv_if_lt (tgt := 22) hx hb dX8_imageAt_1 (by decide) (fun hc => ?_) (fun hc => ?_)
  · replace hf := ip hf hc
    exact w_X8_imageAt_b22 X Z  _ hf _ _ _ S (lv_sub hl [] rfl)
  · replace hf := im hf hc
    refine lv_iload_n hx hb dX8_imageAt_4 rfl (lv_at hl 1 rfl) ?_
    refine lv_aload_n hx hb dX8_imageAt_5 rfl (lv_at hl 0 rfl) ?_
    obtain ⟨r1, e_r1, hf⟩ := ob hf
    refine r_getR X S fl_X8_63 e_r1 dX8_imageAt_6 ?_
    obtain ⟨v2, e_v2, hf⟩ := ob hf
    refine r_alen X S e_v2 dX8_imageAt_9 ?_
    refine lv_icmp_ge (tgt := 22) hx hb dX8_imageAt_10 (by decide) (fun hc => ?_) (fun hc => ?_)
    · replace hf := ip hf hc
      exact w_X8_imageAt_b22 X Z  _ hf _ _ _ S (lv_sub hl [] rfl)
    · replace hf := im hf hc
      refine lv_aload_n hx hb dX8_imageAt_13 rfl (lv_at hl 0 rfl) ?_
      obtain ⟨r3, e_r3, hf⟩ := ob hf
      refine r_getR X S fl_X8_63 e_r3 dX8_imageAt_14 ?_
      refine lv_iload_n hx hb dX8_imageAt_17 rfl (lv_at hl 1 rfl) ?_
      obtain ⟨r4, e_r4, hf⟩ := ob hf
      refine r_qld X S e_r4 dX8_imageAt_18 ?_
      refine lv_goto (tgt := 23) hx hb dX8_imageAt_19 (by decide) ?_
      obtain rfl := Option.some.inj hf
      exact Z _ _ _ _ dX8_imageAt_23 S
def f_X8_imageAt (a0 : Nat) (x1 : Int32) (h : HP) : Option (Option Nat × HP) := ck h a0 8 (f_X8_imageAt_e a0 x1 h)
theorem o_X8_imageAt {a0 : Nat} {x1 : Int32} {h : HP} {out : Option Nat × HP} (hf : f_X8_imageAt a0 x1 h = some out) : ∃ fs, h[a0]? = some (.inl (8, fs)) := (ck_spec hf).1
set_option maxRecDepth 100000 in
theorem c_X8_imageAt {l : Launch} {G : GT} {b : Nat} {a0 : Nat} {x1 : Int32} {h : HP} {out : Option Nat × HP} (hf : f_X8_imageAt a0 x1 h = some out) : MT l G b False False yX8_imageAt cX8_imageAt 2 (some (.object "RoomRings$Image")) RM_X8_imageAt [.ref (b + a0), .int x1] h (some (rv b (.inr out.1))) out.2 0 0 := by
  refine met_of (by decide) (Nat.le_of_ble_eq_true rfl) ?_
  intro p e s m below meth c ls X hnm S hl
  have hl : lv_has ls 2 [(0, .ref (b + a0)), (1, .int x1)] := hl
  replace hf := (ck_spec hf).2
  exact w_X8_imageAt_e X (z_r X) _ _ _ hf _ _ _ S hl
/-! RoomRings.keep(I)I -/
abbrev RM_X8_keep : Room := { frames := 3, cells := 0, slots := 0, locals := 61 }
def f_X8_keep_e  (a0 : Nat) (x1 : Int32) (h : HP) : Option (Int32 × HP) :=
  (f_X8_imageAt a0 x1 h).bind fun q1 => om q1.1 (
    some ((-1000000001), q1.2)) fun r2 =>
    (gR q1.2 a0 8 1).bind fun r3 =>
    (gR q1.2 a0 8 7).bind fun r4 =>
    (gI q1.2 r4 2 0).bind fun v5 =>
    (f_X4_store r2 r3 v5 q1.2).bind fun h6 =>
    (gR h6 a0 8 5).bind fun r7 =>
    (f_X6_forget r7 h6).bind fun h8 =>
    some (1, h8)
set_option maxRecDepth 100000 in
set_option maxHeartbeats 4000000 in
theorem w_X8_keep_e (X : CX RX8 cX8_keep 3 (some .int) p s m args meth c G b) {out : Int32 × HP} (Z : ZI p l e RM_X8_keep s m args below meth c cX8_keep G b False 0 0 Q out)  : ∀ (a0 : Nat) (x1 : Int32) (h : HP), f_X8_keep_e  a0 x1 h = some out → ∀ (H : Heap) (locs : List Loc) (ls : Array Slot), ST G b False s h H locs → lv_has ls 3 [(0, .ref (b + a0)), (1, .int x1)] → W p l e RM_X8_keep s m args below meth c H locs 0 0 Q (F0 m 0 ls []) := by
  intro a0 x1 h hf H locs ls S hl
  unfold f_X8_keep_e at hf
  have hx := X.1
  have hb := X.2.1
  refine lv_aload_n hx hb dX8_keep_0 rfl (lv_at hl 0 rfl) ?_
  refine lv_iload_n hx hb dX8_keep_1 rfl (lv_at hl 1 rfl) ?_
  obtain ⟨⟨q1o, q1h⟩, e_q1, hf⟩ := ob hf
  cases q1o with
  | none =>
    replace hf := om_n hf
    refine r_callV X S hl.1 (As := [.int x1]) (rest := []) (c_X8_imageAt e_q1) my_X8_imageAt mv_X8_imageAt ml_X8_268 rfl (o_X8_imageAt e_q1) ⟨rfl, rfl, Nat.le_of_ble_eq_true rfl, Nat.le_of_ble_eq_true rfl⟩ rfl rfl (Nat.le_of_ble_eq_true rfl) dX8_keep_2 ⟨Nat.le_of_ble_eq_true rfl, Nat.le_of_ble_eq_true rfl⟩ (fun H locs S => ?_)
    refine W.eq (g2 := F0 m 5 ls [.null]) rfl ?_
    refine lv_astore_nN (lv' := [(2, .null), (0, .ref (b + a0)), (1, .int x1)]) hx hb dX8_keep_5 rfl hl (by decide) rfl (fun ls hl => ?_)
    refine lv_aload_nN hx hb dX8_keep_6 rfl (lv_at hl 0 rfl) ?_
    refine lv_ifnonnullN hx hb dX8_keep_7 ?_
    refine lv_ldc (v := (-1000000001)) hx hb X.2.2.2.1 (X.2.2.2.2.1 _ cn_X8_143) dX8_keep_10 ?_
    obtain rfl := Option.some.inj hf
    exact Z _ _ _ _ dX8_keep_12 S
  | some r2 =>
    replace hf := om_s hf
    refine r_callV X S hl.1 (As := [.int x1]) (rest := []) (c_X8_imageAt e_q1) my_X8_imageAt mv_X8_imageAt ml_X8_268 rfl (o_X8_imageAt e_q1) ⟨rfl, rfl, Nat.le_of_ble_eq_true rfl, Nat.le_of_ble_eq_true rfl⟩ rfl rfl (Nat.le_of_ble_eq_true rfl) dX8_keep_2 ⟨Nat.le_of_ble_eq_true rfl, Nat.le_of_ble_eq_true rfl⟩ (fun H locs S => ?_)
    refine W.eq (g2 := F0 m 5 ls [.ref (b + r2)]) rfl ?_
    refine lv_astore_n (lv' := [(2, .ref (b + r2)), (0, .ref (b + a0)), (1, .int x1)]) hx hb dX8_keep_5 rfl hl (by decide) rfl (fun ls hl => ?_)
    refine lv_aload_n hx hb dX8_keep_6 rfl (lv_at hl 0 rfl) ?_
    refine lv_ifnonnull (tgt := 13) hx hb dX8_keep_7 (by decide) ?_
    refine lv_aload_n hx hb dX8_keep_13 rfl (lv_at hl 0 rfl) ?_
    refine lv_aload_n hx hb dX8_keep_14 rfl (lv_at hl 1 rfl) ?_
    obtain ⟨r3, e_r3, hf⟩ := ob hf
    refine r_getR X S fl_X8_19 e_r3 dX8_keep_15 ?_
    refine lv_aload_n hx hb dX8_keep_18 rfl (lv_at hl 1 rfl) ?_
    obtain ⟨r4, e_r4, hf⟩ := ob hf
    refine r_getR X S fl_X8_57 e_r4 dX8_keep_19 ?_
    obtain ⟨v5, e_v5, hf⟩ := ob hf
    refine r_getI X S fl_X8_265 e_v5 dX8_keep_22 ?_
    obtain ⟨h6, e_h6, hf⟩ := ob hf
    refine r_callV X S hl.1 (As := [.ref (b + r3), .int v5]) (rest := []) (c_X4_store e_h6) my_X4_store mv_X4_store ml_X8_272 rfl (o_X4_store e_h6) ⟨rfl, rfl, Nat.le_of_ble_eq_true rfl, Nat.le_of_ble_eq_true rfl⟩ rfl rfl (Nat.le_of_ble_eq_true rfl) dX8_keep_25 ⟨Nat.le_of_ble_eq_true rfl, Nat.le_of_ble_eq_true rfl⟩ (fun H locs S => ?_)
    refine W.eq (g2 := F0 m 28 ls []) rfl ?_
    refine lv_aload_n hx hb dX8_keep_28 rfl (lv_at hl 1 rfl) ?_
    obtain ⟨r7, e_r7, hf⟩ := ob hf
    refine r_getR X S fl_X8_43 e_r7 dX8_keep_29 ?_
    obtain ⟨h8, e_h8, hf⟩ := ob hf
    refine r_callV X S hl.1 (As := []) (rest := []) (c_X6_forget e_h8) my_X6_forget mv_X6_forget ml_X8_81 rfl (o_X6_forget e_h8) ⟨rfl, rfl, Nat.le_of_ble_eq_true rfl, Nat.le_of_ble_eq_true rfl⟩ rfl rfl (Nat.le_of_ble_eq_true rfl) dX8_keep_32 ⟨Nat.le_of_ble_eq_true rfl, Nat.le_of_ble_eq_true rfl⟩ (fun H locs S => ?_)
    refine W.eq (g2 := F0 m 35 ls []) rfl ?_
    refine lv_iconst (v := 1) hx hb dX8_keep_35 (by decide) ?_
    obtain rfl := Option.some.inj hf
    exact Z _ _ _ _ dX8_keep_36 S
def f_X8_keep (a0 : Nat) (x1 : Int32) (h : HP) : Option (Int32 × HP) := ck h a0 8 (f_X8_keep_e a0 x1 h)
theorem o_X8_keep {a0 : Nat} {x1 : Int32} {h : HP} {out : Int32 × HP} (hf : f_X8_keep a0 x1 h = some out) : ∃ fs, h[a0]? = some (.inl (8, fs)) := (ck_spec hf).1
set_option maxRecDepth 100000 in
theorem c_X8_keep {l : Launch} {G : GT} {b : Nat} {a0 : Nat} {x1 : Int32} {h : HP} {out : Int32 × HP} (hf : f_X8_keep a0 x1 h = some out) : MT l G b False False yX8_keep cX8_keep 3 (some .int) RM_X8_keep [.ref (b + a0), .int x1] h (some (.int out.1)) out.2 0 0 := by
  refine met_of (by decide) (Nat.le_of_ble_eq_true rfl) ?_
  intro p e s m below meth c ls X hnm S hl
  have hl : lv_has ls 3 [(0, .ref (b + a0)), (1, .int x1)] := hl
  replace hf := (ck_spec hf).2
  exact w_X8_keep_e X (z_i X) _ _ _ hf _ _ _ S hl
/-! RoomRings.goBack(I)I -/
abbrev RM_X8_goBack : Room := { frames := 2, cells := 0, slots := 0, locals := 39 }
def f_X8_goBack_e  (a0 : Nat) (x1 : Int32) (h : HP) : Option (Int32 × HP) :=
  (f_X8_imageAt a0 x1 h).bind fun q1 => om q1.1 (
    some ((-1000000001), q1.2)) fun r2 =>
    (gI q1.2 r2 4 0).bind fun v3 =>
    if v3 = 0 then
      some ((-1000000003), q1.2)
    else
      (gR q1.2 a0 8 1).bind fun r4 =>
      (gR q1.2 r2 4 2).bind fun r5 =>
      (f_X3_copy r4 r5 q1.2).bind fun h6 =>
      (gR h6 a0 8 7).bind fun r7 =>
      (gI h6 r2 4 1).bind fun v8 =>
      (pI h6 r7 2 0 v8).bind fun h9 =>
      (gR h9 a0 8 5).bind fun r10 =>
      (f_X6_forget r10 h9).bind fun h11 =>
      some (1, h11)
set_option maxRecDepth 100000 in
set_option maxHeartbeats 4000000 in
theorem w_X8_goBack_e (X : CX RX8 cX8_goBack 3 (some .int) p s m args meth c G b) {out : Int32 × HP} (Z : ZI p l e RM_X8_goBack s m args below meth c cX8_goBack G b False 0 0 Q out)  : ∀ (a0 : Nat) (x1 : Int32) (h : HP), f_X8_goBack_e  a0 x1 h = some out → ∀ (H : Heap) (locs : List Loc) (ls : Array Slot), ST G b False s h H locs → lv_has ls 3 [(0, .ref (b + a0)), (1, .int x1)] → W p l e RM_X8_goBack s m args below meth c H locs 0 0 Q (F0 m 0 ls []) := by
  intro a0 x1 h hf H locs ls S hl
  unfold f_X8_goBack_e at hf
  have hx := X.1
  have hb := X.2.1
  refine lv_aload_n hx hb dX8_goBack_0 rfl (lv_at hl 0 rfl) ?_
  refine lv_iload_n hx hb dX8_goBack_1 rfl (lv_at hl 1 rfl) ?_
  obtain ⟨⟨q1o, q1h⟩, e_q1, hf⟩ := ob hf
  cases q1o with
  | none =>
    replace hf := om_n hf
    refine r_callV X S hl.1 (As := [.int x1]) (rest := []) (c_X8_imageAt e_q1) my_X8_imageAt mv_X8_imageAt ml_X8_268 rfl (o_X8_imageAt e_q1) ⟨rfl, rfl, Nat.le_of_ble_eq_true rfl, Nat.le_of_ble_eq_true rfl⟩ rfl rfl (Nat.le_of_ble_eq_true rfl) dX8_goBack_2 ⟨Nat.le_of_ble_eq_true rfl, Nat.le_of_ble_eq_true rfl⟩ (fun H locs S => ?_)
    refine W.eq (g2 := F0 m 5 ls [.null]) rfl ?_
    refine lv_astore_nN (lv' := [(2, .null), (0, .ref (b + a0)), (1, .int x1)]) hx hb dX8_goBack_5 rfl hl (by decide) rfl (fun ls hl => ?_)
    refine lv_aload_nN hx hb dX8_goBack_6 rfl (lv_at hl 0 rfl) ?_
    refine lv_ifnonnullN hx hb dX8_goBack_7 ?_
    refine lv_ldc (v := (-1000000001)) hx hb X.2.2.2.1 (X.2.2.2.2.1 _ cn_X8_143) dX8_goBack_10 ?_
    obtain rfl := Option.some.inj hf
    exact Z _ _ _ _ dX8_goBack_12 S
  | some r2 =>
    replace hf := om_s hf
    refine r_callV X S hl.1 (As := [.int x1]) (rest := []) (c_X8_imageAt e_q1) my_X8_imageAt mv_X8_imageAt ml_X8_268 rfl (o_X8_imageAt e_q1) ⟨rfl, rfl, Nat.le_of_ble_eq_true rfl, Nat.le_of_ble_eq_true rfl⟩ rfl rfl (Nat.le_of_ble_eq_true rfl) dX8_goBack_2 ⟨Nat.le_of_ble_eq_true rfl, Nat.le_of_ble_eq_true rfl⟩ (fun H locs S => ?_)
    refine W.eq (g2 := F0 m 5 ls [.ref (b + r2)]) rfl ?_
    refine lv_astore_n (lv' := [(2, .ref (b + r2)), (0, .ref (b + a0)), (1, .int x1)]) hx hb dX8_goBack_5 rfl hl (by decide) rfl (fun ls hl => ?_)
    refine lv_aload_n hx hb dX8_goBack_6 rfl (lv_at hl 0 rfl) ?_
    refine lv_ifnonnull (tgt := 13) hx hb dX8_goBack_7 (by decide) ?_
    refine lv_aload_n hx hb dX8_goBack_13 rfl (lv_at hl 0 rfl) ?_
    obtain ⟨v3, e_v3, hf⟩ := ob hf
    refine r_getI X S fl_X8_276 e_v3 dX8_goBack_14 ?_
    refine lv_if_ne (tgt := 23) hx hb dX8_goBack_17 (by decide) (fun hc => ?_) (fun hc => ?_)
    · replace hf := im hf hc
      refine lv_aload_n hx hb dX8_goBack_23 rfl (lv_at hl 1 rfl) ?_
      obtain ⟨r4, e_r4, hf⟩ := ob hf
      refine r_getR X S fl_X8_19 e_r4 dX8_goBack_24 ?_
      refine lv_aload_n hx hb dX8_goBack_27 rfl (lv_at hl 0 rfl) ?_
      obtain ⟨r5, e_r5, hf⟩ := ob hf
      refine r_getR X S fl_X8_280 e_r5 dX8_goBack_28 ?_
      obtain ⟨h6, e_h6, hf⟩ := ob hf
      refine r_callV X S hl.1 (As := [.ref (b + r5)]) (rest := []) (c_X3_copy e_h6) my_X3_copy mv_X3_copy ml_X8_77 rfl (o_X3_copy e_h6) ⟨rfl, rfl, Nat.le_of_ble_eq_true rfl, Nat.le_of_ble_eq_true rfl⟩ rfl rfl (Nat.le_of_ble_eq_true rfl) dX8_goBack_31 ⟨Nat.le_of_ble_eq_true rfl, Nat.le_of_ble_eq_true rfl⟩ (fun H locs S => ?_)
      refine W.eq (g2 := F0 m 34 ls []) rfl ?_
      refine lv_aload_n hx hb dX8_goBack_34 rfl (lv_at hl 1 rfl) ?_
      obtain ⟨r7, e_r7, hf⟩ := ob hf
      refine r_getR X S fl_X8_57 e_r7 dX8_goBack_35 ?_
      refine lv_aload_n hx hb dX8_goBack_38 rfl (lv_at hl 0 rfl) ?_
      obtain ⟨v8, e_v8, hf⟩ := ob hf
      refine r_getI X S fl_X8_281 e_v8 dX8_goBack_39 ?_
      obtain ⟨h9, e_h9, hf⟩ := ob hf
      refine r_put X S fp_X8_265 (fun h9 => by cases h9) rfl rfl rfl e_h9 dX8_goBack_42 (fun H locs S => ?_)
      refine lv_aload_n hx hb dX8_goBack_45 rfl (lv_at hl 1 rfl) ?_
      obtain ⟨r10, e_r10, hf⟩ := ob hf
      refine r_getR X S fl_X8_43 e_r10 dX8_goBack_46 ?_
      obtain ⟨h11, e_h11, hf⟩ := ob hf
      refine r_callV X S hl.1 (As := []) (rest := []) (c_X6_forget e_h11) my_X6_forget mv_X6_forget ml_X8_81 rfl (o_X6_forget e_h11) ⟨rfl, rfl, Nat.le_of_ble_eq_true rfl, Nat.le_of_ble_eq_true rfl⟩ rfl rfl (Nat.le_of_ble_eq_true rfl) dX8_goBack_49 ⟨Nat.le_of_ble_eq_true rfl, Nat.le_of_ble_eq_true rfl⟩ (fun H locs S => ?_)
      refine W.eq (g2 := F0 m 52 ls []) rfl ?_
      refine lv_iconst (v := 1) hx hb dX8_goBack_52 (by decide) ?_
      obtain rfl := Option.some.inj hf
      exact Z _ _ _ _ dX8_goBack_53 S
    · replace hf := ip hf hc
      refine lv_ldc (v := (-1000000003)) hx hb X.2.2.2.1 (X.2.2.2.2.1 _ cn_X8_192) dX8_goBack_20 ?_
      obtain rfl := Option.some.inj hf
      exact Z _ _ _ _ dX8_goBack_22 S
def f_X8_goBack (a0 : Nat) (x1 : Int32) (h : HP) : Option (Int32 × HP) := ck h a0 8 (f_X8_goBack_e a0 x1 h)
theorem o_X8_goBack {a0 : Nat} {x1 : Int32} {h : HP} {out : Int32 × HP} (hf : f_X8_goBack a0 x1 h = some out) : ∃ fs, h[a0]? = some (.inl (8, fs)) := (ck_spec hf).1
set_option maxRecDepth 100000 in
theorem c_X8_goBack {l : Launch} {G : GT} {b : Nat} {a0 : Nat} {x1 : Int32} {h : HP} {out : Int32 × HP} (hf : f_X8_goBack a0 x1 h = some out) : MT l G b False False yX8_goBack cX8_goBack 3 (some .int) RM_X8_goBack [.ref (b + a0), .int x1] h (some (.int out.1)) out.2 0 0 := by
  refine met_of (by decide) (Nat.le_of_ble_eq_true rfl) ?_
  intro p e s m below meth c ls X hnm S hl
  have hl : lv_has ls 3 [(0, .ref (b + a0)), (1, .int x1)] := hl
  replace hf := (ck_spec hf).2
  exact w_X8_goBack_e X (z_i X) _ _ _ hf _ _ _ S hl
/-! RoomRingsModel.beginLots(I)V -/
abbrev RM_X9_beginLots : Room := { frames := 0, cells := 0, slots := 0, locals := 0 }
def f_X9_beginLots_b2 (K2 : Nat → Int32 → Int32 → HP → Option (HP)) (a0 : Nat) (x1 : Int32) (x2 : Int32) (h : HP) : Option (HP) :=
  if 6 ≤ x2 then
    some h
  else
    (gR h a0 9 0).bind fun r1 =>
    (ast h r1 ((x1 + 60) + x2) x2).bind fun h2 =>
    K2 a0 x1 (x2 + 1) h2
set_option maxRecDepth 100000 in
set_option maxHeartbeats 4000000 in
theorem w_X9_beginLots_b2 (X : CX RX9 cX9_beginLots 3 none p s m args meth c G b) {out : HP} (Z : ZV p l e RM_X9_beginLots s m args below meth c cX9_beginLots G b False 0 0 Q out) {K2 : Nat → Int32 → Int32 → HP → Option (HP)} (hK2 : ∀ (a0 : Nat) (x1 : Int32) (x2 : Int32) (h : HP), K2 a0 x1 x2 h = some out → ∀ (H : Heap) (locs : List Loc) (ls : Array Slot), ST G b False s h H locs → lv_has ls 3 [(0, .ref (b + a0)), (1, .int x1), (2, .int x2)] → W p l e RM_X9_beginLots s m args below meth c H locs 0 0 Q (F0 m 2 ls [])) : ∀ (a0 : Nat) (x1 : Int32) (x2 : Int32) (h : HP), f_X9_beginLots_b2 K2 a0 x1 x2 h = some out → ∀ (H : Heap) (locs : List Loc) (ls : Array Slot), ST G b False s h H locs → lv_has ls 3 [(0, .ref (b + a0)), (1, .int x1), (2, .int x2)] → W p l e RM_X9_beginLots s m args below meth c H locs 0 0 Q (F0 m 2 ls []) := by
  intro a0 x1 x2 h hf H locs ls S hl
  unfold f_X9_beginLots_b2 at hf
  have hx := X.1
  have hb := X.2.1
  refine lv_iload_n hx hb dX9_beginLots_2 rfl (lv_at hl 2 rfl) ?_
  refine lv_bipush (v := 6) hx hb dX9_beginLots_3 (by decide) ?_
  refine lv_icmp_ge (tgt := 26) hx hb dX9_beginLots_5 (by decide) (fun hc => ?_) (fun hc => ?_)
  · replace hf := ip hf hc
    obtain rfl := Option.some.inj hf
    exact Z _ _ _ _ dX9_beginLots_26 S
  · replace hf := im hf hc
    refine lv_aload_n hx hb dX9_beginLots_8 rfl (lv_at hl 0 rfl) ?_
    obtain ⟨r1, e_r1, hf⟩ := ob hf
    refine r_getR X S fl_X9_7 e_r1 dX9_beginLots_9 ?_
    refine lv_iload_n hx hb dX9_beginLots_12 rfl (lv_at hl 1 rfl) ?_
    refine lv_bipush (v := 60) hx hb dX9_beginLots_13 (by decide) ?_
    refine lv_iadd hx hb dX9_beginLots_15 ?_
    refine lv_iload_n hx hb dX9_beginLots_16 rfl (lv_at hl 2 rfl) ?_
    refine lv_iadd hx hb dX9_beginLots_17 ?_
    refine lv_iload_n hx hb dX9_beginLots_18 rfl (lv_at hl 2 rfl) ?_
    obtain ⟨h2, e_h2, hf⟩ := ob hf
    refine r_ast X S e_h2 dX9_beginLots_19 (fun H locs S => ?_)
    refine lv_iinc (v := x2 + 1) (lv' := [(2, .int (x2 + 1)), (0, .ref (b + a0)), (1, .int x1)]) hx hb dX9_beginLots_20 hl (k := 2) rfl rfl (by decide) rfl (fun ls hl => ?_)
    refine lv_goto (tgt := 2) hx hb dX9_beginLots_23 (by decide) ?_
    exact hK2 _ _ _ _ hf _ _ _ S (lv_sub hl [1, 2, 0] rfl)
def F_X9_beginLots_2  : Nat → Nat → Int32 → Int32 → HP → Option (HP)
  | 0 => fun _ _ _ _ => none
  | n + 1 => fun a0 x1 x2 h => f_X9_beginLots_b2 (F_X9_beginLots_2  n) a0 x1 x2 h
theorem wl_X9_beginLots_2 (X : CX RX9 cX9_beginLots 3 none p s m args meth c G b) {out : HP} (Z : ZV p l e RM_X9_beginLots s m args below meth c cX9_beginLots G b False 0 0 Q out)  : ∀ (n : Nat) (a0 : Nat) (x1 : Int32) (x2 : Int32) (h : HP), F_X9_beginLots_2  n a0 x1 x2 h = some out → ∀ (H : Heap) (locs : List Loc) (ls : Array Slot), ST G b False s h H locs → lv_has ls 3 [(0, .ref (b + a0)), (1, .int x1), (2, .int x2)] → W p l e RM_X9_beginLots s m args below meth c H locs 0 0 Q (F0 m 2 ls []) := by
  intro n
  induction n with
  | zero => intro a0 x1 x2 h hf; exact nn hf
  | succ n ih => exact w_X9_beginLots_b2 X Z ih
def f_X9_beginLots_e  (a0 : Nat) (x1 : Int32) (h : HP) : Option (HP) :=
  F_X9_beginLots_2  FU a0 x1 0 h
set_option maxRecDepth 100000 in
set_option maxHeartbeats 4000000 in
theorem w_X9_beginLots_e (X : CX RX9 cX9_beginLots 3 none p s m args meth c G b) {out : HP} (Z : ZV p l e RM_X9_beginLots s m args below meth c cX9_beginLots G b False 0 0 Q out)  : ∀ (a0 : Nat) (x1 : Int32) (h : HP), f_X9_beginLots_e  a0 x1 h = some out → ∀ (H : Heap) (locs : List Loc) (ls : Array Slot), ST G b False s h H locs → lv_has ls 3 [(0, .ref (b + a0)), (1, .int x1)] → W p l e RM_X9_beginLots s m args below meth c H locs 0 0 Q (F0 m 0 ls []) := by
  intro a0 x1 h hf H locs ls S hl
  unfold f_X9_beginLots_e at hf
  have hx := X.1
  have hb := X.2.1
  refine lv_iconst (v := 0) hx hb dX9_beginLots_0 (by decide) ?_
  refine lv_istore_n (lv' := [(2, .int 0), (0, .ref (b + a0)), (1, .int x1)]) hx hb dX9_beginLots_1 rfl hl (by decide) rfl (fun ls hl => ?_)
  exact wl_X9_beginLots_2 X Z  FU _ _ _ _ hf _ _ _ S (lv_sub hl [1, 2, 0] rfl)
def f_X9_beginLots (a0 : Nat) (x1 : Int32) (h : HP) : Option (HP) := ck h a0 9 (f_X9_beginLots_e a0 x1 h)
theorem o_X9_beginLots {a0 : Nat} {x1 : Int32} {h : HP} {out : HP} (hf : f_X9_beginLots a0 x1 h = some out) : ∃ fs, h[a0]? = some (.inl (9, fs)) := (ck_spec hf).1
set_option maxRecDepth 100000 in
theorem c_X9_beginLots {l : Launch} {G : GT} {b : Nat} {a0 : Nat} {x1 : Int32} {h : HP} {out : HP} (hf : f_X9_beginLots a0 x1 h = some out) : MT l G b False False yX9_beginLots cX9_beginLots 3 none RM_X9_beginLots [.ref (b + a0), .int x1] h none out 0 0 := by
  refine met_of (by decide) (Nat.le_of_ble_eq_true rfl) ?_
  intro p e s m below meth c ls X hnm S hl
  have hl : lv_has ls 3 [(0, .ref (b + a0)), (1, .int x1)] := hl
  replace hf := (ck_spec hf).2
  exact w_X9_beginLots_e X (z_v X) _ _ _ hf _ _ _ S hl
/-! RoomRingsModel.<init>()V -/
abbrev RM_X9_init : Room := { frames := 1, cells := 11, slots := 1991, locals := 22 }
def f_X9_init_e  (a0 : Nat) (h : HP) : Option (HP) :=
  (pR (hpush h (.inr (.inl (1608, fun _ => 0)))) a0 9 0 (List.length h)).bind fun h1 =>
  (pR (hpush h1 (.inr (.inl (240, fun _ => 0)))) a0 9 5 (List.length h1)).bind fun h2 =>
  (pI h2 a0 9 7 (-1)).bind fun h3 =>
  (pR (hpush h3 (.inr (.inl (6, fun _ => 0)))) a0 9 8 (List.length h3)).bind fun h4 =>
  (pR (hpush h4 (.inr (.inl (6, fun _ => 0)))) a0 9 9 (List.length h4)).bind fun h5 =>
  (pR (hpush h5 (.inr (.inl (6, fun _ => 0)))) a0 9 10 (List.length h5)).bind fun h6 =>
  (pR (hpush h6 (.inr (.inl (9, fun _ => 0)))) a0 9 12 (List.length h6)).bind fun h7 =>
  (pR (hpush h7 (.inr (.inl (6, fun _ => 0)))) a0 9 13 (List.length h7)).bind fun h8 =>
  (pR (hpush h8 (.inr (.inl (6, fun _ => 0)))) a0 9 14 (List.length h8)).bind fun h9 =>
  (pR (hpush h9 (.inr (.inl (20, fun _ => 0)))) a0 9 16 (List.length h9)).bind fun h10 =>
  (pR (hpush h10 (.inr (.inl (20, fun _ => 0)))) a0 9 17 (List.length h10)).bind fun h11 =>
  (pR (hpush h11 (.inr (.inl (64, fun _ => 0)))) a0 9 27 (List.length h11)).bind fun h12 =>
  (f_X9_beginLots a0 0 h12).bind fun h13 =>
  some h13
set_option maxRecDepth 100000 in
set_option maxHeartbeats 4000000 in
theorem w_X9_init_e (X : CX RX9 cX9_init 1 none p s m args meth c G b) (hnm : meth.name = "<init>") {out : HP} (Z : ZV p l e RM_X9_init s m args below meth c cX9_init G b False 11 1991 Q out)  : ∀ (a0 : Nat) (h : HP), f_X9_init_e  a0 h = some out → ∀ (H : Heap) (locs : List Loc) (ls : Array Slot), ST G b True s h H locs → lv_has ls 1 [(0, .ref (b + a0))] → W p l e RM_X9_init s m args below meth c H locs 0 0 Q (F0 m 0 ls []) := by
  intro a0 h hf H locs ls S hl
  unfold f_X9_init_e at hf
  have hx := X.1
  have hb := X.2.1
  refine lv_aload_n hx hb dX9_init_0 rfl (lv_at hl 0 rfl) ?_
  refine W.objInit hx hb X.2.2.2.1 (X.2.2.2.2.1 _ ml_X9_1) (X.2.2.2.2.1 _ oi_i) (X.2.2.2.2.1 _ oi_c) rfl (by rw [X.2.2.1]; exact hl.1) rfl dX9_init_1 (Nat.le_of_ble_eq_true rfl) (Nat.le_of_ble_eq_true rfl) ?_
  refine W.eq (g2 := F0 m 4 ls []) rfl ?_
  refine lv_aload_n hx hb dX9_init_4 rfl (lv_at hl 0 rfl) ?_
  refine lv_sipush (v := 1608) hx hb dX9_init_5 (by decide) ?_
  refine r_newI (N := 1608) X S ac_int (by decide) (by decide) (by decide) (Nat.le_of_ble_eq_true rfl) (Nat.le_of_ble_eq_true rfl) dX9_init_8 (fun H locs S => ?_)
  refine W.widen (k := 1) (n := 1608) (Nat.le_of_ble_eq_true rfl) (Nat.le_of_ble_eq_true rfl) ?_
  obtain ⟨h1, e_h1, hf⟩ := ob hf
  refine r_put X S fp_X9_7 (fun _ => hnm) rfl rfl rfl e_h1 dX9_init_10 (fun H locs S => ?_)
  refine lv_aload_n hx hb dX9_init_13 rfl (lv_at hl 0 rfl) ?_
  refine lv_sipush (v := 240) hx hb dX9_init_14 (by decide) ?_
  refine r_newI (N := 240) X S ac_int (by decide) (by decide) (by decide) (Nat.le_of_ble_eq_true rfl) (Nat.le_of_ble_eq_true rfl) dX9_init_17 (fun H locs S => ?_)
  refine W.widen (k := 2) (n := 1848) (Nat.le_of_ble_eq_true rfl) (Nat.le_of_ble_eq_true rfl) ?_
  obtain ⟨h2, e_h2, hf⟩ := ob hf
  refine r_put X S fp_X9_13 (fun _ => hnm) rfl rfl rfl e_h2 dX9_init_19 (fun H locs S => ?_)
  refine lv_aload_n hx hb dX9_init_22 rfl (lv_at hl 0 rfl) ?_
  refine lv_iconst (v := (-1)) hx hb dX9_init_23 (by decide) ?_
  obtain ⟨h3, e_h3, hf⟩ := ob hf
  refine r_put X S fp_X9_16 (fun h9 => by cases h9) rfl rfl rfl e_h3 dX9_init_24 (fun H locs S => ?_)
  refine lv_aload_n hx hb dX9_init_27 rfl (lv_at hl 0 rfl) ?_
  refine lv_bipush (v := 6) hx hb dX9_init_28 (by decide) ?_
  refine r_newI (N := 6) X S ac_int (by decide) (by decide) (by decide) (Nat.le_of_ble_eq_true rfl) (Nat.le_of_ble_eq_true rfl) dX9_init_30 (fun H locs S => ?_)
  refine W.widen (k := 3) (n := 1854) (Nat.le_of_ble_eq_true rfl) (Nat.le_of_ble_eq_true rfl) ?_
  obtain ⟨h4, e_h4, hf⟩ := ob hf
  refine r_put X S fp_X9_20 (fun _ => hnm) rfl rfl rfl e_h4 dX9_init_32 (fun H locs S => ?_)
  refine lv_aload_n hx hb dX9_init_35 rfl (lv_at hl 0 rfl) ?_
  refine lv_bipush (v := 6) hx hb dX9_init_36 (by decide) ?_
  refine r_newI (N := 6) X S ac_int (by decide) (by decide) (by decide) (Nat.le_of_ble_eq_true rfl) (Nat.le_of_ble_eq_true rfl) dX9_init_38 (fun H locs S => ?_)
  refine W.widen (k := 4) (n := 1860) (Nat.le_of_ble_eq_true rfl) (Nat.le_of_ble_eq_true rfl) ?_
  obtain ⟨h5, e_h5, hf⟩ := ob hf
  refine r_put X S fp_X9_23 (fun _ => hnm) rfl rfl rfl e_h5 dX9_init_40 (fun H locs S => ?_)
  refine lv_aload_n hx hb dX9_init_43 rfl (lv_at hl 0 rfl) ?_
  refine lv_bipush (v := 6) hx hb dX9_init_44 (by decide) ?_
  refine r_newI (N := 6) X S ac_int (by decide) (by decide) (by decide) (Nat.le_of_ble_eq_true rfl) (Nat.le_of_ble_eq_true rfl) dX9_init_46 (fun H locs S => ?_)
  refine W.widen (k := 5) (n := 1866) (Nat.le_of_ble_eq_true rfl) (Nat.le_of_ble_eq_true rfl) ?_
  obtain ⟨h6, e_h6, hf⟩ := ob hf
  refine r_put X S fp_X9_26 (fun _ => hnm) rfl rfl rfl e_h6 dX9_init_48 (fun H locs S => ?_)
  refine lv_aload_n hx hb dX9_init_51 rfl (lv_at hl 0 rfl) ?_
  refine lv_bipush (v := 9) hx hb dX9_init_52 (by decide) ?_
  refine r_newI (N := 9) X S ac_int (by decide) (by decide) (by decide) (Nat.le_of_ble_eq_true rfl) (Nat.le_of_ble_eq_true rfl) dX9_init_54 (fun H locs S => ?_)
  refine W.widen (k := 6) (n := 1875) (Nat.le_of_ble_eq_true rfl) (Nat.le_of_ble_eq_true rfl) ?_
  obtain ⟨h7, e_h7, hf⟩ := ob hf
  refine r_put X S fp_X9_29 (fun _ => hnm) rfl rfl rfl e_h7 dX9_init_56 (fun H locs S => ?_)
  refine lv_aload_n hx hb dX9_init_59 rfl (lv_at hl 0 rfl) ?_
  refine lv_bipush (v := 6) hx hb dX9_init_60 (by decide) ?_
  refine r_newI (N := 6) X S ac_int (by decide) (by decide) (by decide) (Nat.le_of_ble_eq_true rfl) (Nat.le_of_ble_eq_true rfl) dX9_init_62 (fun H locs S => ?_)
  refine W.widen (k := 7) (n := 1881) (Nat.le_of_ble_eq_true rfl) (Nat.le_of_ble_eq_true rfl) ?_
  obtain ⟨h8, e_h8, hf⟩ := ob hf
  refine r_put X S fp_X9_32 (fun _ => hnm) rfl rfl rfl e_h8 dX9_init_64 (fun H locs S => ?_)
  refine lv_aload_n hx hb dX9_init_67 rfl (lv_at hl 0 rfl) ?_
  refine lv_bipush (v := 6) hx hb dX9_init_68 (by decide) ?_
  refine r_newI (N := 6) X S ac_int (by decide) (by decide) (by decide) (Nat.le_of_ble_eq_true rfl) (Nat.le_of_ble_eq_true rfl) dX9_init_70 (fun H locs S => ?_)
  refine W.widen (k := 8) (n := 1887) (Nat.le_of_ble_eq_true rfl) (Nat.le_of_ble_eq_true rfl) ?_
  obtain ⟨h9, e_h9, hf⟩ := ob hf
  refine r_put X S fp_X9_35 (fun _ => hnm) rfl rfl rfl e_h9 dX9_init_72 (fun H locs S => ?_)
  refine lv_aload_n hx hb dX9_init_75 rfl (lv_at hl 0 rfl) ?_
  refine lv_bipush (v := 20) hx hb dX9_init_76 (by decide) ?_
  refine r_newI (N := 20) X S ac_int (by decide) (by decide) (by decide) (Nat.le_of_ble_eq_true rfl) (Nat.le_of_ble_eq_true rfl) dX9_init_78 (fun H locs S => ?_)
  refine W.widen (k := 9) (n := 1907) (Nat.le_of_ble_eq_true rfl) (Nat.le_of_ble_eq_true rfl) ?_
  obtain ⟨h10, e_h10, hf⟩ := ob hf
  refine r_put X S fp_X9_38 (fun _ => hnm) rfl rfl rfl e_h10 dX9_init_80 (fun H locs S => ?_)
  refine lv_aload_n hx hb dX9_init_83 rfl (lv_at hl 0 rfl) ?_
  refine lv_bipush (v := 20) hx hb dX9_init_84 (by decide) ?_
  refine r_newI (N := 20) X S ac_int (by decide) (by decide) (by decide) (Nat.le_of_ble_eq_true rfl) (Nat.le_of_ble_eq_true rfl) dX9_init_86 (fun H locs S => ?_)
  refine W.widen (k := 10) (n := 1927) (Nat.le_of_ble_eq_true rfl) (Nat.le_of_ble_eq_true rfl) ?_
  obtain ⟨h11, e_h11, hf⟩ := ob hf
  refine r_put X S fp_X9_41 (fun _ => hnm) rfl rfl rfl e_h11 dX9_init_88 (fun H locs S => ?_)
  refine lv_aload_n hx hb dX9_init_91 rfl (lv_at hl 0 rfl) ?_
  refine lv_bipush (v := 64) hx hb dX9_init_92 (by decide) ?_
  refine r_newI (N := 64) X S ac_int (by decide) (by decide) (by decide) (Nat.le_of_ble_eq_true rfl) (Nat.le_of_ble_eq_true rfl) dX9_init_94 (fun H locs S => ?_)
  refine W.widen (k := 11) (n := 1991) (Nat.le_of_ble_eq_true rfl) (Nat.le_of_ble_eq_true rfl) ?_
  obtain ⟨h12, e_h12, hf⟩ := ob hf
  refine r_put X S fp_X9_44 (fun _ => hnm) rfl rfl rfl e_h12 dX9_init_96 (fun H locs S => ?_)
  refine lv_aload_n hx hb dX9_init_99 rfl (lv_at hl 0 rfl) ?_
  refine lv_iconst (v := 0) hx hb dX9_init_100 (by decide) ?_
  obtain ⟨h13, e_h13, hf⟩ := ob hf
  replace S := S.low
  refine r_callV X S hl.1 (As := [.int 0]) (rest := []) (c_X9_beginLots e_h13) my_X9_beginLots mv_X9_beginLots ml_X9_47 rfl (o_X9_beginLots e_h13) ⟨rfl, rfl, Nat.le_of_ble_eq_true rfl, Nat.le_of_ble_eq_true rfl⟩ rfl rfl (Nat.le_of_ble_eq_true rfl) dX9_init_101 ⟨Nat.le_of_ble_eq_true rfl, Nat.le_of_ble_eq_true rfl⟩ (fun H locs S => ?_)
  refine W.eq (g2 := F0 m 104 ls []) rfl ?_
  obtain rfl := Option.some.inj hf
  exact Z _ _ _ _ dX9_init_104 S
def f_X9_init (a0 : Nat) (h : HP) : Option (HP) := f_X9_init_e a0 h
set_option maxRecDepth 100000 in
theorem c_X9_init {l : Launch} {G : GT} {b : Nat} {a0 : Nat} {h : HP} {out : HP} (hf : f_X9_init a0 h = some out) : MT l G b True False yX9_init cX9_init 1 none RM_X9_init [.ref (b + a0)] h none out 11 1991 := by
  refine met_of (by decide) (Nat.le_of_ble_eq_true rfl) ?_
  intro p e s m below meth c ls X hnm S hl
  have hl : lv_has ls 1 [(0, .ref (b + a0))] := hl
  exact w_X9_init_e X hnm (z_v X) _ _ hf _ _ _ S hl
/-! RoomRingsModel.in(III)Z -/
abbrev RM_X9_in : Room := { frames := 0, cells := 0, slots := 0, locals := 0 }
def f_X9_in_b15  (s0 : Int32) (h : HP) : Option (Int32 × HP) :=
  if s0 = 0 ∨ s0 = 1 then some (s0, h) else none
set_option maxRecDepth 100000 in
set_option maxHeartbeats 4000000 in
theorem w_X9_in_b15 (X : CX RX9 cX9_in 3 (some .boolean) p s m args meth c G b) {out : Int32 × HP} (Z : ZZ p l e RM_X9_in s m args below meth c cX9_in G b False 0 0 Q out)  : ∀ (s0 : Int32) (h : HP), f_X9_in_b15  s0 h = some out → ∀ (H : Heap) (locs : List Loc) (ls : Array Slot), ST G b False s h H locs → lv_has ls 3 [] → W p l e RM_X9_in s m args below meth c H locs 0 0 Q (F0 m 15 ls [.int s0]) := by
  intro s0 h hf H locs ls S hl
  unfold f_X9_in_b15 at hf
  have hx := X.1
  have hb := X.2.1
  obtain ⟨hz, hf⟩ := ig hf
  obtain rfl := Option.some.inj hf
  exact Z _ _ _ _ dX9_in_15 S hz
def f_X9_in_b14   (h : HP) : Option (Int32 × HP) :=
  f_X9_in_b15  0 h
set_option maxRecDepth 100000 in
set_option maxHeartbeats 4000000 in
theorem w_X9_in_b14 (X : CX RX9 cX9_in 3 (some .boolean) p s m args meth c G b) {out : Int32 × HP} (Z : ZZ p l e RM_X9_in s m args below meth c cX9_in G b False 0 0 Q out)  : ∀  (h : HP), f_X9_in_b14   h = some out → ∀ (H : Heap) (locs : List Loc) (ls : Array Slot), ST G b False s h H locs → lv_has ls 3 [] → W p l e RM_X9_in s m args below meth c H locs 0 0 Q (F0 m 14 ls []) := by
  intro  h hf H locs ls S hl
  unfold f_X9_in_b14 at hf
  have hx := X.1
  have hb := X.2.1
  refine lv_iconst (v := 0) hx hb dX9_in_14 (by decide) ?_
  exact w_X9_in_b15 X Z  _ _ hf _ _ _ S (lv_sub hl [] rfl)
def f_X9_in_e  (x0 : Int32) (x1 : Int32) (x2 : Int32) (h : HP) : Option (Int32 × HP) :=
  if x0 < x1 then
    f_X9_in_b14   h
  else
    if x2 < x0 then
      f_X9_in_b14   h
    else
      f_X9_in_b15  1 h
set_option maxRecDepth 100000 in
set_option maxHeartbeats 4000000 in
theorem w_X9_in_e (X : CX RX9 cX9_in 3 (some .boolean) p s m args meth c G b) {out : Int32 × HP} (Z : ZZ p l e RM_X9_in s m args below meth c cX9_in G b False 0 0 Q out)  : ∀ (x0 : Int32) (x1 : Int32) (x2 : Int32) (h : HP), f_X9_in_e  x0 x1 x2 h = some out → ∀ (H : Heap) (locs : List Loc) (ls : Array Slot), ST G b False s h H locs → lv_has ls 3 [(0, .int x0), (1, .int x1), (2, .int x2)] → W p l e RM_X9_in s m args below meth c H locs 0 0 Q (F0 m 0 ls []) := by
  intro x0 x1 x2 h hf H locs ls S hl
  unfold f_X9_in_e at hf
  have hx := X.1
  have hb := X.2.1
  refine lv_iload_n hx hb dX9_in_0 rfl (lv_at hl 0 rfl) ?_
  refine lv_iload_n hx hb dX9_in_1 rfl (lv_at hl 1 rfl) ?_
  refine lv_icmp_lt (tgt := 14) hx hb dX9_in_2 (by decide) (fun hc => ?_) (fun hc => ?_)
  · replace hf := ip hf hc
    exact w_X9_in_b14 X Z  _ hf _ _ _ S (lv_sub hl [] rfl)
  · replace hf := im hf hc
    refine lv_iload_n hx hb dX9_in_5 rfl (lv_at hl 0 rfl) ?_
    refine lv_iload_n hx hb dX9_in_6 rfl (lv_at hl 2 rfl) ?_
    refine lv_icmp_gt (tgt := 14) hx hb dX9_in_7 (by decide) (fun hc => ?_) (fun hc => ?_)
    · replace hf := ip hf hc
      exact w_X9_in_b14 X Z  _ hf _ _ _ S (lv_sub hl [] rfl)
    · replace hf := im hf hc
      refine lv_iconst (v := 1) hx hb dX9_in_10 (by decide) ?_
      refine lv_goto (tgt := 15) hx hb dX9_in_11 (by decide) ?_
      exact w_X9_in_b15 X Z  _ _ hf _ _ _ S (lv_sub hl [] rfl)
def f_X9_in (x0 : Int32) (x1 : Int32) (x2 : Int32) (h : HP) : Option (Int32 × HP) := f_X9_in_e x0 x1 x2 h
set_option maxRecDepth 100000 in
theorem c_X9_in {l : Launch} {G : GT} {b : Nat} {x0 : Int32} {x1 : Int32} {x2 : Int32} {h : HP} {out : Int32 × HP} (hf : f_X9_in x0 x1 x2 h = some out) : MT l G b False False yX9_in cX9_in 3 (some .boolean) RM_X9_in [.int x0, .int x1, .int x2] h (some (.int out.1)) out.2 0 0 := by
  refine met_of (by decide) (Nat.le_of_ble_eq_true rfl) ?_
  intro p e s m below meth c ls X hnm S hl
  have hl : lv_has ls 3 [(0, .int x0), (1, .int x1), (2, .int x2)] := hl
  exact w_X9_in_e X (z_zz X) _ _ _ _ hf _ _ _ S hl
/-! RoomRingsModel.has(II)Z -/
abbrev RM_X9_has : Room := { frames := 0, cells := 0, slots := 0, locals := 0 }
def f_X9_has_b14  (s0 : Int32) (h : HP) : Option (Int32 × HP) :=
  if s0 = 0 ∨ s0 = 1 then some (s0, h) else none
set_option maxRecDepth 100000 in
set_option maxHeartbeats 4000000 in
theorem w_X9_has_b14 (X : CX RX9 cX9_has 2 (some .boolean) p s m args meth c G b) {out : Int32 × HP} (Z : ZZ p l e RM_X9_has s m args below meth c cX9_has G b False 0 0 Q out)  : ∀ (s0 : Int32) (h : HP), f_X9_has_b14  s0 h = some out → ∀ (H : Heap) (locs : List Loc) (ls : Array Slot), ST G b False s h H locs → lv_has ls 2 [] → W p l e RM_X9_has s m args below meth c H locs 0 0 Q (F0 m 14 ls [.int s0]) := by
  intro s0 h hf H locs ls S hl
  unfold f_X9_has_b14 at hf
  have hx := X.1
  have hb := X.2.1
  obtain ⟨hz, hf⟩ := ig hf
  obtain rfl := Option.some.inj hf
  exact Z _ _ _ _ dX9_has_14 S hz
def f_X9_has_e  (x0 : Int32) (x1 : Int32) (h : HP) : Option (Int32 × HP) :=
  if ((x0 >>> (x1 &&& 31)) &&& 1) = 1 then
    f_X9_has_b14  1 h
  else
    f_X9_has_b14  0 h
set_option maxRecDepth 100000 in
set_option maxHeartbeats 4000000 in
theorem w_X9_has_e (X : CX RX9 cX9_has 2 (some .boolean) p s m args meth c G b) {out : Int32 × HP} (Z : ZZ p l e RM_X9_has s m args below meth c cX9_has G b False 0 0 Q out)  : ∀ (x0 : Int32) (x1 : Int32) (h : HP), f_X9_has_e  x0 x1 h = some out → ∀ (H : Heap) (locs : List Loc) (ls : Array Slot), ST G b False s h H locs → lv_has ls 2 [(0, .int x0), (1, .int x1)] → W p l e RM_X9_has s m args below meth c H locs 0 0 Q (F0 m 0 ls []) := by
  intro x0 x1 h hf H locs ls S hl
  unfold f_X9_has_e at hf
  have hx := X.1
  have hb := X.2.1
  refine lv_iload_n hx hb dX9_has_0 rfl (lv_at hl 0 rfl) ?_
  refine lv_iload_n hx hb dX9_has_1 rfl (lv_at hl 1 rfl) ?_
  refine lv_ishr hx hb dX9_has_2 ?_
  refine lv_iconst (v := 1) hx hb dX9_has_3 (by decide) ?_
  refine lv_iand hx hb dX9_has_4 ?_
  refine lv_iconst (v := 1) hx hb dX9_has_5 (by decide) ?_
  refine lv_icmp_ne (tgt := 13) hx hb dX9_has_6 (by decide) (fun hc => ?_) (fun hc => ?_)
  · replace hf := im hf hc
    refine lv_iconst (v := 0) hx hb dX9_has_13 (by decide) ?_
    exact w_X9_has_b14 X Z  _ _ hf _ _ _ S (lv_sub hl [] rfl)
  · replace hf := ip hf hc
    refine lv_iconst (v := 1) hx hb dX9_has_9 (by decide) ?_
    refine lv_goto (tgt := 14) hx hb dX9_has_10 (by decide) ?_
    exact w_X9_has_b14 X Z  _ _ hf _ _ _ S (lv_sub hl [] rfl)
def f_X9_has (x0 : Int32) (x1 : Int32) (h : HP) : Option (Int32 × HP) := f_X9_has_e x0 x1 h
set_option maxRecDepth 100000 in
theorem c_X9_has {l : Launch} {G : GT} {b : Nat} {x0 : Int32} {x1 : Int32} {h : HP} {out : Int32 × HP} (hf : f_X9_has x0 x1 h = some out) : MT l G b False False yX9_has cX9_has 2 (some .boolean) RM_X9_has [.int x0, .int x1] h (some (.int out.1)) out.2 0 0 := by
  refine met_of (by decide) (Nat.le_of_ble_eq_true rfl) ?_
  intro p e s m below meth c ls X hnm S hl
  have hl : lv_has ls 2 [(0, .int x0), (1, .int x1)] := hl
  exact w_X9_has_e X (z_zz X) _ _ _ hf _ _ _ S hl
/-! RoomRingsModel.bits(I)I -/
abbrev RM_X9_bits : Room := { frames := 0, cells := 0, slots := 0, locals := 0 }
def f_X9_bits_b4 (K4 : Int32 → Int32 → Int32 → HP → Option (Int32 × HP)) (x0 : Int32) (x1 : Int32) (x2 : Int32) (h : HP) : Option (Int32 × HP) :=
  if 8 ≤ x2 then
    some (x1, h)
  else
    K4 x0 (x1 + ((x0 >>> (x2 &&& 31)) &&& 1)) (x2 + 1) h
set_option maxRecDepth 100000 in
set_option maxHeartbeats 4000000 in
theorem w_X9_bits_b4 (X : CX RX9 cX9_bits 3 (some .int) p s m args meth c G b) {out : Int32 × HP} (Z : ZI p l e RM_X9_bits s m args below meth c cX9_bits G b False 0 0 Q out) {K4 : Int32 → Int32 → Int32 → HP → Option (Int32 × HP)} (hK4 : ∀ (x0 : Int32) (x1 : Int32) (x2 : Int32) (h : HP), K4 x0 x1 x2 h = some out → ∀ (H : Heap) (locs : List Loc) (ls : Array Slot), ST G b False s h H locs → lv_has ls 3 [(0, .int x0), (1, .int x1), (2, .int x2)] → W p l e RM_X9_bits s m args below meth c H locs 0 0 Q (F0 m 4 ls [])) : ∀ (x0 : Int32) (x1 : Int32) (x2 : Int32) (h : HP), f_X9_bits_b4 K4 x0 x1 x2 h = some out → ∀ (H : Heap) (locs : List Loc) (ls : Array Slot), ST G b False s h H locs → lv_has ls 3 [(0, .int x0), (1, .int x1), (2, .int x2)] → W p l e RM_X9_bits s m args below meth c H locs 0 0 Q (F0 m 4 ls []) := by
  intro x0 x1 x2 h hf H locs ls S hl
  unfold f_X9_bits_b4 at hf
  have hx := X.1
  have hb := X.2.1
  refine lv_iload_n hx hb dX9_bits_4 rfl (lv_at hl 2 rfl) ?_
  refine lv_bipush (v := 8) hx hb dX9_bits_5 (by decide) ?_
  refine lv_icmp_ge (tgt := 24) hx hb dX9_bits_7 (by decide) (fun hc => ?_) (fun hc => ?_)
  · replace hf := ip hf hc
    refine lv_iload_n hx hb dX9_bits_24 rfl (lv_at hl 1 rfl) ?_
    obtain rfl := Option.some.inj hf
    exact Z _ _ _ _ dX9_bits_25 S
  · replace hf := im hf hc
    refine lv_iload_n hx hb dX9_bits_10 rfl (lv_at hl 1 rfl) ?_
    refine lv_iload_n hx hb dX9_bits_11 rfl (lv_at hl 0 rfl) ?_
    refine lv_iload_n hx hb dX9_bits_12 rfl (lv_at hl 2 rfl) ?_
    refine lv_ishr hx hb dX9_bits_13 ?_
    refine lv_iconst (v := 1) hx hb dX9_bits_14 (by decide) ?_
    refine lv_iand hx hb dX9_bits_15 ?_
    refine lv_iadd hx hb dX9_bits_16 ?_
    refine lv_istore_n (lv' := [(1, .int (x1 + ((x0 >>> (x2 &&& 31)) &&& 1))), (0, .int x0), (2, .int x2)]) hx hb dX9_bits_17 rfl hl (by decide) rfl (fun ls hl => ?_)
    refine lv_iinc (v := x2 + 1) (lv' := [(2, .int (x2 + 1)), (1, .int (x1 + ((x0 >>> (x2 &&& 31)) &&& 1))), (0, .int x0)]) hx hb dX9_bits_18 hl (k := 2) rfl rfl (by decide) rfl (fun ls hl => ?_)
    refine lv_goto (tgt := 4) hx hb dX9_bits_21 (by decide) ?_
    exact hK4 _ _ _ _ hf _ _ _ S (lv_sub hl [2, 1, 0] rfl)
def F_X9_bits_4  : Nat → Int32 → Int32 → Int32 → HP → Option (Int32 × HP)
  | 0 => fun _ _ _ _ => none
  | n + 1 => fun x0 x1 x2 h => f_X9_bits_b4 (F_X9_bits_4  n) x0 x1 x2 h
theorem wl_X9_bits_4 (X : CX RX9 cX9_bits 3 (some .int) p s m args meth c G b) {out : Int32 × HP} (Z : ZI p l e RM_X9_bits s m args below meth c cX9_bits G b False 0 0 Q out)  : ∀ (n : Nat) (x0 : Int32) (x1 : Int32) (x2 : Int32) (h : HP), F_X9_bits_4  n x0 x1 x2 h = some out → ∀ (H : Heap) (locs : List Loc) (ls : Array Slot), ST G b False s h H locs → lv_has ls 3 [(0, .int x0), (1, .int x1), (2, .int x2)] → W p l e RM_X9_bits s m args below meth c H locs 0 0 Q (F0 m 4 ls []) := by
  intro n
  induction n with
  | zero => intro x0 x1 x2 h hf; exact nn hf
  | succ n ih => exact w_X9_bits_b4 X Z ih
def f_X9_bits_e  (x0 : Int32) (h : HP) : Option (Int32 × HP) :=
  F_X9_bits_4  FU x0 0 0 h
set_option maxRecDepth 100000 in
set_option maxHeartbeats 4000000 in
theorem w_X9_bits_e (X : CX RX9 cX9_bits 3 (some .int) p s m args meth c G b) {out : Int32 × HP} (Z : ZI p l e RM_X9_bits s m args below meth c cX9_bits G b False 0 0 Q out)  : ∀ (x0 : Int32) (h : HP), f_X9_bits_e  x0 h = some out → ∀ (H : Heap) (locs : List Loc) (ls : Array Slot), ST G b False s h H locs → lv_has ls 3 [(0, .int x0)] → W p l e RM_X9_bits s m args below meth c H locs 0 0 Q (F0 m 0 ls []) := by
  intro x0 h hf H locs ls S hl
  unfold f_X9_bits_e at hf
  have hx := X.1
  have hb := X.2.1
  refine lv_iconst (v := 0) hx hb dX9_bits_0 (by decide) ?_
  refine lv_istore_n (lv' := [(1, .int 0), (0, .int x0)]) hx hb dX9_bits_1 rfl hl (by decide) rfl (fun ls hl => ?_)
  refine lv_iconst (v := 0) hx hb dX9_bits_2 (by decide) ?_
  refine lv_istore_n (lv' := [(2, .int 0), (1, .int 0), (0, .int x0)]) hx hb dX9_bits_3 rfl hl (by decide) rfl (fun ls hl => ?_)
  exact wl_X9_bits_4 X Z  FU _ _ _ _ hf _ _ _ S (lv_sub hl [2, 1, 0] rfl)
def f_X9_bits (x0 : Int32) (h : HP) : Option (Int32 × HP) := f_X9_bits_e x0 h
set_option maxRecDepth 100000 in
theorem c_X9_bits {l : Launch} {G : GT} {b : Nat} {x0 : Int32} {h : HP} {out : Int32 × HP} (hf : f_X9_bits x0 h = some out) : MT l G b False False yX9_bits cX9_bits 3 (some .int) RM_X9_bits [.int x0] h (some (.int out.1)) out.2 0 0 := by
  refine met_of (by decide) (Nat.le_of_ble_eq_true rfl) ?_
  intro p e s m below meth c ls X hnm S hl
  have hl : lv_has ls 3 [(0, .int x0)] := hl
  exact w_X9_bits_e X (z_i X) _ _ hf _ _ _ S hl
/-! RoomRingsModel.copyRow(II)V -/
abbrev RM_X9_copyRow : Room := { frames := 0, cells := 0, slots := 0, locals := 0 }
def f_X9_copyRow_b2 (K2 : Nat → Int32 → Int32 → Int32 → HP → Option (HP)) (a0 : Nat) (x1 : Int32) (x2 : Int32) (x3 : Int32) (h : HP) : Option (HP) :=
  if 67 ≤ x3 then
    some h
  else
    (gR h a0 9 0).bind fun r1 =>
    (gR h a0 9 0).bind fun r2 =>
    (ald h r2 (x1 + x3)).bind fun v3 =>
    (ast h r1 (x2 + x3) v3).bind fun h4 =>
    K2 a0 x1 x2 (x3 + 1) h4
set_option maxRecDepth 100000 in
set_option maxHeartbeats 4000000 in
theorem w_X9_copyRow_b2 (X : CX RX9 cX9_copyRow 4 none p s m args meth c G b) {out : HP} (Z : ZV p l e RM_X9_copyRow s m args below meth c cX9_copyRow G b False 0 0 Q out) {K2 : Nat → Int32 → Int32 → Int32 → HP → Option (HP)} (hK2 : ∀ (a0 : Nat) (x1 : Int32) (x2 : Int32) (x3 : Int32) (h : HP), K2 a0 x1 x2 x3 h = some out → ∀ (H : Heap) (locs : List Loc) (ls : Array Slot), ST G b False s h H locs → lv_has ls 4 [(0, .ref (b + a0)), (1, .int x1), (2, .int x2), (3, .int x3)] → W p l e RM_X9_copyRow s m args below meth c H locs 0 0 Q (F0 m 2 ls [])) : ∀ (a0 : Nat) (x1 : Int32) (x2 : Int32) (x3 : Int32) (h : HP), f_X9_copyRow_b2 K2 a0 x1 x2 x3 h = some out → ∀ (H : Heap) (locs : List Loc) (ls : Array Slot), ST G b False s h H locs → lv_has ls 4 [(0, .ref (b + a0)), (1, .int x1), (2, .int x2), (3, .int x3)] → W p l e RM_X9_copyRow s m args below meth c H locs 0 0 Q (F0 m 2 ls []) := by
  intro a0 x1 x2 x3 h hf H locs ls S hl
  unfold f_X9_copyRow_b2 at hf
  have hx := X.1
  have hb := X.2.1
  refine lv_iload_n hx hb dX9_copyRow_2 rfl (lv_at hl 3 rfl) ?_
  refine lv_bipush (v := 67) hx hb dX9_copyRow_3 (by decide) ?_
  refine lv_icmp_ge (tgt := 30) hx hb dX9_copyRow_5 (by decide) (fun hc => ?_) (fun hc => ?_)
  · replace hf := ip hf hc
    obtain rfl := Option.some.inj hf
    exact Z _ _ _ _ dX9_copyRow_30 S
  · replace hf := im hf hc
    refine lv_aload_n hx hb dX9_copyRow_8 rfl (lv_at hl 0 rfl) ?_
    obtain ⟨r1, e_r1, hf⟩ := ob hf
    refine r_getR X S fl_X9_7 e_r1 dX9_copyRow_9 ?_
    refine lv_iload_n hx hb dX9_copyRow_12 rfl (lv_at hl 2 rfl) ?_
    refine lv_iload_n hx hb dX9_copyRow_13 rfl (lv_at hl 3 rfl) ?_
    refine lv_iadd hx hb dX9_copyRow_14 ?_
    refine lv_aload_n hx hb dX9_copyRow_15 rfl (lv_at hl 0 rfl) ?_
    obtain ⟨r2, e_r2, hf⟩ := ob hf
    refine r_getR X S fl_X9_7 e_r2 dX9_copyRow_16 ?_
    refine lv_iload_n hx hb dX9_copyRow_19 rfl (lv_at hl 1 rfl) ?_
    refine lv_iload_n hx hb dX9_copyRow_20 rfl (lv_at hl 3 rfl) ?_
    refine lv_iadd hx hb dX9_copyRow_21 ?_
    obtain ⟨v3, e_v3, hf⟩ := ob hf
    refine r_ald X S e_v3 dX9_copyRow_22 ?_
    obtain ⟨h4, e_h4, hf⟩ := ob hf
    refine r_ast X S e_h4 dX9_copyRow_23 (fun H locs S => ?_)
    refine lv_iinc (v := x3 + 1) (lv' := [(3, .int (x3 + 1)), (0, .ref (b + a0)), (1, .int x1), (2, .int x2)]) hx hb dX9_copyRow_24 hl (k := 3) rfl rfl (by decide) rfl (fun ls hl => ?_)
    refine lv_goto (tgt := 2) hx hb dX9_copyRow_27 (by decide) ?_
    exact hK2 _ _ _ _ _ hf _ _ _ S (lv_sub hl [1, 2, 3, 0] rfl)
def F_X9_copyRow_2  : Nat → Nat → Int32 → Int32 → Int32 → HP → Option (HP)
  | 0 => fun _ _ _ _ _ => none
  | n + 1 => fun a0 x1 x2 x3 h => f_X9_copyRow_b2 (F_X9_copyRow_2  n) a0 x1 x2 x3 h
theorem wl_X9_copyRow_2 (X : CX RX9 cX9_copyRow 4 none p s m args meth c G b) {out : HP} (Z : ZV p l e RM_X9_copyRow s m args below meth c cX9_copyRow G b False 0 0 Q out)  : ∀ (n : Nat) (a0 : Nat) (x1 : Int32) (x2 : Int32) (x3 : Int32) (h : HP), F_X9_copyRow_2  n a0 x1 x2 x3 h = some out → ∀ (H : Heap) (locs : List Loc) (ls : Array Slot), ST G b False s h H locs → lv_has ls 4 [(0, .ref (b + a0)), (1, .int x1), (2, .int x2), (3, .int x3)] → W p l e RM_X9_copyRow s m args below meth c H locs 0 0 Q (F0 m 2 ls []) := by
  intro n
  induction n with
  | zero => intro a0 x1 x2 x3 h hf; exact nn hf
  | succ n ih => exact w_X9_copyRow_b2 X Z ih
def f_X9_copyRow_e  (a0 : Nat) (x1 : Int32) (x2 : Int32) (h : HP) : Option (HP) :=
  F_X9_copyRow_2  FU a0 x1 x2 0 h
set_option maxRecDepth 100000 in
set_option maxHeartbeats 4000000 in
theorem w_X9_copyRow_e (X : CX RX9 cX9_copyRow 4 none p s m args meth c G b) {out : HP} (Z : ZV p l e RM_X9_copyRow s m args below meth c cX9_copyRow G b False 0 0 Q out)  : ∀ (a0 : Nat) (x1 : Int32) (x2 : Int32) (h : HP), f_X9_copyRow_e  a0 x1 x2 h = some out → ∀ (H : Heap) (locs : List Loc) (ls : Array Slot), ST G b False s h H locs → lv_has ls 4 [(0, .ref (b + a0)), (1, .int x1), (2, .int x2)] → W p l e RM_X9_copyRow s m args below meth c H locs 0 0 Q (F0 m 0 ls []) := by
  intro a0 x1 x2 h hf H locs ls S hl
  unfold f_X9_copyRow_e at hf
  have hx := X.1
  have hb := X.2.1
  refine lv_iconst (v := 0) hx hb dX9_copyRow_0 (by decide) ?_
  refine lv_istore_n (lv' := [(3, .int 0), (0, .ref (b + a0)), (1, .int x1), (2, .int x2)]) hx hb dX9_copyRow_1 rfl hl (by decide) rfl (fun ls hl => ?_)
  exact wl_X9_copyRow_2 X Z  FU _ _ _ _ _ hf _ _ _ S (lv_sub hl [1, 2, 3, 0] rfl)
def f_X9_copyRow (a0 : Nat) (x1 : Int32) (x2 : Int32) (h : HP) : Option (HP) := ck h a0 9 (f_X9_copyRow_e a0 x1 x2 h)
theorem o_X9_copyRow {a0 : Nat} {x1 : Int32} {x2 : Int32} {h : HP} {out : HP} (hf : f_X9_copyRow a0 x1 x2 h = some out) : ∃ fs, h[a0]? = some (.inl (9, fs)) := (ck_spec hf).1
set_option maxRecDepth 100000 in
theorem c_X9_copyRow {l : Launch} {G : GT} {b : Nat} {a0 : Nat} {x1 : Int32} {x2 : Int32} {h : HP} {out : HP} (hf : f_X9_copyRow a0 x1 x2 h = some out) : MT l G b False False yX9_copyRow cX9_copyRow 4 none RM_X9_copyRow [.ref (b + a0), .int x1, .int x2] h none out 0 0 := by
  refine met_of (by decide) (Nat.le_of_ble_eq_true rfl) ?_
  intro p e s m below meth c ls X hnm S hl
  have hl : lv_has ls 4 [(0, .ref (b + a0)), (1, .int x1), (2, .int x2)] := hl
  replace hf := (ck_spec hf).2
  exact w_X9_copyRow_e X (z_v X) _ _ _ _ hf _ _ _ S hl
/-! RoomRingsModel.isPerson(I)Z -/
abbrev RM_X9_isPerson : Room := { frames := 1, cells := 0, slots := 0, locals := 22 }
def f_X9_isPerson_e  (a0 : Nat) (x1 : Int32) (h : HP) : Option (Int32 × HP) :=
  (gI h a0 9 2).bind fun v1 =>
  (f_X9_in x1 0 (v1 - 1) h).bind fun q2 =>
  if q2.1 = 0 ∨ q2.1 = 1 then some (q2.1, q2.2) else none
set_option maxRecDepth 100000 in
set_option maxHeartbeats 4000000 in
theorem w_X9_isPerson_e (X : CX RX9 cX9_isPerson 2 (some .boolean) p s m args meth c G b) {out : Int32 × HP} (Z : ZZ p l e RM_X9_isPerson s m args below meth c cX9_isPerson G b False 0 0 Q out)  : ∀ (a0 : Nat) (x1 : Int32) (h : HP), f_X9_isPerson_e  a0 x1 h = some out → ∀ (H : Heap) (locs : List Loc) (ls : Array Slot), ST G b False s h H locs → lv_has ls 2 [(0, .ref (b + a0)), (1, .int x1)] → W p l e RM_X9_isPerson s m args below meth c H locs 0 0 Q (F0 m 0 ls []) := by
  intro a0 x1 h hf H locs ls S hl
  unfold f_X9_isPerson_e at hf
  have hx := X.1
  have hb := X.2.1
  refine lv_iload_n hx hb dX9_isPerson_0 rfl (lv_at hl 1 rfl) ?_
  refine lv_iconst (v := 0) hx hb dX9_isPerson_1 (by decide) ?_
  refine lv_aload_n hx hb dX9_isPerson_2 rfl (lv_at hl 0 rfl) ?_
  obtain ⟨v1, e_v1, hf⟩ := ob hf
  refine r_getI X S fl_X9_51 e_v1 dX9_isPerson_3 ?_
  refine lv_iconst (v := 1) hx hb dX9_isPerson_6 (by decide) ?_
  refine lv_isub hx hb dX9_isPerson_7 ?_
  obtain ⟨q2, e_q2, hf⟩ := ob hf
  refine r_callS X S hl.1 (As := [.int x1, .int 0, .int (v1 - 1)]) (rest := []) (c_X9_in e_q2) my_X9_in ms_X9_in ml_X9_54 ⟨rfl, rfl, Nat.le_of_ble_eq_true rfl, Nat.le_of_ble_eq_true rfl⟩ rfl rfl (Nat.le_of_ble_eq_true rfl) dX9_isPerson_8 ⟨Nat.le_of_ble_eq_true rfl, Nat.le_of_ble_eq_true rfl⟩ (fun H locs S => ?_)
  refine W.eq (g2 := F0 m 11 ls [.int q2.1]) rfl ?_
  obtain ⟨hz, hf⟩ := ig hf
  obtain rfl := Option.some.inj hf
  exact Z _ _ _ _ dX9_isPerson_11 S hz
def f_X9_isPerson (a0 : Nat) (x1 : Int32) (h : HP) : Option (Int32 × HP) := ck h a0 9 (f_X9_isPerson_e a0 x1 h)
theorem o_X9_isPerson {a0 : Nat} {x1 : Int32} {h : HP} {out : Int32 × HP} (hf : f_X9_isPerson a0 x1 h = some out) : ∃ fs, h[a0]? = some (.inl (9, fs)) := (ck_spec hf).1
set_option maxRecDepth 100000 in
theorem c_X9_isPerson {l : Launch} {G : GT} {b : Nat} {a0 : Nat} {x1 : Int32} {h : HP} {out : Int32 × HP} (hf : f_X9_isPerson a0 x1 h = some out) : MT l G b False False yX9_isPerson cX9_isPerson 2 (some .boolean) RM_X9_isPerson [.ref (b + a0), .int x1] h (some (.int out.1)) out.2 0 0 := by
  refine met_of (by decide) (Nat.le_of_ble_eq_true rfl) ?_
  intro p e s m below meth c ls X hnm S hl
  have hl : lv_has ls 2 [(0, .ref (b + a0)), (1, .int x1)] := hl
  replace hf := (ck_spec hf).2
  exact w_X9_isPerson_e X (z_zz X) _ _ _ hf _ _ _ S hl
/-! RoomRingsModel.isRoom(I)Z -/
abbrev RM_X9_isRoom : Room := { frames := 1, cells := 0, slots := 0, locals := 22 }
def f_X9_isRoom_e  (a0 : Nat) (x1 : Int32) (h : HP) : Option (Int32 × HP) :=
  (gI h a0 9 1).bind fun v1 =>
  (f_X9_in x1 0 (v1 - 1) h).bind fun q2 =>
  if q2.1 = 0 ∨ q2.1 = 1 then some (q2.1, q2.2) else none
set_option maxRecDepth 100000 in
set_option maxHeartbeats 4000000 in
theorem w_X9_isRoom_e (X : CX RX9 cX9_isRoom 2 (some .boolean) p s m args meth c G b) {out : Int32 × HP} (Z : ZZ p l e RM_X9_isRoom s m args below meth c cX9_isRoom G b False 0 0 Q out)  : ∀ (a0 : Nat) (x1 : Int32) (h : HP), f_X9_isRoom_e  a0 x1 h = some out → ∀ (H : Heap) (locs : List Loc) (ls : Array Slot), ST G b False s h H locs → lv_has ls 2 [(0, .ref (b + a0)), (1, .int x1)] → W p l e RM_X9_isRoom s m args below meth c H locs 0 0 Q (F0 m 0 ls []) := by
  intro a0 x1 h hf H locs ls S hl
  unfold f_X9_isRoom_e at hf
  have hx := X.1
  have hb := X.2.1
  refine lv_iload_n hx hb dX9_isRoom_0 rfl (lv_at hl 1 rfl) ?_
  refine lv_iconst (v := 0) hx hb dX9_isRoom_1 (by decide) ?_
  refine lv_aload_n hx hb dX9_isRoom_2 rfl (lv_at hl 0 rfl) ?_
  obtain ⟨v1, e_v1, hf⟩ := ob hf
  refine r_getI X S fl_X9_58 e_v1 dX9_isRoom_3 ?_
  refine lv_iconst (v := 1) hx hb dX9_isRoom_6 (by decide) ?_
  refine lv_isub hx hb dX9_isRoom_7 ?_
  obtain ⟨q2, e_q2, hf⟩ := ob hf
  refine r_callS X S hl.1 (As := [.int x1, .int 0, .int (v1 - 1)]) (rest := []) (c_X9_in e_q2) my_X9_in ms_X9_in ml_X9_54 ⟨rfl, rfl, Nat.le_of_ble_eq_true rfl, Nat.le_of_ble_eq_true rfl⟩ rfl rfl (Nat.le_of_ble_eq_true rfl) dX9_isRoom_8 ⟨Nat.le_of_ble_eq_true rfl, Nat.le_of_ble_eq_true rfl⟩ (fun H locs S => ?_)
  refine W.eq (g2 := F0 m 11 ls [.int q2.1]) rfl ?_
  obtain ⟨hz, hf⟩ := ig hf
  obtain rfl := Option.some.inj hf
  exact Z _ _ _ _ dX9_isRoom_11 S hz
def f_X9_isRoom (a0 : Nat) (x1 : Int32) (h : HP) : Option (Int32 × HP) := ck h a0 9 (f_X9_isRoom_e a0 x1 h)
theorem o_X9_isRoom {a0 : Nat} {x1 : Int32} {h : HP} {out : Int32 × HP} (hf : f_X9_isRoom a0 x1 h = some out) : ∃ fs, h[a0]? = some (.inl (9, fs)) := (ck_spec hf).1
set_option maxRecDepth 100000 in
theorem c_X9_isRoom {l : Launch} {G : GT} {b : Nat} {a0 : Nat} {x1 : Int32} {h : HP} {out : Int32 × HP} (hf : f_X9_isRoom a0 x1 h = some out) : MT l G b False False yX9_isRoom cX9_isRoom 2 (some .boolean) RM_X9_isRoom [.ref (b + a0), .int x1] h (some (.int out.1)) out.2 0 0 := by
  refine met_of (by decide) (Nat.le_of_ble_eq_true rfl) ?_
  intro p e s m below meth c ls X hnm S hl
  have hl : lv_has ls 2 [(0, .ref (b + a0)), (1, .int x1)] := hl
  replace hf := (ck_spec hf).2
  exact w_X9_isRoom_e X (z_zz X) _ _ _ hf _ _ _ S hl
/-! RoomRingsModel.feed(I)I -/
abbrev RM_X9_feed : Room := { frames := 1, cells := 0, slots := 0, locals := 22 }
def f_X9_feed_e  (a0 : Nat) (x1 : Int32) (h : HP) : Option (Int32 × HP) :=
  (f_X9_in x1 0 255 h).bind fun q1 =>
  if q1.1 = 0 then
    some ((-1000000002), q1.2)
  else
    (gI q1.2 a0 9 6).bind fun v2 =>
    if v2 = 240 then
      some ((-1000000004), q1.2)
    else
      (gR q1.2 a0 9 5).bind fun r3 =>
      (gI q1.2 a0 9 6).bind fun v4 =>
      (ast q1.2 r3 v4 x1).bind fun h5 =>
      (gI h5 a0 9 6).bind fun v6 =>
      (pI h5 a0 9 6 (v6 + 1)).bind fun h7 =>
      (gI h7 a0 9 6).bind fun v8 =>
      some (v8, h7)
set_option maxRecDepth 100000 in
set_option maxHeartbeats 4000000 in
theorem w_X9_feed_e (X : CX RX9 cX9_feed 2 (some .int) p s m args meth c G b) {out : Int32 × HP} (Z : ZI p l e RM_X9_feed s m args below meth c cX9_feed G b False 0 0 Q out)  : ∀ (a0 : Nat) (x1 : Int32) (h : HP), f_X9_feed_e  a0 x1 h = some out → ∀ (H : Heap) (locs : List Loc) (ls : Array Slot), ST G b False s h H locs → lv_has ls 2 [(0, .ref (b + a0)), (1, .int x1)] → W p l e RM_X9_feed s m args below meth c H locs 0 0 Q (F0 m 0 ls []) := by
  intro a0 x1 h hf H locs ls S hl
  unfold f_X9_feed_e at hf
  have hx := X.1
  have hb := X.2.1
  refine lv_iload_n hx hb dX9_feed_0 rfl (lv_at hl 1 rfl) ?_
  refine lv_iconst (v := 0) hx hb dX9_feed_1 (by decide) ?_
  refine lv_sipush (v := 255) hx hb dX9_feed_2 (by decide) ?_
  obtain ⟨q1, e_q1, hf⟩ := ob hf
  refine r_callS X S hl.1 (As := [.int x1, .int 0, .int 255]) (rest := []) (c_X9_in e_q1) my_X9_in ms_X9_in ml_X9_54 ⟨rfl, rfl, Nat.le_of_ble_eq_true rfl, Nat.le_of_ble_eq_true rfl⟩ rfl rfl (Nat.le_of_ble_eq_true rfl) dX9_feed_5 ⟨Nat.le_of_ble_eq_true rfl, Nat.le_of_ble_eq_true rfl⟩ (fun H locs S => ?_)
  refine W.eq (g2 := F0 m 8 ls [.int q1.1]) rfl ?_
  refine lv_if_ne (tgt := 14) hx hb dX9_feed_8 (by decide) (fun hc => ?_) (fun hc => ?_)
  · replace hf := im hf hc
    refine lv_aload_n hx hb dX9_feed_14 rfl (lv_at hl 0 rfl) ?_
    obtain ⟨v2, e_v2, hf⟩ := ob hf
    refine r_getI X S fl_X9_62 e_v2 dX9_feed_15 ?_
    refine lv_sipush (v := 240) hx hb dX9_feed_18 (by decide) ?_
    refine lv_icmp_ne (tgt := 27) hx hb dX9_feed_21 (by decide) (fun hc => ?_) (fun hc => ?_)
    · replace hf := im hf hc
      refine lv_aload_n hx hb dX9_feed_27 rfl (lv_at hl 0 rfl) ?_
      obtain ⟨r3, e_r3, hf⟩ := ob hf
      refine r_getR X S fl_X9_13 e_r3 dX9_feed_28 ?_
      refine lv_aload_n hx hb dX9_feed_31 rfl (lv_at hl 0 rfl) ?_
      obtain ⟨v4, e_v4, hf⟩ := ob hf
      refine r_getI X S fl_X9_62 e_v4 dX9_feed_32 ?_
      refine lv_iload_n hx hb dX9_feed_35 rfl (lv_at hl 1 rfl) ?_
      obtain ⟨h5, e_h5, hf⟩ := ob hf
      refine r_ast X S e_h5 dX9_feed_36 (fun H locs S => ?_)
      refine lv_aload_n hx hb dX9_feed_37 rfl (lv_at hl 0 rfl) ?_
      refine lv_dup hx hb dX9_feed_38 rfl ?_
      obtain ⟨v6, e_v6, hf⟩ := ob hf
      refine r_getI X S fl_X9_62 e_v6 dX9_feed_39 ?_
      refine lv_iconst (v := 1) hx hb dX9_feed_42 (by decide) ?_
      refine lv_iadd hx hb dX9_feed_43 ?_
      obtain ⟨h7, e_h7, hf⟩ := ob hf
      refine r_put X S fp_X9_62 (fun h9 => by cases h9) rfl rfl rfl e_h7 dX9_feed_44 (fun H locs S => ?_)
      refine lv_aload_n hx hb dX9_feed_47 rfl (lv_at hl 0 rfl) ?_
      obtain ⟨v8, e_v8, hf⟩ := ob hf
      refine r_getI X S fl_X9_62 e_v8 dX9_feed_48 ?_
      obtain rfl := Option.some.inj hf
      exact Z _ _ _ _ dX9_feed_51 S
    · replace hf := ip hf hc
      refine lv_ldc (v := (-1000000004)) hx hb X.2.2.2.1 (X.2.2.2.2.1 _ cn_X9_65) dX9_feed_24 ?_
      obtain rfl := Option.some.inj hf
      exact Z _ _ _ _ dX9_feed_26 S
  · replace hf := ip hf hc
    refine lv_ldc (v := (-1000000002)) hx hb X.2.2.2.1 (X.2.2.2.2.1 _ cn_X9_61) dX9_feed_11 ?_
    obtain rfl := Option.some.inj hf
    exact Z _ _ _ _ dX9_feed_13 S
def f_X9_feed (a0 : Nat) (x1 : Int32) (h : HP) : Option (Int32 × HP) := ck h a0 9 (f_X9_feed_e a0 x1 h)
theorem o_X9_feed {a0 : Nat} {x1 : Int32} {h : HP} {out : Int32 × HP} (hf : f_X9_feed a0 x1 h = some out) : ∃ fs, h[a0]? = some (.inl (9, fs)) := (ck_spec hf).1
set_option maxRecDepth 100000 in
theorem c_X9_feed {l : Launch} {G : GT} {b : Nat} {a0 : Nat} {x1 : Int32} {h : HP} {out : Int32 × HP} (hf : f_X9_feed a0 x1 h = some out) : MT l G b False False yX9_feed cX9_feed 2 (some .int) RM_X9_feed [.ref (b + a0), .int x1] h (some (.int out.1)) out.2 0 0 := by
  refine met_of (by decide) (Nat.le_of_ble_eq_true rfl) ?_
  intro p e s m below meth c ls X hnm S hl
  have hl : lv_has ls 2 [(0, .ref (b + a0)), (1, .int x1)] := hl
  replace hf := (ck_spec hf).2
  exact w_X9_feed_e X (z_i X) _ _ _ hf _ _ _ S hl
/-! RoomRingsModel.fine()Z -/
abbrev RM_X9_fine : Room := { frames := 0, cells := 0, slots := 0, locals := 0 }
def f_X9_fine_b12  (s0 : Int32) (h : HP) : Option (Int32 × HP) :=
  if s0 = 0 ∨ s0 = 1 then some (s0, h) else none
set_option maxRecDepth 100000 in
set_option maxHeartbeats 4000000 in
theorem w_X9_fine_b12 (X : CX RX9 cX9_fine 1 (some .boolean) p s m args meth c G b) {out : Int32 × HP} (Z : ZZ p l e RM_X9_fine s m args below meth c cX9_fine G b False 0 0 Q out)  : ∀ (s0 : Int32) (h : HP), f_X9_fine_b12  s0 h = some out → ∀ (H : Heap) (locs : List Loc) (ls : Array Slot), ST G b False s h H locs → lv_has ls 1 [] → W p l e RM_X9_fine s m args below meth c H locs 0 0 Q (F0 m 12 ls [.int s0]) := by
  intro s0 h hf H locs ls S hl
  unfold f_X9_fine_b12 at hf
  have hx := X.1
  have hb := X.2.1
  obtain ⟨hz, hf⟩ := ig hf
  obtain rfl := Option.some.inj hf
  exact Z _ _ _ _ dX9_fine_12 S hz
def f_X9_fine_e  (a0 : Nat) (h : HP) : Option (Int32 × HP) :=
  (gI h a0 9 20).bind fun v1 =>
  if v1 = 0 then
    f_X9_fine_b12  1 h
  else
    f_X9_fine_b12  0 h
set_option maxRecDepth 100000 in
set_option maxHeartbeats 4000000 in
theorem w_X9_fine_e (X : CX RX9 cX9_fine 1 (some .boolean) p s m args meth c G b) {out : Int32 × HP} (Z : ZZ p l e RM_X9_fine s m args below meth c cX9_fine G b False 0 0 Q out)  : ∀ (a0 : Nat) (h : HP), f_X9_fine_e  a0 h = some out → ∀ (H : Heap) (locs : List Loc) (ls : Array Slot), ST G b False s h H locs → lv_has ls 1 [(0, .ref (b + a0))] → W p l e RM_X9_fine s m args below meth c H locs 0 0 Q (F0 m 0 ls []) := by
  intro a0 h hf H locs ls S hl
  unfold f_X9_fine_e at hf
  have hx := X.1
  have hb := X.2.1
  refine lv_aload_n hx hb dX9_fine_0 rfl (lv_at hl 0 rfl) ?_
  obtain ⟨v1, e_v1, hf⟩ := ob hf
  refine r_getI X S fl_X9_66 e_v1 dX9_fine_1 ?_
  refine lv_if_ne (tgt := 11) hx hb dX9_fine_4 (by decide) (fun hc => ?_) (fun hc => ?_)
  · replace hf := im hf hc
    refine lv_iconst (v := 0) hx hb dX9_fine_11 (by decide) ?_
    exact w_X9_fine_b12 X Z  _ _ hf _ _ _ S (lv_sub hl [] rfl)
  · replace hf := ip hf hc
    refine lv_iconst (v := 1) hx hb dX9_fine_7 (by decide) ?_
    refine lv_goto (tgt := 12) hx hb dX9_fine_8 (by decide) ?_
    exact w_X9_fine_b12 X Z  _ _ hf _ _ _ S (lv_sub hl [] rfl)
def f_X9_fine (a0 : Nat) (h : HP) : Option (Int32 × HP) := ck h a0 9 (f_X9_fine_e a0 h)
theorem o_X9_fine {a0 : Nat} {h : HP} {out : Int32 × HP} (hf : f_X9_fine a0 h = some out) : ∃ fs, h[a0]? = some (.inl (9, fs)) := (ck_spec hf).1
set_option maxRecDepth 100000 in
theorem c_X9_fine {l : Launch} {G : GT} {b : Nat} {a0 : Nat} {h : HP} {out : Int32 × HP} (hf : f_X9_fine a0 h = some out) : MT l G b False False yX9_fine cX9_fine 1 (some .boolean) RM_X9_fine [.ref (b + a0)] h (some (.int out.1)) out.2 0 0 := by
  refine met_of (by decide) (Nat.le_of_ble_eq_true rfl) ?_
  intro p e s m below meth c ls X hnm S hl
  have hl : lv_has ls 1 [(0, .ref (b + a0))] := hl
  replace hf := (ck_spec hf).2
  exact w_X9_fine_e X (z_zz X) _ _ hf _ _ _ S hl
/-! RoomRingsModel.fail(II)V -/
abbrev RM_X9_fail : Room := { frames := 1, cells := 0, slots := 0, locals := 20 }
def f_X9_fail_b17   (h : HP) : Option (HP) :=
  some h
set_option maxRecDepth 100000 in
set_option maxHeartbeats 4000000 in
theorem w_X9_fail_b17 (X : CX RX9 cX9_fail 3 none p s m args meth c G b) {out : HP} (Z : ZV p l e RM_X9_fail s m args below meth c cX9_fail G b False 0 0 Q out)  : ∀  (h : HP), f_X9_fail_b17   h = some out → ∀ (H : Heap) (locs : List Loc) (ls : Array Slot), ST G b False s h H locs → lv_has ls 3 [] → W p l e RM_X9_fail s m args below meth c H locs 0 0 Q (F0 m 17 ls []) := by
  intro  h hf H locs ls S hl
  unfold f_X9_fail_b17 at hf
  have hx := X.1
  have hb := X.2.1
  obtain rfl := Option.some.inj hf
  exact Z _ _ _ _ dX9_fail_17 S
def f_X9_fail_e  (a0 : Nat) (x1 : Int32) (x2 : Int32) (h : HP) : Option (HP) :=
  (f_X9_fine a0 h).bind fun q1 =>
  if q1.1 = 0 then
    f_X9_fail_b17   q1.2
  else
    (pI q1.2 a0 9 20 x1).bind fun h2 =>
    (pI h2 a0 9 21 x2).bind fun h3 =>
    f_X9_fail_b17   h3
set_option maxRecDepth 100000 in
set_option maxHeartbeats 4000000 in
theorem w_X9_fail_e (X : CX RX9 cX9_fail 3 none p s m args meth c G b) {out : HP} (Z : ZV p l e RM_X9_fail s m args below meth c cX9_fail G b False 0 0 Q out)  : ∀ (a0 : Nat) (x1 : Int32) (x2 : Int32) (h : HP), f_X9_fail_e  a0 x1 x2 h = some out → ∀ (H : Heap) (locs : List Loc) (ls : Array Slot), ST G b False s h H locs → lv_has ls 3 [(0, .ref (b + a0)), (1, .int x1), (2, .int x2)] → W p l e RM_X9_fail s m args below meth c H locs 0 0 Q (F0 m 0 ls []) := by
  intro a0 x1 x2 h hf H locs ls S hl
  unfold f_X9_fail_e at hf
  have hx := X.1
  have hb := X.2.1
  refine lv_aload_n hx hb dX9_fail_0 rfl (lv_at hl 0 rfl) ?_
  obtain ⟨q1, e_q1, hf⟩ := ob hf
  refine r_callV X S hl.1 (As := []) (rest := []) (c_X9_fine e_q1) my_X9_fine mv_X9_fine ml_X9_69 rfl (o_X9_fine e_q1) ⟨rfl, rfl, Nat.le_of_ble_eq_true rfl, Nat.le_of_ble_eq_true rfl⟩ rfl rfl (Nat.le_of_ble_eq_true rfl) dX9_fail_1 ⟨Nat.le_of_ble_eq_true rfl, Nat.le_of_ble_eq_true rfl⟩ (fun H locs S => ?_)
  refine W.eq (g2 := F0 m 4 ls [.int q1.1]) rfl ?_
  refine lv_if_eq (tgt := 17) hx hb dX9_fail_4 (by decide) (fun hc => ?_) (fun hc => ?_)
  · replace hf := ip hf hc
    exact w_X9_fail_b17 X Z  _ hf _ _ _ S (lv_sub hl [] rfl)
  · replace hf := im hf hc
    refine lv_aload_n hx hb dX9_fail_7 rfl (lv_at hl 0 rfl) ?_
    refine lv_iload_n hx hb dX9_fail_8 rfl (lv_at hl 1 rfl) ?_
    obtain ⟨h2, e_h2, hf⟩ := ob hf
    refine r_put X S fp_X9_66 (fun h9 => by cases h9) rfl rfl rfl e_h2 dX9_fail_9 (fun H locs S => ?_)
    refine lv_aload_n hx hb dX9_fail_12 rfl (lv_at hl 0 rfl) ?_
    refine lv_iload_n hx hb dX9_fail_13 rfl (lv_at hl 2 rfl) ?_
    obtain ⟨h3, e_h3, hf⟩ := ob hf
    refine r_put X S fp_X9_73 (fun h9 => by cases h9) rfl rfl rfl e_h3 dX9_fail_14 (fun H locs S => ?_)
    exact w_X9_fail_b17 X Z  _ hf _ _ _ S (lv_sub hl [] rfl)
def f_X9_fail (a0 : Nat) (x1 : Int32) (x2 : Int32) (h : HP) : Option (HP) := ck h a0 9 (f_X9_fail_e a0 x1 x2 h)
theorem o_X9_fail {a0 : Nat} {x1 : Int32} {x2 : Int32} {h : HP} {out : HP} (hf : f_X9_fail a0 x1 x2 h = some out) : ∃ fs, h[a0]? = some (.inl (9, fs)) := (ck_spec hf).1
set_option maxRecDepth 100000 in
theorem c_X9_fail {l : Launch} {G : GT} {b : Nat} {a0 : Nat} {x1 : Int32} {x2 : Int32} {h : HP} {out : HP} (hf : f_X9_fail a0 x1 x2 h = some out) : MT l G b False False yX9_fail cX9_fail 3 none RM_X9_fail [.ref (b + a0), .int x1, .int x2] h none out 0 0 := by
  refine met_of (by decide) (Nat.le_of_ble_eq_true rfl) ?_
  intro p e s m below meth c ls X hnm S hl
  have hl : lv_has ls 3 [(0, .ref (b + a0)), (1, .int x1), (2, .int x2)] := hl
  replace hf := (ck_spec hf).2
  exact w_X9_fail_e X (z_v X) _ _ _ _ hf _ _ _ S hl
end M11
