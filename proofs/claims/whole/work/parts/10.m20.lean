section M20
variable {p : Program} {l : Launch} {e : Env} {s : State} {m : MethodId} {args : Array Value} {below : List Frame} {meth : Method} {c : Code} {Q : State → Prop} {G : GT} {b : Nat}
/-! RoomRingsModel.tear()I -/
abbrev RM_X9_tear : Room := { frames := 0, cells := 0, slots := 0, locals := 0 }
def f_X9_tear_e  (a0 : Nat) (h : HP) : Option (Int32 × HP) :=
  (gI h a0 9 15).bind fun v1 =>
  (gI h a0 9 18).bind fun v2 =>
  (pI h a0 9 15 0).bind fun h3 =>
  (pI h3 a0 9 18 0).bind fun h4 =>
  some ((v1 + v2), h4)
set_option maxRecDepth 100000 in
set_option maxHeartbeats 4000000 in
theorem w_X9_tear_e (X : CX RX9 cX9_tear 2 (some .int) p s m args meth c G b) {out : Int32 × HP} (Z : ZI p l e RM_X9_tear s m args below meth c cX9_tear G b False 0 0 Q out)  : ∀ (a0 : Nat) (h : HP), f_X9_tear_e  a0 h = some out → ∀ (H : Heap) (locs : List Loc) (ls : Array Slot), ST G b False s h H locs → lv_has ls 2 [(0, .ref (b + a0))] → W p l e RM_X9_tear s m args below meth c H locs 0 0 Q (F0 m 0 ls []) := by
  intro a0 h hf H locs ls S hl
  unfold f_X9_tear_e at hf
  have hx := X.1
  have hb := X.2.1
  refine lv_aload_n hx hb dX9_tear_0 rfl (lv_at hl 0 rfl) ?_
  obtain ⟨v1, e_v1, hf⟩ := ob hf
  refine r_getI X S fl_X9_125 e_v1 dX9_tear_1 ?_
  refine lv_aload_n hx hb dX9_tear_4 rfl (lv_at hl 0 rfl) ?_
  obtain ⟨v2, e_v2, hf⟩ := ob hf
  refine r_getI X S fl_X9_128 e_v2 dX9_tear_5 ?_
  refine lv_iadd hx hb dX9_tear_8 ?_
  refine lv_istore_n (lv' := [(1, .int (v1 + v2)), (0, .ref (b + a0))]) hx hb dX9_tear_9 rfl hl (by decide) rfl (fun ls hl => ?_)
  refine lv_aload_n hx hb dX9_tear_10 rfl (lv_at hl 1 rfl) ?_
  refine lv_iconst (v := 0) hx hb dX9_tear_11 (by decide) ?_
  obtain ⟨h3, e_h3, hf⟩ := ob hf
  refine r_put X S fp_X9_125 (fun h9 => by cases h9) rfl rfl rfl e_h3 dX9_tear_12 (fun H locs S => ?_)
  refine lv_aload_n hx hb dX9_tear_15 rfl (lv_at hl 1 rfl) ?_
  refine lv_iconst (v := 0) hx hb dX9_tear_16 (by decide) ?_
  obtain ⟨h4, e_h4, hf⟩ := ob hf
  refine r_put X S fp_X9_128 (fun h9 => by cases h9) rfl rfl rfl e_h4 dX9_tear_17 (fun H locs S => ?_)
  refine lv_iload_n hx hb dX9_tear_20 rfl (lv_at hl 0 rfl) ?_
  obtain rfl := Option.some.inj hf
  exact Z _ _ _ _ dX9_tear_21 S
def f_X9_tear (a0 : Nat) (h : HP) : Option (Int32 × HP) := ck h a0 9 (f_X9_tear_e a0 h)
theorem o_X9_tear {a0 : Nat} {h : HP} {out : Int32 × HP} (hf : f_X9_tear a0 h = some out) : ∃ fs, h[a0]? = some (.inl (9, fs)) := (ck_spec hf).1
set_option maxRecDepth 100000 in
theorem c_X9_tear {l : Launch} {G : GT} {b : Nat} {a0 : Nat} {h : HP} {out : Int32 × HP} (hf : f_X9_tear a0 h = some out) : MT l G b False False yX9_tear cX9_tear 2 (some .int) RM_X9_tear [.ref (b + a0)] h (some (.int out.1)) out.2 0 0 := by
  refine met_of (by decide) (Nat.le_of_ble_eq_true rfl) ?_
  intro p e s m below meth c ls X hnm S hl
  have hl : lv_has ls 2 [(0, .ref (b + a0))] := hl
  replace hf := (ck_spec hf).2
  exact w_X9_tear_e X (z_i X) _ _ hf _ _ _ S hl
/-! RoomRingsModel.seed(I)I -/
abbrev RM_X9_seed : Room := { frames := 0, cells := 0, slots := 0, locals := 0 }
def f_X9_seed_e  (a0 : Nat) (x1 : Int32) (h : HP) : Option (Int32 × HP) :=
  if 0 ≤ x1 then
    (gR h a0 9 0).bind fun r1 =>
    (ald h r1 66).bind fun v2 =>
    (gR h a0 9 0).bind fun r3 =>
    (ast h r3 66 x1).bind fun h4 =>
    some (v2, h4)
  else
    some ((-1000000002), h)
set_option maxRecDepth 100000 in
set_option maxHeartbeats 4000000 in
theorem w_X9_seed_e (X : CX RX9 cX9_seed 3 (some .int) p s m args meth c G b) {out : Int32 × HP} (Z : ZI p l e RM_X9_seed s m args below meth c cX9_seed G b False 0 0 Q out)  : ∀ (a0 : Nat) (x1 : Int32) (h : HP), f_X9_seed_e  a0 x1 h = some out → ∀ (H : Heap) (locs : List Loc) (ls : Array Slot), ST G b False s h H locs → lv_has ls 3 [(0, .ref (b + a0)), (1, .int x1)] → W p l e RM_X9_seed s m args below meth c H locs 0 0 Q (F0 m 0 ls []) := by
  intro a0 x1 h hf H locs ls S hl
  unfold f_X9_seed_e at hf
  have hx := X.1
  have hb := X.2.1
  refine lv_iload_n hx hb dX9_seed_0 rfl (lv_at hl 1 rfl) ?_
  refine lv_if_ge (tgt := 7) hx hb dX9_seed_1 (by decide) (fun hc => ?_) (fun hc => ?_)
  · replace hf := ip hf hc
    refine lv_aload_n hx hb dX9_seed_7 rfl (lv_at hl 0 rfl) ?_
    obtain ⟨r1, e_r1, hf⟩ := ob hf
    refine r_getR X S fl_X9_7 e_r1 dX9_seed_8 ?_
    refine lv_bipush (v := 66) hx hb dX9_seed_11 (by decide) ?_
    obtain ⟨v2, e_v2, hf⟩ := ob hf
    refine r_ald X S e_v2 dX9_seed_13 ?_
    refine lv_istore_n (lv' := [(2, .int v2), (0, .ref (b + a0)), (1, .int x1)]) hx hb dX9_seed_14 rfl hl (by decide) rfl (fun ls hl => ?_)
    refine lv_aload_n hx hb dX9_seed_15 rfl (lv_at hl 1 rfl) ?_
    obtain ⟨r3, e_r3, hf⟩ := ob hf
    refine r_getR X S fl_X9_7 e_r3 dX9_seed_16 ?_
    refine lv_bipush (v := 66) hx hb dX9_seed_19 (by decide) ?_
    refine lv_iload_n hx hb dX9_seed_21 rfl (lv_at hl 2 rfl) ?_
    obtain ⟨h4, e_h4, hf⟩ := ob hf
    refine r_ast X S e_h4 dX9_seed_22 (fun H locs S => ?_)
    refine lv_iload_n hx hb dX9_seed_23 rfl (lv_at hl 0 rfl) ?_
    obtain rfl := Option.some.inj hf
    exact Z _ _ _ _ dX9_seed_24 S
  · replace hf := im hf hc
    refine lv_ldc (v := (-1000000002)) hx hb X.2.2.2.1 (X.2.2.2.2.1 _ cn_X9_61) dX9_seed_4 ?_
    obtain rfl := Option.some.inj hf
    exact Z _ _ _ _ dX9_seed_6 S
def f_X9_seed (a0 : Nat) (x1 : Int32) (h : HP) : Option (Int32 × HP) := ck h a0 9 (f_X9_seed_e a0 x1 h)
theorem o_X9_seed {a0 : Nat} {x1 : Int32} {h : HP} {out : Int32 × HP} (hf : f_X9_seed a0 x1 h = some out) : ∃ fs, h[a0]? = some (.inl (9, fs)) := (ck_spec hf).1
set_option maxRecDepth 100000 in
theorem c_X9_seed {l : Launch} {G : GT} {b : Nat} {a0 : Nat} {x1 : Int32} {h : HP} {out : Int32 × HP} (hf : f_X9_seed a0 x1 h = some out) : MT l G b False False yX9_seed cX9_seed 3 (some .int) RM_X9_seed [.ref (b + a0), .int x1] h (some (.int out.1)) out.2 0 0 := by
  refine met_of (by decide) (Nat.le_of_ble_eq_true rfl) ?_
  intro p e s m below meth c ls X hnm S hl
  have hl : lv_has ls 3 [(0, .ref (b + a0)), (1, .int x1)] := hl
  replace hf := (ck_spec hf).2
  exact w_X9_seed_e X (z_i X) _ _ _ hf _ _ _ S hl
/-! RoomRingsModel.keep(I)I -/
abbrev RM_X9_keep : Room := { frames := 1, cells := 0, slots := 0, locals := 23 }
def f_X9_keep_e  (a0 : Nat) (x1 : Int32) (h : HP) : Option (Int32 × HP) :=
  (f_X9_in x1 0 1 h).bind fun q1 =>
  if q1.1 = 0 then
    some ((-1000000001), q1.2)
  else
    (f_X9_copyRow a0 0 (1407 + (67 * x1)) q1.2).bind fun h2 =>
    (gI h2 a0 9 4).bind fun v3 =>
    (pI h2 a0 9 4 (v3 ||| (1 <<< (x1 &&& 31)))).bind fun h4 =>
    (pI h4 a0 9 3 0).bind fun h5 =>
    some (1, h5)
set_option maxRecDepth 100000 in
set_option maxHeartbeats 4000000 in
theorem w_X9_keep_e (X : CX RX9 cX9_keep 2 (some .int) p s m args meth c G b) {out : Int32 × HP} (Z : ZI p l e RM_X9_keep s m args below meth c cX9_keep G b False 0 0 Q out)  : ∀ (a0 : Nat) (x1 : Int32) (h : HP), f_X9_keep_e  a0 x1 h = some out → ∀ (H : Heap) (locs : List Loc) (ls : Array Slot), ST G b False s h H locs → lv_has ls 2 [(0, .ref (b + a0)), (1, .int x1)] → W p l e RM_X9_keep s m args below meth c H locs 0 0 Q (F0 m 0 ls []) := by
  intro a0 x1 h hf H locs ls S hl
  unfold f_X9_keep_e at hf
  have hx := X.1
  have hb := X.2.1
  refine lv_iload_n hx hb dX9_keep_0 rfl (lv_at hl 1 rfl) ?_
  refine lv_iconst (v := 0) hx hb dX9_keep_1 (by decide) ?_
  refine lv_iconst (v := 1) hx hb dX9_keep_2 (by decide) ?_
  obtain ⟨q1, e_q1, hf⟩ := ob hf
  refine r_callS X S hl.1 (As := [.int x1, .int 0, .int 1]) (rest := []) (c_X9_in e_q1) my_X9_in ms_X9_in ml_X9_54 ⟨rfl, rfl, Nat.le_of_ble_eq_true rfl, Nat.le_of_ble_eq_true rfl⟩ rfl rfl (Nat.le_of_ble_eq_true rfl) dX9_keep_3 ⟨Nat.le_of_ble_eq_true rfl, Nat.le_of_ble_eq_true rfl⟩ (fun H locs S => ?_)
  refine W.eq (g2 := F0 m 6 ls [.int q1.1]) rfl ?_
  refine lv_if_ne (tgt := 12) hx hb dX9_keep_6 (by decide) (fun hc => ?_) (fun hc => ?_)
  · replace hf := im hf hc
    refine lv_aload_n hx hb dX9_keep_12 rfl (lv_at hl 0 rfl) ?_
    refine lv_iconst (v := 0) hx hb dX9_keep_13 (by decide) ?_
    refine lv_sipush (v := 1407) hx hb dX9_keep_14 (by decide) ?_
    refine lv_bipush (v := 67) hx hb dX9_keep_17 (by decide) ?_
    refine lv_iload_n hx hb dX9_keep_19 rfl (lv_at hl 1 rfl) ?_
    refine lv_imul hx hb dX9_keep_20 ?_
    refine lv_iadd hx hb dX9_keep_21 ?_
    obtain ⟨h2, e_h2, hf⟩ := ob hf
    refine r_callV X S hl.1 (As := [.int 0, .int (1407 + (67 * x1))]) (rest := []) (c_X9_copyRow e_h2) my_X9_copyRow mv_X9_copyRow ml_X9_116 rfl (o_X9_copyRow e_h2) ⟨rfl, rfl, Nat.le_of_ble_eq_true rfl, Nat.le_of_ble_eq_true rfl⟩ rfl rfl (Nat.le_of_ble_eq_true rfl) dX9_keep_22 ⟨Nat.le_of_ble_eq_true rfl, Nat.le_of_ble_eq_true rfl⟩ (fun H locs S => ?_)
    refine W.eq (g2 := F0 m 25 ls []) rfl ?_
    refine lv_aload_n hx hb dX9_keep_25 rfl (lv_at hl 0 rfl) ?_
    refine lv_dup hx hb dX9_keep_26 rfl ?_
    obtain ⟨v3, e_v3, hf⟩ := ob hf
    refine r_getI X S fl_X9_122 e_v3 dX9_keep_27 ?_
    refine lv_iconst (v := 1) hx hb dX9_keep_30 (by decide) ?_
    refine lv_iload_n hx hb dX9_keep_31 rfl (lv_at hl 1 rfl) ?_
    refine lv_ishl hx hb dX9_keep_32 ?_
    refine lv_ior hx hb dX9_keep_33 ?_
    obtain ⟨h4, e_h4, hf⟩ := ob hf
    refine r_put X S fp_X9_122 (fun h9 => by cases h9) rfl rfl rfl e_h4 dX9_keep_34 (fun H locs S => ?_)
    refine lv_aload_n hx hb dX9_keep_37 rfl (lv_at hl 0 rfl) ?_
    refine lv_iconst (v := 0) hx hb dX9_keep_38 (by decide) ?_
    obtain ⟨h5, e_h5, hf⟩ := ob hf
    refine r_put X S fp_X9_119 (fun h9 => by cases h9) rfl rfl rfl e_h5 dX9_keep_39 (fun H locs S => ?_)
    refine lv_iconst (v := 1) hx hb dX9_keep_42 (by decide) ?_
    obtain rfl := Option.some.inj hf
    exact Z _ _ _ _ dX9_keep_43 S
  · replace hf := ip hf hc
    refine lv_ldc (v := (-1000000001)) hx hb X.2.2.2.1 (X.2.2.2.2.1 _ cn_X9_206) dX9_keep_9 ?_
    obtain rfl := Option.some.inj hf
    exact Z _ _ _ _ dX9_keep_11 S
def f_X9_keep (a0 : Nat) (x1 : Int32) (h : HP) : Option (Int32 × HP) := ck h a0 9 (f_X9_keep_e a0 x1 h)
theorem o_X9_keep {a0 : Nat} {x1 : Int32} {h : HP} {out : Int32 × HP} (hf : f_X9_keep a0 x1 h = some out) : ∃ fs, h[a0]? = some (.inl (9, fs)) := (ck_spec hf).1
set_option maxRecDepth 100000 in
theorem c_X9_keep {l : Launch} {G : GT} {b : Nat} {a0 : Nat} {x1 : Int32} {h : HP} {out : Int32 × HP} (hf : f_X9_keep a0 x1 h = some out) : MT l G b False False yX9_keep cX9_keep 2 (some .int) RM_X9_keep [.ref (b + a0), .int x1] h (some (.int out.1)) out.2 0 0 := by
  refine met_of (by decide) (Nat.le_of_ble_eq_true rfl) ?_
  intro p e s m below meth c ls X hnm S hl
  have hl : lv_has ls 2 [(0, .ref (b + a0)), (1, .int x1)] := hl
  replace hf := (ck_spec hf).2
  exact w_X9_keep_e X (z_i X) _ _ _ hf _ _ _ S hl
/-! RoomRingsModel.goBack(I)I -/
abbrev RM_X9_goBack : Room := { frames := 1, cells := 0, slots := 0, locals := 23 }
def f_X9_goBack_e  (a0 : Nat) (x1 : Int32) (h : HP) : Option (Int32 × HP) :=
  (f_X9_in x1 0 1 h).bind fun q1 =>
  if q1.1 = 0 then
    some ((-1000000001), q1.2)
  else
    (gI q1.2 a0 9 4).bind fun v2 =>
    (f_X9_has v2 x1 q1.2).bind fun q3 =>
    if q3.1 = 0 then
      some ((-1000000003), q3.2)
    else
      (f_X9_copyRow a0 (1407 + (67 * x1)) 0 q3.2).bind fun h4 =>
      (pI h4 a0 9 3 0).bind fun h5 =>
      some (1, h5)
set_option maxRecDepth 100000 in
set_option maxHeartbeats 4000000 in
theorem w_X9_goBack_e (X : CX RX9 cX9_goBack 2 (some .int) p s m args meth c G b) {out : Int32 × HP} (Z : ZI p l e RM_X9_goBack s m args below meth c cX9_goBack G b False 0 0 Q out)  : ∀ (a0 : Nat) (x1 : Int32) (h : HP), f_X9_goBack_e  a0 x1 h = some out → ∀ (H : Heap) (locs : List Loc) (ls : Array Slot), ST G b False s h H locs → lv_has ls 2 [(0, .ref (b + a0)), (1, .int x1)] → W p l e RM_X9_goBack s m args below meth c H locs 0 0 Q (F0 m 0 ls []) := by
  intro a0 x1 h hf H locs ls S hl
  unfold f_X9_goBack_e at hf
  have hx := X.1
  have hb := X.2.1
  refine lv_iload_n hx hb dX9_goBack_0 rfl (lv_at hl 1 rfl) ?_
  refine lv_iconst (v := 0) hx hb dX9_goBack_1 (by decide) ?_
  refine lv_iconst (v := 1) hx hb dX9_goBack_2 (by decide) ?_
  obtain ⟨q1, e_q1, hf⟩ := ob hf
  refine r_callS X S hl.1 (As := [.int x1, .int 0, .int 1]) (rest := []) (c_X9_in e_q1) my_X9_in ms_X9_in ml_X9_54 ⟨rfl, rfl, Nat.le_of_ble_eq_true rfl, Nat.le_of_ble_eq_true rfl⟩ rfl rfl (Nat.le_of_ble_eq_true rfl) dX9_goBack_3 ⟨Nat.le_of_ble_eq_true rfl, Nat.le_of_ble_eq_true rfl⟩ (fun H locs S => ?_)
  refine W.eq (g2 := F0 m 6 ls [.int q1.1]) rfl ?_
  refine lv_if_ne (tgt := 12) hx hb dX9_goBack_6 (by decide) (fun hc => ?_) (fun hc => ?_)
  · replace hf := im hf hc
    refine lv_aload_n hx hb dX9_goBack_12 rfl (lv_at hl 0 rfl) ?_
    obtain ⟨v2, e_v2, hf⟩ := ob hf
    refine r_getI X S fl_X9_122 e_v2 dX9_goBack_13 ?_
    refine lv_iload_n hx hb dX9_goBack_16 rfl (lv_at hl 1 rfl) ?_
    obtain ⟨q3, e_q3, hf⟩ := ob hf
    refine r_callS X S hl.1 (As := [.int v2, .int x1]) (rest := []) (c_X9_has e_q3) my_X9_has ms_X9_has ml_X9_134 ⟨rfl, rfl, Nat.le_of_ble_eq_true rfl, Nat.le_of_ble_eq_true rfl⟩ rfl rfl (Nat.le_of_ble_eq_true rfl) dX9_goBack_17 ⟨Nat.le_of_ble_eq_true rfl, Nat.le_of_ble_eq_true rfl⟩ (fun H locs S => ?_)
    refine W.eq (g2 := F0 m 20 ls [.int q3.1]) rfl ?_
    refine lv_if_ne (tgt := 26) hx hb dX9_goBack_20 (by decide) (fun hc => ?_) (fun hc => ?_)
    · replace hf := im hf hc
      refine lv_aload_n hx hb dX9_goBack_26 rfl (lv_at hl 0 rfl) ?_
      refine lv_sipush (v := 1407) hx hb dX9_goBack_27 (by decide) ?_
      refine lv_bipush (v := 67) hx hb dX9_goBack_30 (by decide) ?_
      refine lv_iload_n hx hb dX9_goBack_32 rfl (lv_at hl 1 rfl) ?_
      refine lv_imul hx hb dX9_goBack_33 ?_
      refine lv_iadd hx hb dX9_goBack_34 ?_
      refine lv_iconst (v := 0) hx hb dX9_goBack_35 (by decide) ?_
      obtain ⟨h4, e_h4, hf⟩ := ob hf
      refine r_callV X S hl.1 (As := [.int (1407 + (67 * x1)), .int 0]) (rest := []) (c_X9_copyRow e_h4) my_X9_copyRow mv_X9_copyRow ml_X9_116 rfl (o_X9_copyRow e_h4) ⟨rfl, rfl, Nat.le_of_ble_eq_true rfl, Nat.le_of_ble_eq_true rfl⟩ rfl rfl (Nat.le_of_ble_eq_true rfl) dX9_goBack_36 ⟨Nat.le_of_ble_eq_true rfl, Nat.le_of_ble_eq_true rfl⟩ (fun H locs S => ?_)
      refine W.eq (g2 := F0 m 39 ls []) rfl ?_
      refine lv_aload_n hx hb dX9_goBack_39 rfl (lv_at hl 0 rfl) ?_
      refine lv_iconst (v := 0) hx hb dX9_goBack_40 (by decide) ?_
      obtain ⟨h5, e_h5, hf⟩ := ob hf
      refine r_put X S fp_X9_119 (fun h9 => by cases h9) rfl rfl rfl e_h5 dX9_goBack_41 (fun H locs S => ?_)
      refine lv_iconst (v := 1) hx hb dX9_goBack_44 (by decide) ?_
      obtain rfl := Option.some.inj hf
      exact Z _ _ _ _ dX9_goBack_45 S
    · replace hf := ip hf hc
      refine lv_ldc (v := (-1000000003)) hx hb X.2.2.2.1 (X.2.2.2.2.1 _ cn_X9_230) dX9_goBack_23 ?_
      obtain rfl := Option.some.inj hf
      exact Z _ _ _ _ dX9_goBack_25 S
  · replace hf := ip hf hc
    refine lv_ldc (v := (-1000000001)) hx hb X.2.2.2.1 (X.2.2.2.2.1 _ cn_X9_206) dX9_goBack_9 ?_
    obtain rfl := Option.some.inj hf
    exact Z _ _ _ _ dX9_goBack_11 S
def f_X9_goBack (a0 : Nat) (x1 : Int32) (h : HP) : Option (Int32 × HP) := ck h a0 9 (f_X9_goBack_e a0 x1 h)
theorem o_X9_goBack {a0 : Nat} {x1 : Int32} {h : HP} {out : Int32 × HP} (hf : f_X9_goBack a0 x1 h = some out) : ∃ fs, h[a0]? = some (.inl (9, fs)) := (ck_spec hf).1
set_option maxRecDepth 100000 in
theorem c_X9_goBack {l : Launch} {G : GT} {b : Nat} {a0 : Nat} {x1 : Int32} {h : HP} {out : Int32 × HP} (hf : f_X9_goBack a0 x1 h = some out) : MT l G b False False yX9_goBack cX9_goBack 2 (some .int) RM_X9_goBack [.ref (b + a0), .int x1] h (some (.int out.1)) out.2 0 0 := by
  refine met_of (by decide) (Nat.le_of_ble_eq_true rfl) ?_
  intro p e s m below meth c ls X hnm S hl
  have hl : lv_has ls 2 [(0, .ref (b + a0)), (1, .int x1)] := hl
  replace hf := (ck_spec hf).2
  exact w_X9_goBack_e X (z_i X) _ _ _ hf _ _ _ S hl
end M20
