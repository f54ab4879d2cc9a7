section M01
variable {p : Program} {l : Launch} {e : Env} {s : State} {m : MethodId} {args : Array Value} {below : List Frame} {meth : Method} {c : Code} {Q : State → Prop} {G : GT} {b : Nat}
/-! RoomRings$Dealing.<init>()V -/
abbrev RM_X1_init : Room := { frames := 1, cells := 5, slots := 30, locals := 12 }
def f_X1_init_e  (a0 : Nat) (h : HP) : Option (HP) :=
  (pR (hpush h (.inr (.inl (6, fun _ => 0)))) a0 1 3 (List.length h)).bind fun h1 =>
  (pR (hpush h1 (.inr (.inl (6, fun _ => 0)))) a0 1 4 (List.length h1)).bind fun h2 =>
  (pR (hpush h2 (.inr (.inl (6, fun _ => 0)))) a0 1 5 (List.length h2)).bind fun h3 =>
  (pR (hpush h3 (.inr (.inl (6, fun _ => 0)))) a0 1 6 (List.length h3)).bind fun h4 =>
  (pR (hpush h4 (.inr (.inl (6, fun _ => 0)))) a0 1 7 (List.length h4)).bind fun h5 =>
  some h5
set_option maxRecDepth 100000 in
set_option maxHeartbeats 4000000 in
theorem w_X1_init_e (X : CX RX1 cX1_init 1 none p s m args meth c G b) (hnm : meth.name = "<init>") {out : HP} (Z : ZV p l e RM_X1_init s m args below meth c cX1_init G b True 5 30 Q out)  : ∀ (a0 : Nat) (h : HP), f_X1_init_e  a0 h = some out → ∀ (H : Heap) (locs : List Loc) (ls : Array Slot), ST G b True s h H locs → lv_has ls 1 [(0, .ref (b + a0))] → W p l e RM_X1_init s m args below meth c H locs 0 0 Q (F0 m 0 ls []) := by
  intro a0 h hf H locs ls S hl
  unfold f_X1_init_e at hf
  have hx := X.1
  have hb := X.2.1
  refine lv_aload_n hx hb dX1_init_0 rfl (lv_at hl 0 rfl) ?_
  refine W.objInit hx hb X.2.2.2.1 (X.2.2.2.2.1 _ ml_X1_3) (X.2.2.2.2.1 _ oi_i) (X.2.2.2.2.1 _ oi_c) rfl (by rw [X.2.2.1]; exact hl.1) rfl dX1_init_1 (Nat.le_of_ble_eq_true rfl) (Nat.le_of_ble_eq_true rfl) ?_
  refine W.eq (g2 := F0 m 4 ls []) rfl ?_
  refine lv_aload_n hx hb dX1_init_4 rfl (lv_at hl 0 rfl) ?_
  refine lv_bipush (v := 6) hx hb dX1_init_5 (by decide) ?_
  refine r_newI (N := 6) X S ac_int (by decide) (by decide) (by decide) (Nat.le_of_ble_eq_true rfl) (Nat.le_of_ble_eq_true rfl) dX1_init_7 (fun H locs S => ?_)
  refine W.widen (k := 1) (n := 6) (Nat.le_of_ble_eq_true rfl) (Nat.le_of_ble_eq_true rfl) ?_
  obtain ⟨h1, e_h1, hf⟩ := ob hf
  refine r_put X S fp_X1_9 (fun _ => hnm) rfl rfl rfl e_h1 dX1_init_9 (fun H locs S => ?_)
  refine lv_aload_n hx hb dX1_init_12 rfl (lv_at hl 0 rfl) ?_
  refine lv_bipush (v := 6) hx hb dX1_init_13 (by decide) ?_
  refine r_newI (N := 6) X S ac_int (by decide) (by decide) (by decide) (Nat.le_of_ble_eq_true rfl) (Nat.le_of_ble_eq_true rfl) dX1_init_15 (fun H locs S => ?_)
  refine W.widen (k := 2) (n := 12) (Nat.le_of_ble_eq_true rfl) (Nat.le_of_ble_eq_true rfl) ?_
  obtain ⟨h2, e_h2, hf⟩ := ob hf
  refine r_put X S fp_X1_15 (fun _ => hnm) rfl rfl rfl e_h2 dX1_init_17 (fun H locs S => ?_)
  refine lv_aload_n hx hb dX1_init_20 rfl (lv_at hl 0 rfl) ?_
  refine lv_bipush (v := 6) hx hb dX1_init_21 (by decide) ?_
  refine r_newI (N := 6) X S ac_int (by decide) (by decide) (by decide) (Nat.le_of_ble_eq_true rfl) (Nat.le_of_ble_eq_true rfl) dX1_init_23 (fun H locs S => ?_)
  refine W.widen (k := 3) (n := 18) (Nat.le_of_ble_eq_true rfl) (Nat.le_of_ble_eq_true rfl) ?_
  obtain ⟨h3, e_h3, hf⟩ := ob hf
  refine r_put X S fp_X1_18 (fun _ => hnm) rfl rfl rfl e_h3 dX1_init_25 (fun H locs S => ?_)
  refine lv_aload_n hx hb dX1_init_28 rfl (lv_at hl 0 rfl) ?_
  refine lv_bipush (v := 6) hx hb dX1_init_29 (by decide) ?_
  refine r_newI (N := 6) X S ac_int (by decide) (by decide) (by decide) (Nat.le_of_ble_eq_true rfl) (Nat.le_of_ble_eq_true rfl) dX1_init_31 (fun H locs S => ?_)
  refine W.widen (k := 4) (n := 24) (Nat.le_of_ble_eq_true rfl) (Nat.le_of_ble_eq_true rfl) ?_
  obtain ⟨h4, e_h4, hf⟩ := ob hf
  refine r_put X S fp_X1_21 (fun _ => hnm) rfl rfl rfl e_h4 dX1_init_33 (fun H locs S => ?_)
  refine lv_aload_n hx hb dX1_init_36 rfl (lv_at hl 0 rfl) ?_
  refine lv_bipush (v := 6) hx hb dX1_init_37 (by decide) ?_
  refine r_newI (N := 6) X S ac_int (by decide) (by decide) (by decide) (Nat.le_of_ble_eq_true rfl) (Nat.le_of_ble_eq_true rfl) dX1_init_39 (fun H locs S => ?_)
  refine W.widen (k := 5) (n := 30) (Nat.le_of_ble_eq_true rfl) (Nat.le_of_ble_eq_true rfl) ?_
  obtain ⟨h5, e_h5, hf⟩ := ob hf
  refine r_put X S fp_X1_24 (fun _ => hnm) rfl rfl rfl e_h5 dX1_init_41 (fun H locs S => ?_)
  obtain rfl := Option.some.inj hf
  exact Z _ _ _ _ dX1_init_44 S
def f_X1_init (a0 : Nat) (h : HP) : Option (HP) := f_X1_init_e a0 h
set_option maxRecDepth 100000 in
theorem c_X1_init {l : Launch} {G : GT} {b : Nat} {a0 : Nat} {h : HP} {out : HP} (hf : f_X1_init a0 h = some out) : MT l G b True True yX1_init cX1_init 1 none RM_X1_init [.ref (b + a0)] h none out 5 30 := by
  refine met_of (by decide) (Nat.le_of_ble_eq_true rfl) ?_
  intro p e s m below meth c ls X hnm S hl
  have hl : lv_has ls 1 [(0, .ref (b + a0))] := hl
  exact w_X1_init_e X hnm (z_v X) _ _ hf _ _ _ S hl
/-! RoomRings.firstOnes(I)I -/
abbrev RM_X8_firstOnes : Room := { frames := 0, cells := 0, slots := 0, locals := 0 }
def f_X8_firstOnes_b19  (s0 : Int32) (h : HP) : Option (Int32 × HP) :=
  some (s0, h)
set_option maxRecDepth 100000 in
set_option maxHeartbeats 4000000 in
theorem w_X8_firstOnes_b19 (X : CX RX8 cX8_firstOnes 1 (some .int) p s m args meth c G b) {out : Int32 × HP} (Z : ZI p l e RM_X8_firstOnes s m args below meth c cX8_firstOnes G b False 0 0 Q out)  : ∀ (s0 : Int32) (h : HP), f_X8_firstOnes_b19  s0 h = some out → ∀ (H : Heap) (locs : List Loc) (ls : Array Slot), ST G b False s h H locs → lv_has ls 1 [] → W p l e RM_X8_firstOnes s m args below meth c H locs 0 0 Q (F0 m 19 ls [.int s0]) := by
  intro s0 h hf H locs ls S hl
  unfold f_X8_firstOnes_b19 at hf
  have hx := X.1
  have hb := X.2.1
  obtain rfl := Option.some.inj hf
  exact Z _ _ _ _ dX8_firstOnes_19 S
def f_X8_firstOnes_b18   (h : HP) : Option (Int32 × HP) :=
  f_X8_firstOnes_b19  0 h
set_option maxRecDepth 100000 in
set_option maxHeartbeats 4000000 in
theorem w_X8_firstOnes_b18 (X : CX RX8 cX8_firstOnes 1 (some .int) p s m args meth c G b) {out : Int32 × HP} (Z : ZI p l e RM_X8_firstOnes s m args below meth c cX8_firstOnes G b False 0 0 Q out)  : ∀  (h : HP), f_X8_firstOnes_b18   h = some out → ∀ (H : Heap) (locs : List Loc) (ls : Array Slot), ST G b False s h H locs → lv_has ls 1 [] → W p l e RM_X8_firstOnes s m args below meth c H locs 0 0 Q (F0 m 18 ls []) := by
  intro  h hf H locs ls S hl
  unfold f_X8_firstOnes_b18 at hf
  have hx := X.1
  have hb := X.2.1
  refine lv_iconst (v := 0) hx hb dX8_firstOnes_18 (by decide) ?_
  exact w_X8_firstOnes_b19 X Z  _ _ hf _ _ _ S (lv_sub hl [] rfl)
def f_X8_firstOnes_e  (x0 : Int32) (h : HP) : Option (Int32 × HP) :=
  if x0 ≤ 0 then
    f_X8_firstOnes_b18   h
  else
    if 31 ≤ x0 then
      f_X8_firstOnes_b18   h
    else
      f_X8_firstOnes_b19  ((1 <<< (x0 &&& 31)) - 1) h
set_option maxRecDepth 100000 in
set_option maxHeartbeats 4000000 in
theorem w_X8_firstOnes_e (X : CX RX8 cX8_firstOnes 1 (some .int) p s m args meth c G b) {out : Int32 × HP} (Z : ZI p l e RM_X8_firstOnes s m args below meth c cX8_firstOnes G b False 0 0 Q out)  : ∀ (x0 : Int32) (h : HP), f_X8_firstOnes_e  x0 h = some out → ∀ (H : Heap) (locs : List Loc) (ls : Array Slot), ST G b False s h H locs → lv_has ls 1 [(0, .int x0)] → W p l e RM_X8_firstOnes s m args below meth c H locs 0 0 Q (F0 m 0 ls []) := by
  intro x0 h hf H locs ls S hl
  unfold f_X8_firstOnes_e at hf
  have hx := X.1
  have hb := X.2.1
  refine lv_iload_n hx hb dX8_firstOnes_0 rfl (lv_at hl 0 rfl) ?_
  refine lv_if_le (tgt := 18) hx hb dX8_firstOnes_1 (by decide) (fun hc => ?_) (fun hc => ?_)
  · replace hf := ip hf hc
    exact w_X8_firstOnes_b18 X Z  _ hf _ _ _ S (lv_sub hl [] rfl)
  · replace hf := im hf hc
    refine lv_iload_n hx hb dX8_firstOnes_4 rfl (lv_at hl 0 rfl) ?_
    refine lv_bipush (v := 31) hx hb dX8_firstOnes_5 (by decide) ?_
    refine lv_icmp_ge (tgt := 18) hx hb dX8_firstOnes_7 (by decide) (fun hc => ?_) (fun hc => ?_)
    · replace hf := ip hf hc
      exact w_X8_firstOnes_b18 X Z  _ hf _ _ _ S (lv_sub hl [] rfl)
    · replace hf := im hf hc
      refine lv_iconst (v := 1) hx hb dX8_firstOnes_10 (by decide) ?_
      refine lv_iload_n hx hb dX8_firstOnes_11 rfl (lv_at hl 0 rfl) ?_
      refine lv_ishl hx hb dX8_firstOnes_12 ?_
      refine lv_iconst (v := 1) hx hb dX8_firstOnes_13 (by decide) ?_
      refine lv_isub hx hb dX8_firstOnes_14 ?_
      refine lv_goto (tgt := 19) hx hb dX8_firstOnes_15 (by decide) ?_
      exact w_X8_firstOnes_b19 X Z  _ _ hf _ _ _ S (lv_sub hl [] rfl)
def f_X8_firstOnes (x0 : Int32) (h : HP) : Option (Int32 × HP) := f_X8_firstOnes_e x0 h
set_option maxRecDepth 100000 in
theorem c_X8_firstOnes {l : Launch} {G : GT} {b : Nat} {x0 : Int32} {h : HP} {out : Int32 × HP} (hf : f_X8_firstOnes x0 h = some out) : MT l G b False False yX8_firstOnes cX8_firstOnes 1 (some .int) RM_X8_firstOnes [.int x0] h (some (.int out.1)) out.2 0 0 := by
  refine met_of (by decide) (Nat.le_of_ble_eq_true rfl) ?_
  intro p e s m below meth c ls X hnm S hl
  have hl : lv_has ls 1 [(0, .int x0)] := hl
  exact w_X8_firstOnes_e X (z_i X) _ _ hf _ _ _ S hl
/-! RoomRings$House.best(II)I -/
abbrev RM_X3_best : Room := { frames := 1, cells := 0, slots := 0, locals := 21 }
def f_X3_best_b84  (s0 : Int32) (h : HP) : Option (Int32 × HP) :=
  some (s0, h)
set_option maxRecDepth 100000 in
set_option maxHeartbeats 4000000 in
theorem w_X3_best_b84 (X : CX RX3 cX3_best 7 (some .int) p s m args meth c G b) {out : Int32 × HP} (Z : ZI p l e RM_X3_best s m args below meth c cX3_best G b False 0 0 Q out)  : ∀ (s0 : Int32) (h : HP), f_X3_best_b84  s0 h = some out → ∀ (H : Heap) (locs : List Loc) (ls : Array Slot), ST G b False s h H locs → lv_has ls 7 [] → W p l e RM_X3_best s m args below meth c H locs 0 0 Q (F0 m 84 ls [.int s0]) := by
  intro s0 h hf H locs ls S hl
  unfold f_X3_best_b84 at hf
  have hx := X.1
  have hb := X.2.1
  obtain rfl := Option.some.inj hf
  exact Z _ _ _ _ dX3_best_84 S
def f_X3_best_b22 (K22 : Nat → Int32 → Int32 → Int32 → Int32 → Int32 → HP → Option (Int32 × HP)) (a0 : Nat) (x1 : Int32) (x2 : Int32) (x3 : Int32) (x4 : Int32) (x5 : Int32) (h : HP) : Option (Int32 × HP) :=
  if x4 ≤ x5 then
    (f_X8_holds x2 x3 h).bind fun q1 =>
    if q1.1 = 0 then
      f_X3_best_b84  (-1) q1.2
    else
      f_X3_best_b84  x3 q1.2
  else
    (gR h a0 3 4).bind fun r2 =>
    (f_X8_at r2 ((x1 * 8) + x5) h).bind fun q3 =>
    (f_X8_holds x2 q3.1 q3.2).bind fun q4 =>
    if q4.1 = 0 then
      if q3.1 = x3 then
        some ((-1), q4.2)
      else
        K22 a0 x1 x2 x3 x4 (x5 + 1) q4.2
    else
      some (q3.1, q4.2)
set_option maxRecDepth 100000 in
set_option maxHeartbeats 4000000 in
theorem w_X3_best_b22 (X : CX RX3 cX3_best 7 (some .int) p s m args meth c G b) {out : Int32 × HP} (Z : ZI p l e RM_X3_best s m args below meth c cX3_best G b False 0 0 Q out) {K22 : Nat → Int32 → Int32 → Int32 → Int32 → Int32 → HP → Option (Int32 × HP)} (hK22 : ∀ (a0 : Nat) (x1 : Int32) (x2 : Int32) (x3 : Int32) (x4 : Int32) (x5 : Int32) (h : HP), K22 a0 x1 x2 x3 x4 x5 h = some out → ∀ (H : Heap) (locs : List Loc) (ls : Array Slot), ST G b False s h H locs → lv_has ls 7 [(0, .ref (b + a0)), (1, .int x1), (2, .int x2), (3, .int x3), (4, .int x4), (5, .int x5)] → W p l e RM_X3_best s m args below meth c H locs 0 0 Q (F0 m 22 ls [])) : ∀ (a0 : Nat) (x1 : Int32) (x2 : Int32) (x3 : Int32) (x4 : Int32) (x5 : Int32) (h : HP), f_X3_best_b22 K22 a0 x1 x2 x3 x4 x5 h = some out → ∀ (H : Heap) (locs : List Loc) (ls : Array Slot), ST G b False s h H locs → lv_has ls 7 [(0, .ref (b + a0)), (1, .int x1), (2, .int x2), (3, .int x3), (4, .int x4), (5, .int x5)] → W p l e RM_X3_best s m args below meth c H locs 0 0 Q (F0 m 22 ls []) := by
  intro a0 x1 x2 x3 x4 x5 h hf H locs ls S hl
  unfold f_X3_best_b22 at hf
  have hx := X.1
  have hb := X.2.1
  refine lv_iload hx hb dX3_best_22 (lv_at hl 5 rfl) ?_
  refine lv_iload hx hb dX3_best_24 (lv_at hl 4 rfl) ?_
  refine lv_icmp_ge (tgt := 71) hx hb dX3_best_26 (by decide) (fun hc => ?_) (fun hc => ?_)
  · replace hf := ip hf hc
    refine lv_iload_n hx hb dX3_best_71 rfl (lv_at hl 2 rfl) ?_
    refine lv_iload_n hx hb dX3_best_72 rfl (lv_at hl 3 rfl) ?_
    obtain ⟨q1, e_q1, hf⟩ := ob hf
    refine r_callSN X S hl.1 (As := [.int x2, .int x3]) (rest := []) (c_X8_holds e_q1) my_X8_holds ms_X8_holds nl_X3_55 ⟨rfl, rfl, Nat.le_of_ble_eq_true rfl, Nat.le_of_ble_eq_true rfl⟩ rfl rfl (Nat.le_of_ble_eq_true rfl) dX3_best_73 ⟨Nat.le_of_ble_eq_true rfl, Nat.le_of_ble_eq_true rfl⟩ (fun H locs S => ?_)
    refine W.eq (g2 := F0 m 76 ls [.int q1.1]) rfl ?_
    refine lv_if_eq (tgt := 83) hx hb dX3_best_76 (by decide) (fun hc => ?_) (fun hc => ?_)
    · replace hf := ip hf hc
      refine lv_iconst (v := (-1)) hx hb dX3_best_83 (by decide) ?_
      exact w_X3_best_b84 X Z  _ _ hf _ _ _ S (lv_sub hl [] rfl)
    · replace hf := im hf hc
      refine lv_iload_n hx hb dX3_best_79 rfl (lv_at hl 3 rfl) ?_
      refine lv_goto (tgt := 84) hx hb dX3_best_80 (by decide) ?_
      exact w_X3_best_b84 X Z  _ _ hf _ _ _ S (lv_sub hl [] rfl)
  · replace hf := im hf hc
    refine lv_aload_n hx hb dX3_best_29 rfl (lv_at hl 0 rfl) ?_
    obtain ⟨r2, e_r2, hf⟩ := ob hf
    refine r_getR X S fl_X3_18 e_r2 dX3_best_30 ?_
    refine lv_iload_n hx hb dX3_best_33 rfl (lv_at hl 1 rfl) ?_
    refine lv_bipush (v := 8) hx hb dX3_best_34 (by decide) ?_
    refine lv_imul hx hb dX3_best_36 ?_
    refine lv_iload hx hb dX3_best_37 (lv_at hl 5 rfl) ?_
    refine lv_iadd hx hb dX3_best_39 ?_
    obtain ⟨q3, e_q3, hf⟩ := ob hf
    refine r_callSN X S hl.1 (As := [.ref (b + r2), .int ((x1 * 8) + x5)]) (rest := []) (c_X8_at e_q3) my_X8_at ms_X8_at nl_X3_51 ⟨rfl, rfl, Nat.le_of_ble_eq_true rfl, Nat.le_of_ble_eq_true rfl⟩ rfl rfl (Nat.le_of_ble_eq_true rfl) dX3_best_40 ⟨Nat.le_of_ble_eq_true rfl, Nat.le_of_ble_eq_true rfl⟩ (fun H locs S => ?_)
    refine W.eq (g2 := F0 m 43 ls [.int q3.1]) rfl ?_
    refine lv_istore (lv' := [(6, .int q3.1), (0, .ref (b + a0)), (1, .int x1), (2, .int x2), (3, .int x3), (4, .int x4), (5, .int x5)]) hx hb dX3_best_43 hl (by decide) rfl (fun ls hl => ?_)
    refine lv_iload_n hx hb dX3_best_45 rfl (lv_at hl 3 rfl) ?_
    refine lv_iload hx hb dX3_best_46 (lv_at hl 0 rfl) ?_
    obtain ⟨q4, e_q4, hf⟩ := ob hf
    refine r_callSN X S hl.1 (As := [.int x2, .int q3.1]) (rest := []) (c_X8_holds e_q4) my_X8_holds ms_X8_holds nl_X3_55 ⟨rfl, rfl, Nat.le_of_ble_eq_true rfl, Nat.le_of_ble_eq_true rfl⟩ rfl rfl (Nat.le_of_ble_eq_true rfl) dX3_best_48 ⟨Nat.le_of_ble_eq_true rfl, Nat.le_of_ble_eq_true rfl⟩ (fun H locs S => ?_)
    refine W.eq (g2 := F0 m 51 ls [.int q4.1]) rfl ?_
    refine lv_if_eq (tgt := 57) hx hb dX3_best_51 (by decide) (fun hc => ?_) (fun hc => ?_)
    · replace hf := ip hf hc
      refine lv_iload hx hb dX3_best_57 (lv_at hl 0 rfl) ?_
      refine lv_iload_n hx hb dX3_best_59 rfl (lv_at hl 4 rfl) ?_
      refine lv_icmp_ne (tgt := 65) hx hb dX3_best_60 (by decide) (fun hc => ?_) (fun hc => ?_)
      · replace hf := im hf hc
        refine lv_iinc (v := x5 + 1) (lv' := [(5, .int (x5 + 1)), (6, .int q3.1), (0, .ref (b + a0)), (1, .int x1), (2, .int x2), (3, .int x3), (4, .int x4)]) hx hb dX3_best_65 hl (k := 6) rfl rfl (by decide) rfl (fun ls hl => ?_)
        refine lv_goto (tgt := 22) hx hb dX3_best_68 (by decide) ?_
        exact hK22 _ _ _ _ _ _ _ hf _ _ _ S (lv_sub hl [2, 3, 4, 5, 6, 0] rfl)
      · replace hf := ip hf hc
        refine lv_iconst (v := (-1)) hx hb dX3_best_63 (by decide) ?_
        obtain rfl := Option.some.inj hf
        exact Z _ _ _ _ dX3_best_64 S
    · replace hf := im hf hc
      refine lv_iload hx hb dX3_best_54 (lv_at hl 0 rfl) ?_
      obtain rfl := Option.some.inj hf
      exact Z _ _ _ _ dX3_best_56 S
def F_X3_best_22  : Nat → Nat → Int32 → Int32 → Int32 → Int32 → Int32 → HP → Option (Int32 × HP)
  | 0 => fun _ _ _ _ _ _ _ => none
  | n + 1 => fun a0 x1 x2 x3 x4 x5 h => f_X3_best_b22 (F_X3_best_22  n) a0 x1 x2 x3 x4 x5 h
theorem wl_X3_best_22 (X : CX RX3 cX3_best 7 (some .int) p s m args meth c G b) {out : Int32 × HP} (Z : ZI p l e RM_X3_best s m args below meth c cX3_best G b False 0 0 Q out)  : ∀ (n : Nat) (a0 : Nat) (x1 : Int32) (x2 : Int32) (x3 : Int32) (x4 : Int32) (x5 : Int32) (h : HP), F_X3_best_22  n a0 x1 x2 x3 x4 x5 h = some out → ∀ (H : Heap) (locs : List Loc) (ls : Array Slot), ST G b False s h H locs → lv_has ls 7 [(0, .ref (b + a0)), (1, .int x1), (2, .int x2), (3, .int x3), (4, .int x4), (5, .int x5)] → W p l e RM_X3_best s m args below meth c H locs 0 0 Q (F0 m 22 ls []) := by
  intro n
  induction n with
  | zero => intro a0 x1 x2 x3 x4 x5 h hf; exact nn hf
  | succ n ih => exact w_X3_best_b22 X Z ih
def f_X3_best_e  (a0 : Nat) (x1 : Int32) (x2 : Int32) (h : HP) : Option (Int32 × HP) :=
  (gR h a0 3 2).bind fun r1 =>
  (f_X8_at r1 x1 h).bind fun q2 =>
  (gR q2.2 a0 3 3).bind fun r3 =>
  (f_X8_at r3 x1 q2.2).bind fun q4 =>
  F_X3_best_22  FU a0 x1 x2 q2.1 q4.1 0 q4.2
set_option maxRecDepth 100000 in
set_option maxHeartbeats 4000000 in
theorem w_X3_best_e (X : CX RX3 cX3_best 7 (some .int) p s m args meth c G b) {out : Int32 × HP} (Z : ZI p l e RM_X3_best s m args below meth c cX3_best G b False 0 0 Q out)  : ∀ (a0 : Nat) (x1 : Int32) (x2 : Int32) (h : HP), f_X3_best_e  a0 x1 x2 h = some out → ∀ (H : Heap) (locs : List Loc) (ls : Array Slot), ST G b False s h H locs → lv_has ls 7 [(0, .ref (b + a0)), (1, .int x1), (2, .int x2)] → W p l e RM_X3_best s m args below meth c H locs 0 0 Q (F0 m 0 ls []) := by
  intro a0 x1 x2 h hf H locs ls S hl
  unfold f_X3_best_e at hf
  have hx := X.1
  have hb := X.2.1
  refine lv_aload_n hx hb dX3_best_0 rfl (lv_at hl 0 rfl) ?_
  obtain ⟨r1, e_r1, hf⟩ := ob hf
  refine r_getR X S fl_X3_9 e_r1 dX3_best_1 ?_
  refine lv_iload_n hx hb dX3_best_4 rfl (lv_at hl 1 rfl) ?_
  obtain ⟨q2, e_q2, hf⟩ := ob hf
  refine r_callSN X S hl.1 (As := [.ref (b + r1), .int x1]) (rest := []) (c_X8_at e_q2) my_X8_at ms_X8_at nl_X3_51 ⟨rfl, rfl, Nat.le_of_ble_eq_true rfl, Nat.le_of_ble_eq_true rfl⟩ rfl rfl (Nat.le_of_ble_eq_true rfl) dX3_best_5 ⟨Nat.le_of_ble_eq_true rfl, Nat.le_of_ble_eq_true rfl⟩ (fun H locs S => ?_)
  refine W.eq (g2 := F0 m 8 ls [.int q2.1]) rfl ?_
  refine lv_istore_n (lv' := [(3, .int q2.1), (0, .ref (b + a0)), (1, .int x1), (2, .int x2)]) hx hb dX3_best_8 rfl hl (by decide) rfl (fun ls hl => ?_)
  refine lv_aload_n hx hb dX3_best_9 rfl (lv_at hl 1 rfl) ?_
  obtain ⟨r3, e_r3, hf⟩ := ob hf
  refine r_getR X S fl_X3_15 e_r3 dX3_best_10 ?_
  refine lv_iload_n hx hb dX3_best_13 rfl (lv_at hl 2 rfl) ?_
  obtain ⟨q4, e_q4, hf⟩ := ob hf
  refine r_callSN X S hl.1 (As := [.ref (b + r3), .int x1]) (rest := []) (c_X8_at e_q4) my_X8_at ms_X8_at nl_X3_51 ⟨rfl, rfl, Nat.le_of_ble_eq_true rfl, Nat.le_of_ble_eq_true rfl⟩ rfl rfl (Nat.le_of_ble_eq_true rfl) dX3_best_14 ⟨Nat.le_of_ble_eq_true rfl, Nat.le_of_ble_eq_true rfl⟩ (fun H locs S => ?_)
  refine W.eq (g2 := F0 m 17 ls [.int q4.1]) rfl ?_
  refine lv_istore (lv' := [(4, .int q4.1), (3, .int q2.1), (0, .ref (b + a0)), (1, .int x1), (2, .int x2)]) hx hb dX3_best_17 hl (by decide) rfl (fun ls hl => ?_)
  refine lv_iconst (v := 0) hx hb dX3_best_19 (by decide) ?_
  refine lv_istore (lv' := [(5, .int 0), (4, .int q4.1), (3, .int q2.1), (0, .ref (b + a0)), (1, .int x1), (2, .int x2)]) hx hb dX3_best_20 hl (by decide) rfl (fun ls hl => ?_)
  exact wl_X3_best_22 X Z  FU _ _ _ _ _ _ _ hf _ _ _ S (lv_sub hl [3, 4, 5, 2, 1, 0] rfl)
def f_X3_best (a0 : Nat) (x1 : Int32) (x2 : Int32) (h : HP) : Option (Int32 × HP) := ck h a0 3 (f_X3_best_e a0 x1 x2 h)
theorem o_X3_best {a0 : Nat} {x1 : Int32} {x2 : Int32} {h : HP} {out : Int32 × HP} (hf : f_X3_best a0 x1 x2 h = some out) : ∃ fs, h[a0]? = some (.inl (3, fs)) := (ck_spec hf).1
set_option maxRecDepth 100000 in
theorem c_X3_best {l : Launch} {G : GT} {b : Nat} {a0 : Nat} {x1 : Int32} {x2 : Int32} {h : HP} {out : Int32 × HP} (hf : f_X3_best a0 x1 x2 h = some out) : MT l G b False False yX3_best cX3_best 7 (some .int) RM_X3_best [.ref (b + a0), .int x1, .int x2] h (some (.int out.1)) out.2 0 0 := by
  refine met_of (by decide) (Nat.le_of_ble_eq_true rfl) ?_
  intro p e s m below meth c ls X hnm S hl
  have hl : lv_has ls 7 [(0, .ref (b + a0)), (1, .int x1), (2, .int x2)] := hl
  replace hf := (ck_spec hf).2
  exact w_X3_best_e X (z_i X) _ _ _ _ hf _ _ _ S hl
/-! RoomRings$Dealing.finish(III)V -/
abbrev RM_X1_finish : Room := { frames := 1, cells := 0, slots := 0, locals := 22 }
def f_X1_finish_e  (a0 : Nat) (x1 : Int32) (x2 : Int32) (x3 : Int32) (h : HP) : Option (HP) :=
  (gR h a0 1 3).bind fun r1 =>
  (f_X8_put r1 x1 x2 h).bind fun h2 =>
  (gR h2 a0 1 4).bind fun r3 =>
  (gI h2 a0 1 0).bind fun v4 =>
  (f_X8_put r3 x1 v4 h2).bind fun h5 =>
  (gR h5 a0 1 5).bind fun r6 =>
  (f_X8_put r6 x1 x3 h5).bind fun h7 =>
  some h7
set_option maxRecDepth 100000 in
set_option maxHeartbeats 4000000 in
theorem w_X1_finish_e (X : CX RX1 cX1_finish 4 none p s m args meth c G b) {out : HP} (Z : ZV p l e RM_X1_finish s m args below meth c cX1_finish G b False 0 0 Q out)  : ∀ (a0 : Nat) (x1 : Int32) (x2 : Int32) (x3 : Int32) (h : HP), f_X1_finish_e  a0 x1 x2 x3 h = some out → ∀ (H : Heap) (locs : List Loc) (ls : Array Slot), ST G b False s h H locs → lv_has ls 4 [(0, .ref (b + a0)), (1, .int x1), (2, .int x2), (3, .int x3)] → W p l e RM_X1_finish s m args below meth c H locs 0 0 Q (F0 m 0 ls []) := by
  intro a0 x1 x2 x3 h hf H locs ls S hl
  unfold f_X1_finish_e at hf
  have hx := X.1
  have hb := X.2.1
  refine lv_aload_n hx hb dX1_finish_0 rfl (lv_at hl 0 rfl) ?_
  obtain ⟨r1, e_r1, hf⟩ := ob hf
  refine r_getR X S fl_X1_9 e_r1 dX1_finish_1 ?_
  refine lv_iload_n hx hb dX1_finish_4 rfl (lv_at hl 1 rfl) ?_
  refine lv_iload_n hx hb dX1_finish_5 rfl (lv_at hl 2 rfl) ?_
  obtain ⟨h2, e_h2, hf⟩ := ob hf
  refine r_callSN X S hl.1 (As := [.ref (b + r1), .int x1, .int x2]) (rest := []) (c_X8_put e_h2) my_X8_put ms_X8_put nl_X1_74 ⟨rfl, rfl, Nat.le_of_ble_eq_true rfl, Nat.le_of_ble_eq_true rfl⟩ rfl rfl (Nat.le_of_ble_eq_true rfl) dX1_finish_6 ⟨Nat.le_of_ble_eq_true rfl, Nat.le_of_ble_eq_true rfl⟩ (fun H locs S => ?_)
  refine W.eq (g2 := F0 m 9 ls []) rfl ?_
  refine lv_aload_n hx hb dX1_finish_9 rfl (lv_at hl 0 rfl) ?_
  obtain ⟨r3, e_r3, hf⟩ := ob hf
  refine r_getR X S fl_X1_15 e_r3 dX1_finish_10 ?_
  refine lv_iload_n hx hb dX1_finish_13 rfl (lv_at hl 1 rfl) ?_
  refine lv_aload_n hx hb dX1_finish_14 rfl (lv_at hl 0 rfl) ?_
  obtain ⟨v4, e_v4, hf⟩ := ob hf
  refine r_getI X S fl_X1_46 e_v4 dX1_finish_15 ?_
  obtain ⟨h5, e_h5, hf⟩ := ob hf
  refine r_callSN X S hl.1 (As := [.ref (b + r3), .int x1, .int v4]) (rest := []) (c_X8_put e_h5) my_X8_put ms_X8_put nl_X1_74 ⟨rfl, rfl, Nat.le_of_ble_eq_true rfl, Nat.le_of_ble_eq_true rfl⟩ rfl rfl (Nat.le_of_ble_eq_true rfl) dX1_finish_18 ⟨Nat.le_of_ble_eq_true rfl, Nat.le_of_ble_eq_true rfl⟩ (fun H locs S => ?_)
  refine W.eq (g2 := F0 m 21 ls []) rfl ?_
  refine lv_aload_n hx hb dX1_finish_21 rfl (lv_at hl 0 rfl) ?_
  obtain ⟨r6, e_r6, hf⟩ := ob hf
  refine r_getR X S fl_X1_18 e_r6 dX1_finish_22 ?_
  refine lv_iload_n hx hb dX1_finish_25 rfl (lv_at hl 1 rfl) ?_
  refine lv_iload_n hx hb dX1_finish_26 rfl (lv_at hl 3 rfl) ?_
  obtain ⟨h7, e_h7, hf⟩ := ob hf
  refine r_callSN X S hl.1 (As := [.ref (b + r6), .int x1, .int x3]) (rest := []) (c_X8_put e_h7) my_X8_put ms_X8_put nl_X1_74 ⟨rfl, rfl, Nat.le_of_ble_eq_true rfl, Nat.le_of_ble_eq_true rfl⟩ rfl rfl (Nat.le_of_ble_eq_true rfl) dX1_finish_27 ⟨Nat.le_of_ble_eq_true rfl, Nat.le_of_ble_eq_true rfl⟩ (fun H locs S => ?_)
  refine W.eq (g2 := F0 m 30 ls []) rfl ?_
  obtain rfl := Option.some.inj hf
  exact Z _ _ _ _ dX1_finish_30 S
def f_X1_finish (a0 : Nat) (x1 : Int32) (x2 : Int32) (x3 : Int32) (h : HP) : Option (HP) := ck h a0 1 (f_X1_finish_e a0 x1 x2 x3 h)
theorem o_X1_finish {a0 : Nat} {x1 : Int32} {x2 : Int32} {x3 : Int32} {h : HP} {out : HP} (hf : f_X1_finish a0 x1 x2 x3 h = some out) : ∃ fs, h[a0]? = some (.inl (1, fs)) := (ck_spec hf).1
set_option maxRecDepth 100000 in
theorem c_X1_finish {l : Launch} {G : GT} {b : Nat} {a0 : Nat} {x1 : Int32} {x2 : Int32} {x3 : Int32} {h : HP} {out : HP} (hf : f_X1_finish a0 x1 x2 x3 h = some out) : MT l G b False False yX1_finish cX1_finish 4 none RM_X1_finish [.ref (b + a0), .int x1, .int x2, .int x3] h none out 0 0 := by
  refine met_of (by decide) (Nat.le_of_ble_eq_true rfl) ?_
  intro p e s m below meth c ls X hnm S hl
  have hl : lv_has ls 4 [(0, .ref (b + a0)), (1, .int x1), (2, .int x2), (3, .int x3)] := hl
  replace hf := (ck_spec hf).2
  exact w_X1_finish_e X (z_v X) _ _ _ _ _ hf _ _ _ S hl
/-! RoomRings$Dealing.aim(LRoomRings$House;)V -/
abbrev RM_X1_aim : Room := { frames := 2, cells := 0, slots := 0, locals := 47 }
def f_X1_aim_b68 (K2 : Nat → Nat → Int32 → HP → Option (HP)) (a0 : Nat) (a1 : Nat) (x2 : Int32) (h : HP) : Option (HP) :=
  K2 a0 a1 (x2 + 1) h
set_option maxRecDepth 100000 in
set_option maxHeartbeats 4000000 in
theorem w_X1_aim_b68 (X : CX RX1 cX1_aim 4 none p s m args meth c G b) {out : HP} (Z : ZV p l e RM_X1_aim s m args below meth c cX1_aim G b False 0 0 Q out) {K2 : Nat → Nat → Int32 → HP → Option (HP)} (hK2 : ∀ (a0 : Nat) (a1 : Nat) (x2 : Int32) (h : HP), K2 a0 a1 x2 h = some out → ∀ (H : Heap) (locs : List Loc) (ls : Array Slot), ST G b False s h H locs → lv_has ls 4 [(0, .ref (b + a0)), (1, .ref (b + a1)), (2, .int x2)] → W p l e RM_X1_aim s m args below meth c H locs 0 0 Q (F0 m 2 ls [])) : ∀ (a0 : Nat) (a1 : Nat) (x2 : Int32) (h : HP), f_X1_aim_b68 K2 a0 a1 x2 h = some out → ∀ (H : Heap) (locs : List Loc) (ls : Array Slot), ST G b False s h H locs → lv_has ls 4 [(0, .ref (b + a0)), (1, .ref (b + a1)), (2, .int x2)] → W p l e RM_X1_aim s m args below meth c H locs 0 0 Q (F0 m 68 ls []) := by
  intro a0 a1 x2 h hf H locs ls S hl
  unfold f_X1_aim_b68 at hf
  have hx := X.1
  have hb := X.2.1
  refine lv_iinc (v := x2 + 1) (lv' := [(2, .int (x2 + 1)), (0, .ref (b + a0)), (1, .ref (b + a1))]) hx hb dX1_aim_68 hl (k := 2) rfl rfl (by decide) rfl (fun ls hl => ?_)
  refine lv_goto (tgt := 2) hx hb dX1_aim_71 (by decide) ?_
  exact hK2 _ _ _ _ hf _ _ _ S (lv_sub hl [1, 2, 0] rfl)
def f_X1_aim_b2 (K2 : Nat → Nat → Int32 → HP → Option (HP)) (a0 : Nat) (a1 : Nat) (x2 : Int32) (h : HP) : Option (HP) :=
  (gI h a1 3 1).bind fun v1 =>
  if v1 ≤ x2 then
    some h
  else
    (gI h a0 1 2).bind fun v2 =>
    (f_X8_holds v2 x2 h).bind fun q3 =>
    if q3.1 = 0 then
      f_X1_aim_b68 K2 a0 a1 x2 q3.2
    else
      (gI q3.2 a0 1 1).bind fun v4 =>
      (f_X3_best a1 x2 v4 q3.2).bind fun q5 =>
      (gR q5.2 a0 1 6).bind fun r6 =>
      (f_X8_put r6 x2 q5.1 q5.2).bind fun h7 =>
      if q5.1 = (-1) then
        (f_X8_with 0 x2 h7).bind fun q8 =>
        (f_X1_finish a0 x2 (-1) q8.1 q8.2).bind fun h9 =>
        (gI h9 a0 1 2).bind fun v10 =>
        (f_X8_without v10 x2 h9).bind fun q11 =>
        (pI q11.2 a0 1 2 q11.1).bind fun h12 =>
        f_X1_aim_b68 K2 a0 a1 x2 h12
      else
        f_X1_aim_b68 K2 a0 a1 x2 h7
set_option maxRecDepth 100000 in
set_option maxHeartbeats 4000000 in
theorem w_X1_aim_b2 (X : CX RX1 cX1_aim 4 none p s m args meth c G b) {out : HP} (Z : ZV p l e RM_X1_aim s m args below meth c cX1_aim G b False 0 0 Q out) {K2 : Nat → Nat → Int32 → HP → Option (HP)} (hK2 : ∀ (a0 : Nat) (a1 : Nat) (x2 : Int32) (h : HP), K2 a0 a1 x2 h = some out → ∀ (H : Heap) (locs : List Loc) (ls : Array Slot), ST G b False s h H locs → lv_has ls 4 [(0, .ref (b + a0)), (1, .ref (b + a1)), (2, .int x2)] → W p l e RM_X1_aim s m args below meth c H locs 0 0 Q (F0 m 2 ls [])) : ∀ (a0 : Nat) (a1 : Nat) (x2 : Int32) (h : HP), f_X1_aim_b2 K2 a0 a1 x2 h = some out → ∀ (H : Heap) (locs : List Loc) (ls : Array Slot), ST G b False s h H locs → lv_has ls 4 [(0, .ref (b + a0)), (1, .ref (b + a1)), (2, .int x2)] → W p l e RM_X1_aim s m args below meth c H locs 0 0 Q (F0 m 2 ls []) := by
  intro a0 a1 x2 h hf H locs ls S hl
  unfold f_X1_aim_b2 at hf
  have hx := X.1
  have hb := X.2.1
  refine lv_iload_n hx hb dX1_aim_2 rfl (lv_at hl 2 rfl) ?_
  refine lv_aload_n hx hb dX1_aim_3 rfl (lv_at hl 1 rfl) ?_
  obtain ⟨v1, e_v1, hf⟩ := ob hf
  refine r_getI X S fl_X1_27 e_v1 dX1_aim_4 ?_
  refine lv_icmp_ge (tgt := 74) hx hb dX1_aim_7 (by decide) (fun hc => ?_) (fun hc => ?_)
  · replace hf := ip hf hc
    obtain rfl := Option.some.inj hf
    exact Z _ _ _ _ dX1_aim_74 S
  · replace hf := im hf hc
    refine lv_aload_n hx hb dX1_aim_10 rfl (lv_at hl 0 rfl) ?_
    obtain ⟨v2, e_v2, hf⟩ := ob hf
    refine r_getI X S fl_X1_37 e_v2 dX1_aim_11 ?_
    refine lv_iload_n hx hb dX1_aim_14 rfl (lv_at hl 2 rfl) ?_
    obtain ⟨q3, e_q3, hf⟩ := ob hf
    refine r_callSN X S hl.1 (As := [.int v2, .int x2]) (rest := []) (c_X8_holds e_q3) my_X8_holds ms_X8_holds nl_X1_67 ⟨rfl, rfl, Nat.le_of_ble_eq_true rfl, Nat.le_of_ble_eq_true rfl⟩ rfl rfl (Nat.le_of_ble_eq_true rfl) dX1_aim_15 ⟨Nat.le_of_ble_eq_true rfl, Nat.le_of_ble_eq_true rfl⟩ (fun H locs S => ?_)
    refine W.eq (g2 := F0 m 18 ls [.int q3.1]) rfl ?_
    refine lv_if_eq (tgt := 68) hx hb dX1_aim_18 (by decide) (fun hc => ?_) (fun hc => ?_)
    · replace hf := ip hf hc
      exact w_X1_aim_b68 X Z hK2 _ _ _ _ hf _ _ _ S (lv_sub hl [0, 1, 2] rfl)
    · replace hf := im hf hc
      refine lv_aload_n hx hb dX1_aim_21 rfl (lv_at hl 1 rfl) ?_
      refine lv_iload_n hx hb dX1_aim_22 rfl (lv_at hl 2 rfl) ?_
      refine lv_aload_n hx hb dX1_aim_23 rfl (lv_at hl 0 rfl) ?_
      obtain ⟨v4, e_v4, hf⟩ := ob hf
      refine r_getI X S fl_X1_43 e_v4 dX1_aim_24 ?_
      obtain ⟨q5, e_q5, hf⟩ := ob hf
      refine r_callV X S hl.1 (As := [.int x2, .int v4]) (rest := []) (c_X3_best e_q5) my_X3_best mv_X3_best ml_X1_71 rfl (o_X3_best e_q5) ⟨rfl, rfl, Nat.le_of_ble_eq_true rfl, Nat.le_of_ble_eq_true rfl⟩ rfl rfl (Nat.le_of_ble_eq_true rfl) dX1_aim_27 ⟨Nat.le_of_ble_eq_true rfl, Nat.le_of_ble_eq_true rfl⟩ (fun H locs S => ?_)
      refine W.eq (g2 := F0 m 30 ls [.int q5.1]) rfl ?_
      refine lv_istore_n (lv' := [(3, .int q5.1), (0, .ref (b + a0)), (1, .ref (b + a1)), (2, .int x2)]) hx hb dX1_aim_30 rfl hl (by decide) rfl (fun ls hl => ?_)
      refine lv_aload_n hx hb dX1_aim_31 rfl (lv_at hl 1 rfl) ?_
      obtain ⟨r6, e_r6, hf⟩ := ob hf
      refine r_getR X S fl_X1_21 e_r6 dX1_aim_32 ?_
      refine lv_iload_n hx hb dX1_aim_35 rfl (lv_at hl 3 rfl) ?_
      refine lv_iload_n hx hb dX1_aim_36 rfl (lv_at hl 0 rfl) ?_
      obtain ⟨h7, e_h7, hf⟩ := ob hf
      refine r_callSN X S hl.1 (As := [.ref (b + r6), .int x2, .int q5.1]) (rest := []) (c_X8_put e_h7) my_X8_put ms_X8_put nl_X1_74 ⟨rfl, rfl, Nat.le_of_ble_eq_true rfl, Nat.le_of_ble_eq_true rfl⟩ rfl rfl (Nat.le_of_ble_eq_true rfl) dX1_aim_37 ⟨Nat.le_of_ble_eq_true rfl, Nat.le_of_ble_eq_true rfl⟩ (fun H locs S => ?_)
      refine W.eq (g2 := F0 m 40 ls []) rfl ?_
      refine lv_iload_n hx hb dX1_aim_40 rfl (lv_at hl 0 rfl) ?_
      refine lv_iconst (v := (-1)) hx hb dX1_aim_41 (by decide) ?_
      refine lv_icmp_ne (tgt := 68) hx hb dX1_aim_42 (by decide) (fun hc => ?_) (fun hc => ?_)
      · replace hf := im hf hc
        exact w_X1_aim_b68 X Z hK2 _ _ _ _ hf _ _ _ S (lv_sub hl [1, 2, 3] rfl)
      · replace hf := ip hf hc
        refine lv_aload_n hx hb dX1_aim_45 rfl (lv_at hl 1 rfl) ?_
        refine lv_iload_n hx hb dX1_aim_46 rfl (lv_at hl 3 rfl) ?_
        refine lv_iconst (v := (-1)) hx hb dX1_aim_47 (by decide) ?_
        refine lv_iconst (v := 0) hx hb dX1_aim_48 (by decide) ?_
        refine lv_iload_n hx hb dX1_aim_49 rfl (lv_at hl 3 rfl) ?_
        obtain ⟨q8, e_q8, hf⟩ := ob hf
        refine r_callSN X S hl.1 (As := [.int 0, .int x2]) (rest := [.int (-1), .int x2, .ref (b + a0)]) (c_X8_with e_q8) my_X8_with ms_X8_with nl_X1_63 ⟨rfl, rfl, Nat.le_of_ble_eq_true rfl, Nat.le_of_ble_eq_true rfl⟩ rfl rfl (Nat.le_of_ble_eq_true rfl) dX1_aim_50 ⟨Nat.le_of_ble_eq_true rfl, Nat.le_of_ble_eq_true rfl⟩ (fun H locs S => ?_)
        refine W.eq (g2 := F0 m 53 ls [.int q8.1, .int (-1), .int x2, .ref (b + a0)]) rfl ?_
        obtain ⟨h9, e_h9, hf⟩ := ob hf
        refine r_callV X S hl.1 (As := [.int x2, .int (-1), .int q8.1]) (rest := []) (c_X1_finish e_h9) my_X1_finish mv_X1_finish ml_X1_78 rfl (o_X1_finish e_h9) ⟨rfl, rfl, Nat.le_of_ble_eq_true rfl, Nat.le_of_ble_eq_true rfl⟩ rfl rfl (Nat.le_of_ble_eq_true rfl) dX1_aim_53 ⟨Nat.le_of_ble_eq_true rfl, Nat.le_of_ble_eq_true rfl⟩ (fun H locs S => ?_)
        refine W.eq (g2 := F0 m 56 ls []) rfl ?_
        refine lv_aload_n hx hb dX1_aim_56 rfl (lv_at hl 1 rfl) ?_
        refine lv_aload_n hx hb dX1_aim_57 rfl (lv_at hl 1 rfl) ?_
        obtain ⟨v10, e_v10, hf⟩ := ob hf
        refine r_getI X S fl_X1_37 e_v10 dX1_aim_58 ?_
        refine lv_iload_n hx hb dX1_aim_61 rfl (lv_at hl 3 rfl) ?_
        obtain ⟨q11, e_q11, hf⟩ := ob hf
        refine r_callSN X S hl.1 (As := [.int v10, .int x2]) (rest := [.ref (b + a0)]) (c_X8_without e_q11) my_X8_without ms_X8_without nl_X1_82 ⟨rfl, rfl, Nat.le_of_ble_eq_true rfl, Nat.le_of_ble_eq_true rfl⟩ rfl rfl (Nat.le_of_ble_eq_true rfl) dX1_aim_62 ⟨Nat.le_of_ble_eq_true rfl, Nat.le_of_ble_eq_true rfl⟩ (fun H locs S => ?_)
        refine W.eq (g2 := F0 m 65 ls [.int q11.1, .ref (b + a0)]) rfl ?_
        obtain ⟨h12, e_h12, hf⟩ := ob hf
        refine r_put X S fp_X1_37 (fun h9 => by cases h9) rfl rfl rfl e_h12 dX1_aim_65 (fun H locs S => ?_)
        exact w_X1_aim_b68 X Z hK2 _ _ _ _ hf _ _ _ S (lv_sub hl [1, 2, 3] rfl)
def F_X1_aim_2  : Nat → Nat → Nat → Int32 → HP → Option (HP)
  | 0 => fun _ _ _ _ => none
  | n + 1 => fun a0 a1 x2 h => f_X1_aim_b2 (F_X1_aim_2  n) a0 a1 x2 h
theorem wl_X1_aim_2 (X : CX RX1 cX1_aim 4 none p s m args meth c G b) {out : HP} (Z : ZV p l e RM_X1_aim s m args below meth c cX1_aim G b False 0 0 Q out)  : ∀ (n : Nat) (a0 : Nat) (a1 : Nat) (x2 : Int32) (h : HP), F_X1_aim_2  n a0 a1 x2 h = some out → ∀ (H : Heap) (locs : List Loc) (ls : Array Slot), ST G b False s h H locs → lv_has ls 4 [(0, .ref (b + a0)), (1, .ref (b + a1)), (2, .int x2)] → W p l e RM_X1_aim s m args below meth c H locs 0 0 Q (F0 m 2 ls []) := by
  intro n
  induction n with
  | zero => intro a0 a1 x2 h hf; exact nn hf
  | succ n ih => exact w_X1_aim_b2 X Z ih
def f_X1_aim_e  (a0 : Nat) (a1 : Nat) (h : HP) : Option (HP) :=
  F_X1_aim_2  FU a0 a1 0 h
set_option maxRecDepth 100000 in
set_option maxHeartbeats 4000000 in
theorem w_X1_aim_e (X : CX RX1 cX1_aim 4 none p s m args meth c G b) {out : HP} (Z : ZV p l e RM_X1_aim s m args below meth c cX1_aim G b False 0 0 Q out)  : ∀ (a0 : Nat) (a1 : Nat) (h : HP), f_X1_aim_e  a0 a1 h = some out → ∀ (H : Heap) (locs : List Loc) (ls : Array Slot), ST G b False s h H locs → lv_has ls 4 [(0, .ref (b + a0)), (1, .ref (b + a1))] → W p l e RM_X1_aim s m args below meth c H locs 0 0 Q (F0 m 0 ls []) := by
  intro a0 a1 h hf H locs ls S hl
  unfold f_X1_aim_e at hf
  have hx := X.1
  have hb := X.2.1
  refine lv_iconst (v := 0) hx hb dX1_aim_0 (by decide) ?_
  refine lv_istore_n (lv' := [(2, .int 0), (0, .ref (b + a0)), (1, .ref (b + a1))]) hx hb dX1_aim_1 rfl hl (by decide) rfl (fun ls hl => ?_)
  exact wl_X1_aim_2 X Z  FU _ _ _ _ hf _ _ _ S (lv_sub hl [1, 2, 0] rfl)
def f_X1_aim (a0 : Nat) (a1 : Nat) (h : HP) : Option (HP) := ck h a0 1 (f_X1_aim_e a0 a1 h)
theorem o_X1_aim {a0 : Nat} {a1 : Nat} {h : HP} {out : HP} (hf : f_X1_aim a0 a1 h = some out) : ∃ fs, h[a0]? = some (.inl (1, fs)) := (ck_spec hf).1
set_option maxRecDepth 100000 in
theorem c_X1_aim {l : Launch} {G : GT} {b : Nat} {a0 : Nat} {a1 : Nat} {h : HP} {out : HP} (hf : f_X1_aim a0 a1 h = some out) : MT l G b False False yX1_aim cX1_aim 4 none RM_X1_aim [.ref (b + a0), .ref (b + a1)] h none out 0 0 := by
  refine met_of (by decide) (Nat.le_of_ble_eq_true rfl) ?_
  intro p e s m below meth c ls X hnm S hl
  have hl : lv_has ls 4 [(0, .ref (b + a0)), (1, .ref (b + a1))] := hl
  replace hf := (ck_spec hf).2
  exact w_X1_aim_e X (z_v X) _ _ _ hf _ _ _ S hl
/-! RoomRings$House.firstOf(I)I -/
abbrev RM_X3_firstOf : Room := { frames := 1, cells := 0, slots := 0, locals := 21 }
def f_X3_firstOf_b2 (K2 : Nat → Int32 → Int32 → HP → Option (Int32 × HP)) (a0 : Nat) (x1 : Int32) (x2 : Int32) (h : HP) : Option (Int32 × HP) :=
  (gI h a0 3 1).bind fun v1 =>
  if v1 ≤ x2 then
    some ((-1), h)
  else
    (gR h a0 3 5).bind fun r2 =>
    (f_X8_at r2 x2 h).bind fun q3 =>
    (f_X8_holds x1 q3.1 q3.2).bind fun q4 =>
    if q4.1 = 0 then
      K2 a0 x1 (x2 + 1) q4.2
    else
      some (q3.1, q4.2)
set_option maxRecDepth 100000 in
set_option maxHeartbeats 4000000 in
theorem w_X3_firstOf_b2 (X : CX RX3 cX3_firstOf 4 (some .int) p s m args meth c G b) {out : Int32 × HP} (Z : ZI p l e RM_X3_firstOf s m args below meth c cX3_firstOf G b False 0 0 Q out) {K2 : Nat → Int32 → Int32 → HP → Option (Int32 × HP)} (hK2 : ∀ (a0 : Nat) (x1 : Int32) (x2 : Int32) (h : HP), K2 a0 x1 x2 h = some out → ∀ (H : Heap) (locs : List Loc) (ls : Array Slot), ST G b False s h H locs → lv_has ls 4 [(0, .ref (b + a0)), (1, .int x1), (2, .int x2)] → W p l e RM_X3_firstOf s m args below meth c H locs 0 0 Q (F0 m 2 ls [])) : ∀ (a0 : Nat) (x1 : Int32) (x2 : Int32) (h : HP), f_X3_firstOf_b2 K2 a0 x1 x2 h = some out → ∀ (H : Heap) (locs : List Loc) (ls : Array Slot), ST G b False s h H locs → lv_has ls 4 [(0, .ref (b + a0)), (1, .int x1), (2, .int x2)] → W p l e RM_X3_firstOf s m args below meth c H locs 0 0 Q (F0 m 2 ls []) := by
  intro a0 x1 x2 h hf H locs ls S hl
  unfold f_X3_firstOf_b2 at hf
  have hx := X.1
  have hb := X.2.1
  refine lv_iload_n hx hb dX3_firstOf_2 rfl (lv_at hl 2 rfl) ?_
  refine lv_aload_n hx hb dX3_firstOf_3 rfl (lv_at hl 0 rfl) ?_
  obtain ⟨v1, e_v1, hf⟩ := ob hf
  refine r_getI X S fl_X3_28 e_v1 dX3_firstOf_4 ?_
  refine lv_icmp_ge (tgt := 35) hx hb dX3_firstOf_7 (by decide) (fun hc => ?_) (fun hc => ?_)
  · replace hf := ip hf hc
    refine lv_iconst (v := (-1)) hx hb dX3_firstOf_35 (by decide) ?_
    obtain rfl := Option.some.inj hf
    exact Z _ _ _ _ dX3_firstOf_36 S
  · replace hf := im hf hc
    refine lv_aload_n hx hb dX3_firstOf_10 rfl (lv_at hl 0 rfl) ?_
    obtain ⟨r2, e_r2, hf⟩ := ob hf
    refine r_getR X S fl_X3_21 e_r2 dX3_firstOf_11 ?_
    refine lv_iload_n hx hb dX3_firstOf_14 rfl (lv_at hl 2 rfl) ?_
    obtain ⟨q3, e_q3, hf⟩ := ob hf
    refine r_callSN X S hl.1 (As := [.ref (b + r2), .int x2]) (rest := []) (c_X8_at e_q3) my_X8_at ms_X8_at nl_X3_51 ⟨rfl, rfl, Nat.le_of_ble_eq_true rfl, Nat.le_of_ble_eq_true rfl⟩ rfl rfl (Nat.le_of_ble_eq_true rfl) dX3_firstOf_15 ⟨Nat.le_of_ble_eq_true rfl, Nat.le_of_ble_eq_true rfl⟩ (fun H locs S => ?_)
    refine W.eq (g2 := F0 m 18 ls [.int q3.1]) rfl ?_
    refine lv_istore_n (lv' := [(3, .int q3.1), (0, .ref (b + a0)), (1, .int x1), (2, .int x2)]) hx hb dX3_firstOf_18 rfl hl (by decide) rfl (fun ls hl => ?_)
    refine lv_iload_n hx hb dX3_firstOf_19 rfl (lv_at hl 2 rfl) ?_
    refine lv_iload_n hx hb dX3_firstOf_20 rfl (lv_at hl 0 rfl) ?_
    obtain ⟨q4, e_q4, hf⟩ := ob hf
    refine r_callSN X S hl.1 (As := [.int x1, .int q3.1]) (rest := []) (c_X8_holds e_q4) my_X8_holds ms_X8_holds nl_X3_55 ⟨rfl, rfl, Nat.le_of_ble_eq_true rfl, Nat.le_of_ble_eq_true rfl⟩ rfl rfl (Nat.le_of_ble_eq_true rfl) dX3_firstOf_21 ⟨Nat.le_of_ble_eq_true rfl, Nat.le_of_ble_eq_true rfl⟩ (fun H locs S => ?_)
    refine W.eq (g2 := F0 m 24 ls [.int q4.1]) rfl ?_
    refine lv_if_eq (tgt := 29) hx hb dX3_firstOf_24 (by decide) (fun hc => ?_) (fun hc => ?_)
    · replace hf := ip hf hc
      refine lv_iinc (v := x2 + 1) (lv' := [(2, .int (x2 + 1)), (3, .int q3.1), (0, .ref (b + a0)), (1, .int x1)]) hx hb dX3_firstOf_29 hl (k := 3) rfl rfl (by decide) rfl (fun ls hl => ?_)
      refine lv_goto (tgt := 2) hx hb dX3_firstOf_32 (by decide) ?_
      exact hK2 _ _ _ _ hf _ _ _ S (lv_sub hl [2, 3, 0] rfl)
    · replace hf := im hf hc
      refine lv_iload_n hx hb dX3_firstOf_27 rfl (lv_at hl 0 rfl) ?_
      obtain rfl := Option.some.inj hf
      exact Z _ _ _ _ dX3_firstOf_28 S
def F_X3_firstOf_2  : Nat → Nat → Int32 → Int32 → HP → Option (Int32 × HP)
  | 0 => fun _ _ _ _ => none
  | n + 1 => fun a0 x1 x2 h => f_X3_firstOf_b2 (F_X3_firstOf_2  n) a0 x1 x2 h
theorem wl_X3_firstOf_2 (X : CX RX3 cX3_firstOf 4 (some .int) p s m args meth c G b) {out : Int32 × HP} (Z : ZI p l e RM_X3_firstOf s m args below meth c cX3_firstOf G b False 0 0 Q out)  : ∀ (n : Nat) (a0 : Nat) (x1 : Int32) (x2 : Int32) (h : HP), F_X3_firstOf_2  n a0 x1 x2 h = some out → ∀ (H : Heap) (locs : List Loc) (ls : Array Slot), ST G b False s h H locs → lv_has ls 4 [(0, .ref (b + a0)), (1, .int x1), (2, .int x2)] → W p l e RM_X3_firstOf s m args below meth c H locs 0 0 Q (F0 m 2 ls []) := by
  intro n
  induction n with
  | zero => intro a0 x1 x2 h hf; exact nn hf
  | succ n ih => exact w_X3_firstOf_b2 X Z ih
def f_X3_firstOf_e  (a0 : Nat) (x1 : Int32) (h : HP) : Option (Int32 × HP) :=
  F_X3_firstOf_2  FU a0 x1 0 h
set_option maxRecDepth 100000 in
set_option maxHeartbeats 4000000 in
theorem w_X3_firstOf_e (X : CX RX3 cX3_firstOf 4 (some .int) p s m args meth c G b) {out : Int32 × HP} (Z : ZI p l e RM_X3_firstOf s m args below meth c cX3_firstOf G b False 0 0 Q out)  : ∀ (a0 : Nat) (x1 : Int32) (h : HP), f_X3_firstOf_e  a0 x1 h = some out → ∀ (H : Heap) (locs : List Loc) (ls : Array Slot), ST G b False s h H locs → lv_has ls 4 [(0, .ref (b + a0)), (1, .int x1)] → W p l e RM_X3_firstOf s m args below meth c H locs 0 0 Q (F0 m 0 ls []) := by
  intro a0 x1 h hf H locs ls S hl
  unfold f_X3_firstOf_e at hf
  have hx := X.1
  have hb := X.2.1
  refine lv_iconst (v := 0) hx hb dX3_firstOf_0 (by decide) ?_
  refine lv_istore_n (lv' := [(2, .int 0), (0, .ref (b + a0)), (1, .int x1)]) hx hb dX3_firstOf_1 rfl hl (by decide) rfl (fun ls hl => ?_)
  exact wl_X3_firstOf_2 X Z  FU _ _ _ _ hf _ _ _ S (lv_sub hl [1, 2, 0] rfl)
def f_X3_firstOf (a0 : Nat) (x1 : Int32) (h : HP) : Option (Int32 × HP) := ck h a0 3 (f_X3_firstOf_e a0 x1 h)
theorem o_X3_firstOf {a0 : Nat} {x1 : Int32} {h : HP} {out : Int32 × HP} (hf : f_X3_firstOf a0 x1 h = some out) : ∃ fs, h[a0]? = some (.inl (3, fs)) := (ck_spec hf).1
set_option maxRecDepth 100000 in
theorem c_X3_firstOf {l : Launch} {G : GT} {b : Nat} {a0 : Nat} {x1 : Int32} {h : HP} {out : Int32 × HP} (hf : f_X3_firstOf a0 x1 h = some out) : MT l G b False False yX3_firstOf cX3_firstOf 4 (some .int) RM_X3_firstOf [.ref (b + a0), .int x1] h (some (.int out.1)) out.2 0 0 := by
  refine met_of (by decide) (Nat.le_of_ble_eq_true rfl) ?_
  intro p e s m below meth c ls X hnm S hl
  have hl : lv_has ls 4 [(0, .ref (b + a0)), (1, .int x1)] := hl
  replace hf := (ck_spec hf).2
  exact w_X3_firstOf_e X (z_i X) _ _ _ hf _ _ _ S hl
/-! RoomRings$House.sitter(I)I -/
abbrev RM_X3_sitter : Room := { frames := 1, cells := 0, slots := 0, locals := 21 }
def f_X3_sitter_b29 (K2 : Nat → Int32 → Int32 → HP → Option (Int32 × HP)) (a0 : Nat) (x1 : Int32) (x2 : Int32) (h : HP) : Option (Int32 × HP) :=
  K2 a0 x1 (x2 + 1) h
set_option maxRecDepth 100000 in
set_option maxHeartbeats 4000000 in
theorem w_X3_sitter_b29 (X : CX RX3 cX3_sitter 3 (some .int) p s m args meth c G b) {out : Int32 × HP} (Z : ZI p l e RM_X3_sitter s m args below meth c cX3_sitter G b False 0 0 Q out) {K2 : Nat → Int32 → Int32 → HP → Option (Int32 × HP)} (hK2 : ∀ (a0 : Nat) (x1 : Int32) (x2 : Int32) (h : HP), K2 a0 x1 x2 h = some out → ∀ (H : Heap) (locs : List Loc) (ls : Array Slot), ST G b False s h H locs → lv_has ls 3 [(0, .ref (b + a0)), (1, .int x1), (2, .int x2)] → W p l e RM_X3_sitter s m args below meth c H locs 0 0 Q (F0 m 2 ls [])) : ∀ (a0 : Nat) (x1 : Int32) (x2 : Int32) (h : HP), f_X3_sitter_b29 K2 a0 x1 x2 h = some out → ∀ (H : Heap) (locs : List Loc) (ls : Array Slot), ST G b False s h H locs → lv_has ls 3 [(0, .ref (b + a0)), (1, .int x1), (2, .int x2)] → W p l e RM_X3_sitter s m args below meth c H locs 0 0 Q (F0 m 29 ls []) := by
  intro a0 x1 x2 h hf H locs ls S hl
  unfold f_X3_sitter_b29 at hf
  have hx := X.1
  have hb := X.2.1
  refine lv_iinc (v := x2 + 1) (lv' := [(2, .int (x2 + 1)), (0, .ref (b + a0)), (1, .int x1)]) hx hb dX3_sitter_29 hl (k := 2) rfl rfl (by decide) rfl (fun ls hl => ?_)
  refine lv_goto (tgt := 2) hx hb dX3_sitter_32 (by decide) ?_
  exact hK2 _ _ _ _ hf _ _ _ S (lv_sub hl [1, 2, 0] rfl)
def f_X3_sitter_b2 (K2 : Nat → Int32 → Int32 → HP → Option (Int32 × HP)) (a0 : Nat) (x1 : Int32) (x2 : Int32) (h : HP) : Option (Int32 × HP) :=
  (gI h a0 3 1).bind fun v1 =>
  if v1 ≤ x2 then
    some ((-1), h)
  else
    if x1 = (-1) then
      f_X3_sitter_b29 K2 a0 x1 x2 h
    else
      (gR h a0 3 2).bind fun r2 =>
      (f_X8_at r2 x2 h).bind fun q3 =>
      if q3.1 = x1 then
        some (x2, q3.2)
      else
        f_X3_sitter_b29 K2 a0 x1 x2 q3.2
set_option maxRecDepth 100000 in
set_option maxHeartbeats 4000000 in
theorem w_X3_sitter_b2 (X : CX RX3 cX3_sitter 3 (some .int) p s m args meth c G b) {out : Int32 × HP} (Z : ZI p l e RM_X3_sitter s m args below meth c cX3_sitter G b False 0 0 Q out) {K2 : Nat → Int32 → Int32 → HP → Option (Int32 × HP)} (hK2 : ∀ (a0 : Nat) (x1 : Int32) (x2 : Int32) (h : HP), K2 a0 x1 x2 h = some out → ∀ (H : Heap) (locs : List Loc) (ls : Array Slot), ST G b False s h H locs → lv_has ls 3 [(0, .ref (b + a0)), (1, .int x1), (2, .int x2)] → W p l e RM_X3_sitter s m args below meth c H locs 0 0 Q (F0 m 2 ls [])) : ∀ (a0 : Nat) (x1 : Int32) (x2 : Int32) (h : HP), f_X3_sitter_b2 K2 a0 x1 x2 h = some out → ∀ (H : Heap) (locs : List Loc) (ls : Array Slot), ST G b False s h H locs → lv_has ls 3 [(0, .ref (b + a0)), (1, .int x1), (2, .int x2)] → W p l e RM_X3_sitter s m args below meth c H locs 0 0 Q (F0 m 2 ls []) := by
  intro a0 x1 x2 h hf H locs ls S hl
  unfold f_X3_sitter_b2 at hf
  have hx := X.1
  have hb := X.2.1
  refine lv_iload_n hx hb dX3_sitter_2 rfl (lv_at hl 2 rfl) ?_
  refine lv_aload_n hx hb dX3_sitter_3 rfl (lv_at hl 0 rfl) ?_
  obtain ⟨v1, e_v1, hf⟩ := ob hf
  refine r_getI X S fl_X3_28 e_v1 dX3_sitter_4 ?_
  refine lv_icmp_ge (tgt := 35) hx hb dX3_sitter_7 (by decide) (fun hc => ?_) (fun hc => ?_)
  · replace hf := ip hf hc
    refine lv_iconst (v := (-1)) hx hb dX3_sitter_35 (by decide) ?_
    obtain rfl := Option.some.inj hf
    exact Z _ _ _ _ dX3_sitter_36 S
  · replace hf := im hf hc
    refine lv_iload_n hx hb dX3_sitter_10 rfl (lv_at hl 1 rfl) ?_
    refine lv_iconst (v := (-1)) hx hb dX3_sitter_11 (by decide) ?_
    refine lv_icmp_eq (tgt := 29) hx hb dX3_sitter_12 (by decide) (fun hc => ?_) (fun hc => ?_)
    · replace hf := ip hf hc
      exact w_X3_sitter_b29 X Z hK2 _ _ _ _ hf _ _ _ S (lv_sub hl [0, 1, 2] rfl)
    · replace hf := im hf hc
      refine lv_aload_n hx hb dX3_sitter_15 rfl (lv_at hl 0 rfl) ?_
      obtain ⟨r2, e_r2, hf⟩ := ob hf
      refine r_getR X S fl_X3_9 e_r2 dX3_sitter_16 ?_
      refine lv_iload_n hx hb dX3_sitter_19 rfl (lv_at hl 2 rfl) ?_
      obtain ⟨q3, e_q3, hf⟩ := ob hf
      refine r_callSN X S hl.1 (As := [.ref (b + r2), .int x2]) (rest := []) (c_X8_at e_q3) my_X8_at ms_X8_at nl_X3_51 ⟨rfl, rfl, Nat.le_of_ble_eq_true rfl, Nat.le_of_ble_eq_true rfl⟩ rfl rfl (Nat.le_of_ble_eq_true rfl) dX3_sitter_20 ⟨Nat.le_of_ble_eq_true rfl, Nat.le_of_ble_eq_true rfl⟩ (fun H locs S => ?_)
      refine W.eq (g2 := F0 m 23 ls [.int q3.1]) rfl ?_
      refine lv_iload_n hx hb dX3_sitter_23 rfl (lv_at hl 1 rfl) ?_
      refine lv_icmp_ne (tgt := 29) hx hb dX3_sitter_24 (by decide) (fun hc => ?_) (fun hc => ?_)
      · replace hf := im hf hc
        exact w_X3_sitter_b29 X Z hK2 _ _ _ _ hf _ _ _ S (lv_sub hl [0, 1, 2] rfl)
      · replace hf := ip hf hc
        refine lv_iload_n hx hb dX3_sitter_27 rfl (lv_at hl 2 rfl) ?_
        obtain rfl := Option.some.inj hf
        exact Z _ _ _ _ dX3_sitter_28 S
def F_X3_sitter_2  : Nat → Nat → Int32 → Int32 → HP → Option (Int32 × HP)
  | 0 => fun _ _ _ _ => none
  | n + 1 => fun a0 x1 x2 h => f_X3_sitter_b2 (F_X3_sitter_2  n) a0 x1 x2 h
theorem wl_X3_sitter_2 (X : CX RX3 cX3_sitter 3 (some .int) p s m args meth c G b) {out : Int32 × HP} (Z : ZI p l e RM_X3_sitter s m args below meth c cX3_sitter G b False 0 0 Q out)  : ∀ (n : Nat) (a0 : Nat) (x1 : Int32) (x2 : Int32) (h : HP), F_X3_sitter_2  n a0 x1 x2 h = some out → ∀ (H : Heap) (locs : List Loc) (ls : Array Slot), ST G b False s h H locs → lv_has ls 3 [(0, .ref (b + a0)), (1, .int x1), (2, .int x2)] → W p l e RM_X3_sitter s m args below meth c H locs 0 0 Q (F0 m 2 ls []) := by
  intro n
  induction n with
  | zero => intro a0 x1 x2 h hf; exact nn hf
  | succ n ih => exact w_X3_sitter_b2 X Z ih
def f_X3_sitter_e  (a0 : Nat) (x1 : Int32) (h : HP) : Option (Int32 × HP) :=
  F_X3_sitter_2  FU a0 x1 0 h
set_option maxRecDepth 100000 in
set_option maxHeartbeats 4000000 in
theorem w_X3_sitter_e (X : CX RX3 cX3_sitter 3 (some .int) p s m args meth c G b) {out : Int32 × HP} (Z : ZI p l e RM_X3_sitter s m args below meth c cX3_sitter G b False 0 0 Q out)  : ∀ (a0 : Nat) (x1 : Int32) (h : HP), f_X3_sitter_e  a0 x1 h = some out → ∀ (H : Heap) (locs : List Loc) (ls : Array Slot), ST G b False s h H locs → lv_has ls 3 [(0, .ref (b + a0)), (1, .int x1)] → W p l e RM_X3_sitter s m args below meth c H locs 0 0 Q (F0 m 0 ls []) := by
  intro a0 x1 h hf H locs ls S hl
  unfold f_X3_sitter_e at hf
  have hx := X.1
  have hb := X.2.1
  refine lv_iconst (v := 0) hx hb dX3_sitter_0 (by decide) ?_
  refine lv_istore_n (lv' := [(2, .int 0), (0, .ref (b + a0)), (1, .int x1)]) hx hb dX3_sitter_1 rfl hl (by decide) rfl (fun ls hl => ?_)
  exact wl_X3_sitter_2 X Z  FU _ _ _ _ hf _ _ _ S (lv_sub hl [1, 2, 0] rfl)
def f_X3_sitter (a0 : Nat) (x1 : Int32) (h : HP) : Option (Int32 × HP) := ck h a0 3 (f_X3_sitter_e a0 x1 h)
theorem o_X3_sitter {a0 : Nat} {x1 : Int32} {h : HP} {out : Int32 × HP} (hf : f_X3_sitter a0 x1 h = some out) : ∃ fs, h[a0]? = some (.inl (3, fs)) := (ck_spec hf).1
set_option maxRecDepth 100000 in
theorem c_X3_sitter {l : Launch} {G : GT} {b : Nat} {a0 : Nat} {x1 : Int32} {h : HP} {out : Int32 × HP} (hf : f_X3_sitter a0 x1 h = some out) : MT l G b False False yX3_sitter cX3_sitter 3 (some .int) RM_X3_sitter [.ref (b + a0), .int x1] h (some (.int out.1)) out.2 0 0 := by
  refine met_of (by decide) (Nat.le_of_ble_eq_true rfl) ?_
  intro p e s m below meth c ls X hnm S hl
  have hl : lv_has ls 3 [(0, .ref (b + a0)), (1, .int x1)] := hl
  replace hf := (ck_spec hf).2
  exact w_X3_sitter_e X (z_i X) _ _ _ hf _ _ _ S hl
/-! RoomRings$Dealing.follow(LRoomRings$House;)V -/
abbrev RM_X1_follow : Room := { frames := 2, cells := 0, slots := 0, locals := 44 }
def f_X1_follow_b70 (K11 : Nat → Nat → Int32 → Int32 → HP → Option (HP)) (a0 : Nat) (a1 : Nat) (x2 : Int32) (x3 : Int32) (h : HP) : Option (HP) :=
  K11 a0 a1 x2 (x3 + 1) h
set_option maxRecDepth 100000 in
set_option maxHeartbeats 4000000 in
theorem w_X1_follow_b70 (X : CX RX1 cX1_follow 5 none p s m args meth c G b) {out : HP} (Z : ZV p l e RM_X1_follow s m args below meth c cX1_follow G b False 0 0 Q out) {K11 : Nat → Nat → Int32 → Int32 → HP → Option (HP)} (hK11 : ∀ (a0 : Nat) (a1 : Nat) (x2 : Int32) (x3 : Int32) (h : HP), K11 a0 a1 x2 x3 h = some out → ∀ (H : Heap) (locs : List Loc) (ls : Array Slot), ST G b False s h H locs → lv_has ls 5 [(0, .ref (b + a0)), (1, .ref (b + a1)), (2, .int x2), (3, .int x3)] → W p l e RM_X1_follow s m args below meth c H locs 0 0 Q (F0 m 11 ls [])) : ∀ (a0 : Nat) (a1 : Nat) (x2 : Int32) (x3 : Int32) (h : HP), f_X1_follow_b70 K11 a0 a1 x2 x3 h = some out → ∀ (H : Heap) (locs : List Loc) (ls : Array Slot), ST G b False s h H locs → lv_has ls 5 [(0, .ref (b + a0)), (1, .ref (b + a1)), (2, .int x2), (3, .int x3)] → W p l e RM_X1_follow s m args below meth c H locs 0 0 Q (F0 m 70 ls []) := by
  intro a0 a1 x2 x3 h hf H locs ls S hl
  unfold f_X1_follow_b70 at hf
  have hx := X.1
  have hb := X.2.1
  refine lv_iinc (v := x3 + 1) (lv' := [(3, .int (x3 + 1)), (0, .ref (b + a0)), (1, .ref (b + a1)), (2, .int x2)]) hx hb dX1_follow_70 hl (k := 3) rfl rfl (by decide) rfl (fun ls hl => ?_)
  refine lv_goto (tgt := 11) hx hb dX1_follow_73 (by decide) ?_
  exact hK11 _ _ _ _ _ hf _ _ _ S (lv_sub hl [1, 2, 3, 0] rfl)
def f_X1_follow_b67 (K11 : Nat → Nat → Int32 → Int32 → HP → Option (HP)) (a0 : Nat) (a1 : Nat) (x2 : Int32) (x3 : Int32) (s0 : Nat) (s1 : Int32) (s2 : Int32) (h : HP) : Option (HP) :=
  (f_X8_put s0 s1 s2 h).bind fun h1 =>
  f_X1_follow_b70 K11 a0 a1 x2 x3 h1
set_option maxRecDepth 100000 in
set_option maxHeartbeats 4000000 in
theorem w_X1_follow_b67 (X : CX RX1 cX1_follow 5 none p s m args meth c G b) {out : HP} (Z : ZV p l e RM_X1_follow s m args below meth c cX1_follow G b False 0 0 Q out) {K11 : Nat → Nat → Int32 → Int32 → HP → Option (HP)} (hK11 : ∀ (a0 : Nat) (a1 : Nat) (x2 : Int32) (x3 : Int32) (h : HP), K11 a0 a1 x2 x3 h = some out → ∀ (H : Heap) (locs : List Loc) (ls : Array Slot), ST G b False s h H locs → lv_has ls 5 [(0, .ref (b + a0)), (1, .ref (b + a1)), (2, .int x2), (3, .int x3)] → W p l e RM_X1_follow s m args below meth c H locs 0 0 Q (F0 m 11 ls [])) : ∀ (a0 : Nat) (a1 : Nat) (x2 : Int32) (x3 : Int32) (s0 : Nat) (s1 : Int32) (s2 : Int32) (h : HP), f_X1_follow_b67 K11 a0 a1 x2 x3 s0 s1 s2 h = some out → ∀ (H : Heap) (locs : List Loc) (ls : Array Slot), ST G b False s h H locs → lv_has ls 5 [(0, .ref (b + a0)), (1, .ref (b + a1)), (2, .int x2), (3, .int x3)] → W p l e RM_X1_follow s m args below meth c H locs 0 0 Q (F0 m 67 ls [.int s2, .int s1, .ref (b + s0)]) := by
  intro a0 a1 x2 x3 s0 s1 s2 h hf H locs ls S hl
  unfold f_X1_follow_b67 at hf
  have hx := X.1
  have hb := X.2.1
  obtain ⟨h1, e_h1, hf⟩ := ob hf
  refine r_callSN X S hl.1 (As := [.ref (b + s0), .int s1, .int s2]) (rest := []) (c_X8_put e_h1) my_X8_put ms_X8_put nl_X1_74 ⟨rfl, rfl, Nat.le_of_ble_eq_true rfl, Nat.le_of_ble_eq_true rfl⟩ rfl rfl (Nat.le_of_ble_eq_true rfl) dX1_follow_67 ⟨Nat.le_of_ble_eq_true rfl, Nat.le_of_ble_eq_true rfl⟩ (fun H locs S => ?_)
  refine W.eq (g2 := F0 m 70 ls []) rfl ?_
  exact w_X1_follow_b70 X Z hK11 _ _ _ _ _ hf _ _ _ S (lv_sub hl [0, 1, 2, 3] rfl)
def f_X1_follow_b11 (K11 : Nat → Nat → Int32 → Int32 → HP → Option (HP)) (a0 : Nat) (a1 : Nat) (x2 : Int32) (x3 : Int32) (h : HP) : Option (HP) :=
  (gI h a1 3 1).bind fun v1 =>
  if v1 ≤ x3 then
    some h
  else
    (gI h a0 1 2).bind fun v2 =>
    (f_X8_holds v2 x3 h).bind fun q3 =>
    if q3.1 = 0 then
      f_X1_follow_b70 K11 a0 a1 x2 x3 q3.2
    else
      (gR q3.2 a0 1 6).bind fun r4 =>
      (f_X8_at r4 x3 q3.2).bind fun q5 =>
      (f_X3_sitter a1 q5.1 q5.2).bind fun q6 =>
      (gR q6.2 a0 1 7).bind fun r7 =>
      (gI q6.2 a0 1 2).bind fun v8 =>
      (f_X8_holds v8 q6.1 q6.2).bind fun q9 =>
      if q9.1 = 0 then
        f_X1_follow_b67 K11 a0 a1 x2 x3 r7 x3 x2 q9.2
      else
        f_X1_follow_b67 K11 a0 a1 x2 x3 r7 x3 q6.1 q9.2
set_option maxRecDepth 100000 in
set_option maxHeartbeats 4000000 in
theorem w_X1_follow_b11 (X : CX RX1 cX1_follow 5 none p s m args meth c G b) {out : HP} (Z : ZV p l e RM_X1_follow s m args below meth c cX1_follow G b False 0 0 Q out) {K11 : Nat → Nat → Int32 → Int32 → HP → Option (HP)} (hK11 : ∀ (a0 : Nat) (a1 : Nat) (x2 : Int32) (x3 : Int32) (h : HP), K11 a0 a1 x2 x3 h = some out → ∀ (H : Heap) (locs : List Loc) (ls : Array Slot), ST G b False s h H locs → lv_has ls 5 [(0, .ref (b + a0)), (1, .ref (b + a1)), (2, .int x2), (3, .int x3)] → W p l e RM_X1_follow s m args below meth c H locs 0 0 Q (F0 m 11 ls [])) : ∀ (a0 : Nat) (a1 : Nat) (x2 : Int32) (x3 : Int32) (h : HP), f_X1_follow_b11 K11 a0 a1 x2 x3 h = some out → ∀ (H : Heap) (locs : List Loc) (ls : Array Slot), ST G b False s h H locs → lv_has ls 5 [(0, .ref (b + a0)), (1, .ref (b + a1)), (2, .int x2), (3, .int x3)] → W p l e RM_X1_follow s m args below meth c H locs 0 0 Q (F0 m 11 ls []) := by
  intro a0 a1 x2 x3 h hf H locs ls S hl
  unfold f_X1_follow_b11 at hf
  have hx := X.1
  have hb := X.2.1
  refine lv_iload_n hx hb dX1_follow_11 rfl (lv_at hl 3 rfl) ?_
  refine lv_aload_n hx hb dX1_follow_12 rfl (lv_at hl 1 rfl) ?_
  obtain ⟨v1, e_v1, hf⟩ := ob hf
  refine r_getI X S fl_X1_27 e_v1 dX1_follow_13 ?_
  refine lv_icmp_ge (tgt := 76) hx hb dX1_follow_16 (by decide) (fun hc => ?_) (fun hc => ?_)
  · replace hf := ip hf hc
    obtain rfl := Option.some.inj hf
    exact Z _ _ _ _ dX1_follow_76 S
  · replace hf := im hf hc
    refine lv_aload_n hx hb dX1_follow_19 rfl (lv_at hl 0 rfl) ?_
    obtain ⟨v2, e_v2, hf⟩ := ob hf
    refine r_getI X S fl_X1_37 e_v2 dX1_follow_20 ?_
    refine lv_iload_n hx hb dX1_follow_23 rfl (lv_at hl 3 rfl) ?_
    obtain ⟨q3, e_q3, hf⟩ := ob hf
    refine r_callSN X S hl.1 (As := [.int v2, .int x3]) (rest := []) (c_X8_holds e_q3) my_X8_holds ms_X8_holds nl_X1_67 ⟨rfl, rfl, Nat.le_of_ble_eq_true rfl, Nat.le_of_ble_eq_true rfl⟩ rfl rfl (Nat.le_of_ble_eq_true rfl) dX1_follow_24 ⟨Nat.le_of_ble_eq_true rfl, Nat.le_of_ble_eq_true rfl⟩ (fun H locs S => ?_)
    refine W.eq (g2 := F0 m 27 ls [.int q3.1]) rfl ?_
    refine lv_if_eq (tgt := 70) hx hb dX1_follow_27 (by decide) (fun hc => ?_) (fun hc => ?_)
    · replace hf := ip hf hc
      exact w_X1_follow_b70 X Z hK11 _ _ _ _ _ hf _ _ _ S (lv_sub hl [0, 1, 2, 3] rfl)
    · replace hf := im hf hc
      refine lv_aload_n hx hb dX1_follow_30 rfl (lv_at hl 1 rfl) ?_
      refine lv_aload_n hx hb dX1_follow_31 rfl (lv_at hl 0 rfl) ?_
      obtain ⟨r4, e_r4, hf⟩ := ob hf
      refine r_getR X S fl_X1_21 e_r4 dX1_follow_32 ?_
      refine lv_iload_n hx hb dX1_follow_35 rfl (lv_at hl 3 rfl) ?_
      obtain ⟨q5, e_q5, hf⟩ := ob hf
      refine r_callSN X S hl.1 (As := [.ref (b + r4), .int x3]) (rest := [.ref (b + a1)]) (c_X8_at e_q5) my_X8_at ms_X8_at nl_X1_59 ⟨rfl, rfl, Nat.le_of_ble_eq_true rfl, Nat.le_of_ble_eq_true rfl⟩ rfl rfl (Nat.le_of_ble_eq_true rfl) dX1_follow_36 ⟨Nat.le_of_ble_eq_true rfl, Nat.le_of_ble_eq_true rfl⟩ (fun H locs S => ?_)
      refine W.eq (g2 := F0 m 39 ls [.int q5.1, .ref (b + a1)]) rfl ?_
      obtain ⟨q6, e_q6, hf⟩ := ob hf
      refine r_callV X S hl.1 (As := [.int q5.1]) (rest := []) (c_X3_sitter e_q6) my_X3_sitter mv_X3_sitter ml_X1_88 rfl (o_X3_sitter e_q6) ⟨rfl, rfl, Nat.le_of_ble_eq_true rfl, Nat.le_of_ble_eq_true rfl⟩ rfl rfl (Nat.le_of_ble_eq_true rfl) dX1_follow_39 ⟨Nat.le_of_ble_eq_true rfl, Nat.le_of_ble_eq_true rfl⟩ (fun H locs S => ?_)
      refine W.eq (g2 := F0 m 42 ls [.int q6.1]) rfl ?_
      refine lv_istore (lv' := [(4, .int q6.1), (0, .ref (b + a0)), (1, .ref (b + a1)), (2, .int x2), (3, .int x3)]) hx hb dX1_follow_42 hl (by decide) rfl (fun ls hl => ?_)
      refine lv_aload_n hx hb dX1_follow_44 rfl (lv_at hl 1 rfl) ?_
      obtain ⟨r7, e_r7, hf⟩ := ob hf
      refine r_getR X S fl_X1_24 e_r7 dX1_follow_45 ?_
      refine lv_iload_n hx hb dX1_follow_48 rfl (lv_at hl 4 rfl) ?_
      refine lv_aload_n hx hb dX1_follow_49 rfl (lv_at hl 1 rfl) ?_
      obtain ⟨v8, e_v8, hf⟩ := ob hf
      refine r_getI X S fl_X1_37 e_v8 dX1_follow_50 ?_
      refine lv_iload hx hb dX1_follow_53 (lv_at hl 0 rfl) ?_
      obtain ⟨q9, e_q9, hf⟩ := ob hf
      refine r_callSN X S hl.1 (As := [.int v8, .int q6.1]) (rest := [.int x3, .ref (b + r7)]) (c_X8_holds e_q9) my_X8_holds ms_X8_holds nl_X1_67 ⟨rfl, rfl, Nat.le_of_ble_eq_true rfl, Nat.le_of_ble_eq_true rfl⟩ rfl rfl (Nat.le_of_ble_eq_true rfl) dX1_follow_55 ⟨Nat.le_of_ble_eq_true rfl, Nat.le_of_ble_eq_true rfl⟩ (fun H locs S => ?_)
      refine W.eq (g2 := F0 m 58 ls [.int q9.1, .int x3, .ref (b + r7)]) rfl ?_
      refine lv_if_eq (tgt := 66) hx hb dX1_follow_58 (by decide) (fun hc => ?_) (fun hc => ?_)
      · replace hf := ip hf hc
        refine lv_iload_n hx hb dX1_follow_66 rfl (lv_at hl 3 rfl) ?_
        exact w_X1_follow_b67 X Z hK11 _ _ _ _ _ _ _ _ hf _ _ _ S (lv_sub hl [1, 2, 3, 4] rfl)
      · replace hf := im hf hc
        refine lv_iload hx hb dX1_follow_61 (lv_at hl 0 rfl) ?_
        refine lv_goto (tgt := 67) hx hb dX1_follow_63 (by decide) ?_
        exact w_X1_follow_b67 X Z hK11 _ _ _ _ _ _ _ _ hf _ _ _ S (lv_sub hl [1, 2, 3, 4] rfl)
def F_X1_follow_11  : Nat → Nat → Nat → Int32 → Int32 → HP → Option (HP)
  | 0 => fun _ _ _ _ _ => none
  | n + 1 => fun a0 a1 x2 x3 h => f_X1_follow_b11 (F_X1_follow_11  n) a0 a1 x2 x3 h
theorem wl_X1_follow_11 (X : CX RX1 cX1_follow 5 none p s m args meth c G b) {out : HP} (Z : ZV p l e RM_X1_follow s m args below meth c cX1_follow G b False 0 0 Q out)  : ∀ (n : Nat) (a0 : Nat) (a1 : Nat) (x2 : Int32) (x3 : Int32) (h : HP), F_X1_follow_11  n a0 a1 x2 x3 h = some out → ∀ (H : Heap) (locs : List Loc) (ls : Array Slot), ST G b False s h H locs → lv_has ls 5 [(0, .ref (b + a0)), (1, .ref (b + a1)), (2, .int x2), (3, .int x3)] → W p l e RM_X1_follow s m args below meth c H locs 0 0 Q (F0 m 11 ls []) := by
  intro n
  induction n with
  | zero => intro a0 a1 x2 x3 h hf; exact nn hf
  | succ n ih => exact w_X1_follow_b11 X Z ih
def f_X1_follow_e  (a0 : Nat) (a1 : Nat) (h : HP) : Option (HP) :=
  (gI h a0 1 2).bind fun v1 =>
  (f_X3_firstOf a1 v1 h).bind fun q2 =>
  F_X1_follow_11  FU a0 a1 q2.1 0 q2.2
set_option maxRecDepth 100000 in
set_option maxHeartbeats 4000000 in
theorem w_X1_follow_e (X : CX RX1 cX1_follow 5 none p s m args meth c G b) {out : HP} (Z : ZV p l e RM_X1_follow s m args below meth c cX1_follow G b False 0 0 Q out)  : ∀ (a0 : Nat) (a1 : Nat) (h : HP), f_X1_follow_e  a0 a1 h = some out → ∀ (H : Heap) (locs : List Loc) (ls : Array Slot), ST G b False s h H locs → lv_has ls 5 [(0, .ref (b + a0)), (1, .ref (b + a1))] → W p l e RM_X1_follow s m args below meth c H locs 0 0 Q (F0 m 0 ls []) := by
  intro a0 a1 h hf H locs ls S hl
  unfold f_X1_follow_e at hf
  have hx := X.1
  have hb := X.2.1
  refine lv_aload_n hx hb dX1_follow_0 rfl (lv_at hl 1 rfl) ?_
  refine lv_aload_n hx hb dX1_follow_1 rfl (lv_at hl 0 rfl) ?_
  obtain ⟨v1, e_v1, hf⟩ := ob hf
  refine r_getI X S fl_X1_37 e_v1 dX1_follow_2 ?_
  obtain ⟨q2, e_q2, hf⟩ := ob hf
  refine r_callV X S hl.1 (As := [.int v1]) (rest := []) (c_X3_firstOf e_q2) my_X3_firstOf mv_X3_firstOf ml_X1_85 rfl (o_X3_firstOf e_q2) ⟨rfl, rfl, Nat.le_of_ble_eq_true rfl, Nat.le_of_ble_eq_true rfl⟩ rfl rfl (Nat.le_of_ble_eq_true rfl) dX1_follow_5 ⟨Nat.le_of_ble_eq_true rfl, Nat.le_of_ble_eq_true rfl⟩ (fun H locs S => ?_)
  refine W.eq (g2 := F0 m 8 ls [.int q2.1]) rfl ?_
  refine lv_istore_n (lv' := [(2, .int q2.1), (0, .ref (b + a0)), (1, .ref (b + a1))]) hx hb dX1_follow_8 rfl hl (by decide) rfl (fun ls hl => ?_)
  refine lv_iconst (v := 0) hx hb dX1_follow_9 (by decide) ?_
  refine lv_istore_n (lv' := [(3, .int 0), (2, .int q2.1), (0, .ref (b + a0)), (1, .ref (b + a1))]) hx hb dX1_follow_10 rfl hl (by decide) rfl (fun ls hl => ?_)
  exact wl_X1_follow_11 X Z  FU _ _ _ _ _ hf _ _ _ S (lv_sub hl [2, 3, 1, 0] rfl)
def f_X1_follow (a0 : Nat) (a1 : Nat) (h : HP) : Option (HP) := ck h a0 1 (f_X1_follow_e a0 a1 h)
theorem o_X1_follow {a0 : Nat} {a1 : Nat} {h : HP} {out : HP} (hf : f_X1_follow a0 a1 h = some out) : ∃ fs, h[a0]? = some (.inl (1, fs)) := (ck_spec hf).1
set_option maxRecDepth 100000 in
theorem c_X1_follow {l : Launch} {G : GT} {b : Nat} {a0 : Nat} {a1 : Nat} {h : HP} {out : HP} (hf : f_X1_follow a0 a1 h = some out) : MT l G b False False yX1_follow cX1_follow 5 none RM_X1_follow [.ref (b + a0), .ref (b + a1)] h none out 0 0 := by
  refine met_of (by decide) (Nat.le_of_ble_eq_true rfl) ?_
  intro p e s m below meth c ls X hnm S hl
  have hl : lv_has ls 5 [(0, .ref (b + a0)), (1, .ref (b + a1))] := hl
  replace hf := (ck_spec hf).2
  exact w_X1_follow_e X (z_v X) _ _ _ hf _ _ _ S hl
/-! RoomRings$Dealing.ringFrom(I)I -/
abbrev RM_X1_ringFrom : Room := { frames := 1, cells := 0, slots := 0, locals := 21 }
def f_X1_ringFrom_b7 (K7 : Nat → Int32 → Int32 → Int32 → Int32 → HP → Option (Int32 × HP)) (a0 : Nat) (x1 : Int32) (x2 : Int32) (x3 : Int32) (x4 : Int32) (h : HP) : Option (Int32 × HP) :=
  if 6 ≤ x4 then
    some (0, h)
  else
    (f_X8_with x2 x3 h).bind fun q1 =>
    (gR q1.2 a0 1 7).bind fun r2 =>
    (f_X8_at r2 x3 q1.2).bind fun q3 =>
    if q3.1 = x1 then
      some (q1.1, q3.2)
    else
      K7 a0 x1 q1.1 q3.1 (x4 + 1) q3.2
set_option maxRecDepth 100000 in
set_option maxHeartbeats 4000000 in
theorem w_X1_ringFrom_b7 (X : CX RX1 cX1_ringFrom 5 (some .int) p s m args meth c G b) {out : Int32 × HP} (Z : ZI p l e RM_X1_ringFrom s m args below meth c cX1_ringFrom G b False 0 0 Q out) {K7 : Nat → Int32 → Int32 → Int32 → Int32 → HP → Option (Int32 × HP)} (hK7 : ∀ (a0 : Nat) (x1 : Int32) (x2 : Int32) (x3 : Int32) (x4 : Int32) (h : HP), K7 a0 x1 x2 x3 x4 h = some out → ∀ (H : Heap) (locs : List Loc) (ls : Array Slot), ST G b False s h H locs → lv_has ls 5 [(0, .ref (b + a0)), (1, .int x1), (2, .int x2), (3, .int x3), (4, .int x4)] → W p l e RM_X1_ringFrom s m args below meth c H locs 0 0 Q (F0 m 7 ls [])) : ∀ (a0 : Nat) (x1 : Int32) (x2 : Int32) (x3 : Int32) (x4 : Int32) (h : HP), f_X1_ringFrom_b7 K7 a0 x1 x2 x3 x4 h = some out → ∀ (H : Heap) (locs : List Loc) (ls : Array Slot), ST G b False s h H locs → lv_has ls 5 [(0, .ref (b + a0)), (1, .int x1), (2, .int x2), (3, .int x3), (4, .int x4)] → W p l e RM_X1_ringFrom s m args below meth c H locs 0 0 Q (F0 m 7 ls []) := by
  intro a0 x1 x2 x3 x4 h hf H locs ls S hl
  unfold f_X1_ringFrom_b7 at hf
  have hx := X.1
  have hb := X.2.1
  refine lv_iload hx hb dX1_ringFrom_7 (lv_at hl 4 rfl) ?_
  refine lv_bipush (v := 6) hx hb dX1_ringFrom_9 (by decide) ?_
  refine lv_icmp_ge (tgt := 42) hx hb dX1_ringFrom_11 (by decide) (fun hc => ?_) (fun hc => ?_)
  · replace hf := ip hf hc
    refine lv_iconst (v := 0) hx hb dX1_ringFrom_42 (by decide) ?_
    obtain rfl := Option.some.inj hf
    exact Z _ _ _ _ dX1_ringFrom_43 S
  · replace hf := im hf hc
    refine lv_iload_n hx hb dX1_ringFrom_14 rfl (lv_at hl 2 rfl) ?_
    refine lv_iload_n hx hb dX1_ringFrom_15 rfl (lv_at hl 3 rfl) ?_
    obtain ⟨q1, e_q1, hf⟩ := ob hf
    refine r_callSN X S hl.1 (As := [.int x2, .int x3]) (rest := []) (c_X8_with e_q1) my_X8_with ms_X8_with nl_X1_63 ⟨rfl, rfl, Nat.le_of_ble_eq_true rfl, Nat.le_of_ble_eq_true rfl⟩ rfl rfl (Nat.le_of_ble_eq_true rfl) dX1_ringFrom_16 ⟨Nat.le_of_ble_eq_true rfl, Nat.le_of_ble_eq_true rfl⟩ (fun H locs S => ?_)
    refine W.eq (g2 := F0 m 19 ls [.int q1.1]) rfl ?_
    refine lv_istore_n (lv' := [(2, .int q1.1), (0, .ref (b + a0)), (1, .int x1), (3, .int x3), (4, .int x4)]) hx hb dX1_ringFrom_19 rfl hl (by decide) rfl (fun ls hl => ?_)
    refine lv_aload_n hx hb dX1_ringFrom_20 rfl (lv_at hl 1 rfl) ?_
    obtain ⟨r2, e_r2, hf⟩ := ob hf
    refine r_getR X S fl_X1_24 e_r2 dX1_ringFrom_21 ?_
    refine lv_iload_n hx hb dX1_ringFrom_24 rfl (lv_at hl 3 rfl) ?_
    obtain ⟨q3, e_q3, hf⟩ := ob hf
    refine r_callSN X S hl.1 (As := [.ref (b + r2), .int x3]) (rest := []) (c_X8_at e_q3) my_X8_at ms_X8_at nl_X1_59 ⟨rfl, rfl, Nat.le_of_ble_eq_true rfl, Nat.le_of_ble_eq_true rfl⟩ rfl rfl (Nat.le_of_ble_eq_true rfl) dX1_ringFrom_25 ⟨Nat.le_of_ble_eq_true rfl, Nat.le_of_ble_eq_true rfl⟩ (fun H locs S => ?_)
    refine W.eq (g2 := F0 m 28 ls [.int q3.1]) rfl ?_
    refine lv_istore_n (lv' := [(3, .int q3.1), (2, .int q1.1), (0, .ref (b + a0)), (1, .int x1), (4, .int x4)]) hx hb dX1_ringFrom_28 rfl hl (by decide) rfl (fun ls hl => ?_)
    refine lv_iload_n hx hb dX1_ringFrom_29 rfl (lv_at hl 0 rfl) ?_
    refine lv_iload_n hx hb dX1_ringFrom_30 rfl (lv_at hl 3 rfl) ?_
    refine lv_icmp_ne (tgt := 36) hx hb dX1_ringFrom_31 (by decide) (fun hc => ?_) (fun hc => ?_)
    · replace hf := im hf hc
      refine lv_iinc (v := x4 + 1) (lv' := [(4, .int (x4 + 1)), (3, .int q3.1), (2, .int q1.1), (0, .ref (b + a0)), (1, .int x1)]) hx hb dX1_ringFrom_36 hl (k := 4) rfl rfl (by decide) rfl (fun ls hl => ?_)
      refine lv_goto (tgt := 7) hx hb dX1_ringFrom_39 (by decide) ?_
      exact hK7 _ _ _ _ _ _ hf _ _ _ S (lv_sub hl [3, 4, 2, 1, 0] rfl)
    · replace hf := ip hf hc
      refine lv_iload_n hx hb dX1_ringFrom_34 rfl (lv_at hl 1 rfl) ?_
      obtain rfl := Option.some.inj hf
      exact Z _ _ _ _ dX1_ringFrom_35 S
def F_X1_ringFrom_7  : Nat → Nat → Int32 → Int32 → Int32 → Int32 → HP → Option (Int32 × HP)
  | 0 => fun _ _ _ _ _ _ => none
  | n + 1 => fun a0 x1 x2 x3 x4 h => f_X1_ringFrom_b7 (F_X1_ringFrom_7  n) a0 x1 x2 x3 x4 h
theorem wl_X1_ringFrom_7 (X : CX RX1 cX1_ringFrom 5 (some .int) p s m args meth c G b) {out : Int32 × HP} (Z : ZI p l e RM_X1_ringFrom s m args below meth c cX1_ringFrom G b False 0 0 Q out)  : ∀ (n : Nat) (a0 : Nat) (x1 : Int32) (x2 : Int32) (x3 : Int32) (x4 : Int32) (h : HP), F_X1_ringFrom_7  n a0 x1 x2 x3 x4 h = some out → ∀ (H : Heap) (locs : List Loc) (ls : Array Slot), ST G b False s h H locs → lv_has ls 5 [(0, .ref (b + a0)), (1, .int x1), (2, .int x2), (3, .int x3), (4, .int x4)] → W p l e RM_X1_ringFrom s m args below meth c H locs 0 0 Q (F0 m 7 ls []) := by
  intro n
  induction n with
  | zero => intro a0 x1 x2 x3 x4 h hf; exact nn hf
  | succ n ih => exact w_X1_ringFrom_b7 X Z ih
def f_X1_ringFrom_e  (a0 : Nat) (x1 : Int32) (h : HP) : Option (Int32 × HP) :=
  F_X1_ringFrom_7  FU a0 x1 0 x1 0 h
set_option maxRecDepth 100000 in
set_option maxHeartbeats 4000000 in
theorem w_X1_ringFrom_e (X : CX RX1 cX1_ringFrom 5 (some .int) p s m args meth c G b) {out : Int32 × HP} (Z : ZI p l e RM_X1_ringFrom s m args below meth c cX1_ringFrom G b False 0 0 Q out)  : ∀ (a0 : Nat) (x1 : Int32) (h : HP), f_X1_ringFrom_e  a0 x1 h = some out → ∀ (H : Heap) (locs : List Loc) (ls : Array Slot), ST G b False s h H locs → lv_has ls 5 [(0, .ref (b + a0)), (1, .int x1)] → W p l e RM_X1_ringFrom s m args below meth c H locs 0 0 Q (F0 m 0 ls []) := by
  intro a0 x1 h hf H locs ls S hl
  unfold f_X1_ringFrom_e at hf
  have hx := X.1
  have hb := X.2.1
  refine lv_iconst (v := 0) hx hb dX1_ringFrom_0 (by decide) ?_
  refine lv_istore_n (lv' := [(2, .int 0), (0, .ref (b + a0)), (1, .int x1)]) hx hb dX1_ringFrom_1 rfl hl (by decide) rfl (fun ls hl => ?_)
  refine lv_iload_n hx hb dX1_ringFrom_2 rfl (lv_at hl 2 rfl) ?_
  refine lv_istore_n (lv' := [(3, .int x1), (2, .int 0), (0, .ref (b + a0)), (1, .int x1)]) hx hb dX1_ringFrom_3 rfl hl (by decide) rfl (fun ls hl => ?_)
  refine lv_iconst (v := 0) hx hb dX1_ringFrom_4 (by decide) ?_
  refine lv_istore (lv' := [(4, .int 0), (3, .int x1), (2, .int 0), (0, .ref (b + a0)), (1, .int x1)]) hx hb dX1_ringFrom_5 hl (by decide) rfl (fun ls hl => ?_)
  exact wl_X1_ringFrom_7 X Z  FU _ _ _ _ _ _ hf _ _ _ S (lv_sub hl [3, 4, 2, 1, 0] rfl)
def f_X1_ringFrom (a0 : Nat) (x1 : Int32) (h : HP) : Option (Int32 × HP) := ck h a0 1 (f_X1_ringFrom_e a0 x1 h)
theorem o_X1_ringFrom {a0 : Nat} {x1 : Int32} {h : HP} {out : Int32 × HP} (hf : f_X1_ringFrom a0 x1 h = some out) : ∃ fs, h[a0]? = some (.inl (1, fs)) := (ck_spec hf).1
set_option maxRecDepth 100000 in
theorem c_X1_ringFrom {l : Launch} {G : GT} {b : Nat} {a0 : Nat} {x1 : Int32} {h : HP} {out : Int32 × HP} (hf : f_X1_ringFrom a0 x1 h = some out) : MT l G b False False yX1_ringFrom cX1_ringFrom 5 (some .int) RM_X1_ringFrom [.ref (b + a0), .int x1] h (some (.int out.1)) out.2 0 0 := by
  refine met_of (by decide) (Nat.le_of_ble_eq_true rfl) ?_
  intro p e s m below meth c ls X hnm S hl
  have hl : lv_has ls 5 [(0, .ref (b + a0)), (1, .int x1)] := hl
  replace hf := (ck_spec hf).2
  exact w_X1_ringFrom_e X (z_i X) _ _ _ hf _ _ _ S hl
/-! RoomRings$Dealing.closeRings(LRoomRings$House;)V -/
abbrev RM_X1_closeRings : Room := { frames := 2, cells := 0, slots := 0, locals := 45 }
def f_X1_closeRings_b77 (K4 : Nat → Nat → Int32 → Int32 → HP → Option (HP)) (a0 : Nat) (a1 : Nat) (x2 : Int32) (x3 : Int32) (h : HP) : Option (HP) :=
  K4 a0 a1 x2 (x3 + 1) h
set_option maxRecDepth 100000 in
set_option maxHeartbeats 4000000 in
theorem w_X1_closeRings_b77 (X : CX RX1 cX1_closeRings 6 none p s m args meth c G b) {out : HP} (Z : ZV p l e RM_X1_closeRings s m args below meth c cX1_closeRings G b False 0 0 Q out) {K4 : Nat → Nat → Int32 → Int32 → HP → Option (HP)} (hK4 : ∀ (a0 : Nat) (a1 : Nat) (x2 : Int32) (x3 : Int32) (h : HP), K4 a0 a1 x2 x3 h = some out → ∀ (H : Heap) (locs : List Loc) (ls : Array Slot), ST G b False s h H locs → lv_has ls 6 [(0, .ref (b + a0)), (1, .ref (b + a1)), (2, .int x2), (3, .int x3)] → W p l e RM_X1_closeRings s m args below meth c H locs 0 0 Q (F0 m 4 ls [])) : ∀ (a0 : Nat) (a1 : Nat) (x2 : Int32) (x3 : Int32) (h : HP), f_X1_closeRings_b77 K4 a0 a1 x2 x3 h = some out → ∀ (H : Heap) (locs : List Loc) (ls : Array Slot), ST G b False s h H locs → lv_has ls 6 [(0, .ref (b + a0)), (1, .ref (b + a1)), (2, .int x2), (3, .int x3)] → W p l e RM_X1_closeRings s m args below meth c H locs 0 0 Q (F0 m 77 ls []) := by
  intro a0 a1 x2 x3 h hf H locs ls S hl
  unfold f_X1_closeRings_b77 at hf
  have hx := X.1
  have hb := X.2.1
  refine lv_iinc (v := x3 + 1) (lv' := [(3, .int (x3 + 1)), (0, .ref (b + a0)), (1, .ref (b + a1)), (2, .int x2)]) hx hb dX1_closeRings_77 hl (k := 3) rfl rfl (by decide) rfl (fun ls hl => ?_)
  refine lv_goto (tgt := 4) hx hb dX1_closeRings_80 (by decide) ?_
  exact hK4 _ _ _ _ _ hf _ _ _ S (lv_sub hl [1, 2, 3, 0] rfl)
def f_X1_closeRings_b32 (K4 : Nat → Nat → Int32 → Int32 → HP → Option (HP)) (a0 : Nat) (a1 : Nat) (x2 : Int32) (x3 : Int32) (s0 : Int32) (h : HP) : Option (HP) :=
  if s0 = 0 then
    f_X1_closeRings_b77 K4 a0 a1 x2 x3 h
  else
    (gR h a0 1 6).bind fun r1 =>
    (f_X8_at r1 x3 h).bind fun q2 =>
    (f_X1_finish a0 x3 q2.1 s0 q2.2).bind fun h3 =>
    (f_X8_with x2 x3 h3).bind fun q4 =>
    (gI q4.2 a0 1 1).bind fun v5 =>
    (f_X8_without v5 q2.1 q4.2).bind fun q6 =>
    (pI q6.2 a0 1 1 q6.1).bind fun h7 =>
    f_X1_closeRings_b77 K4 a0 a1 q4.1 x3 h7
set_option maxRecDepth 100000 in
set_option maxHeartbeats 4000000 in
theorem w_X1_closeRings_b32 (X : CX RX1 cX1_closeRings 6 none p s m args meth c G b) {out : HP} (Z : ZV p l e RM_X1_closeRings s m args below meth c cX1_closeRings G b False 0 0 Q out) {K4 : Nat → Nat → Int32 → Int32 → HP → Option (HP)} (hK4 : ∀ (a0 : Nat) (a1 : Nat) (x2 : Int32) (x3 : Int32) (h : HP), K4 a0 a1 x2 x3 h = some out → ∀ (H : Heap) (locs : List Loc) (ls : Array Slot), ST G b False s h H locs → lv_has ls 6 [(0, .ref (b + a0)), (1, .ref (b + a1)), (2, .int x2), (3, .int x3)] → W p l e RM_X1_closeRings s m args below meth c H locs 0 0 Q (F0 m 4 ls [])) : ∀ (a0 : Nat) (a1 : Nat) (x2 : Int32) (x3 : Int32) (s0 : Int32) (h : HP), f_X1_closeRings_b32 K4 a0 a1 x2 x3 s0 h = some out → ∀ (H : Heap) (locs : List Loc) (ls : Array Slot), ST G b False s h H locs → lv_has ls 6 [(0, .ref (b + a0)), (1, .ref (b + a1)), (2, .int x2), (3, .int x3)] → W p l e RM_X1_closeRings s m args below meth c H locs 0 0 Q (F0 m 32 ls [.int s0]) := by
  intro a0 a1 x2 x3 s0 h hf H locs ls S hl
  unfold f_X1_closeRings_b32 at hf
  have hx := X.1
  have hb := X.2.1
  refine lv_istore (lv' := [(4, .int s0), (0, .ref (b + a0)), (1, .ref (b + a1)), (2, .int x2), (3, .int x3)]) hx hb dX1_closeRings_32 hl (by decide) rfl (fun ls hl => ?_)
  refine lv_iload hx hb dX1_closeRings_34 (lv_at hl 0 rfl) ?_
  refine lv_if_eq (tgt := 77) hx hb dX1_closeRings_36 (by decide) (fun hc => ?_) (fun hc => ?_)
  · replace hf := ip hf hc
    exact w_X1_closeRings_b77 X Z hK4 _ _ _ _ _ hf _ _ _ S (lv_sub hl [1, 2, 3, 4] rfl)
  · replace hf := im hf hc
    refine lv_aload_n hx hb dX1_closeRings_39 rfl (lv_at hl 1 rfl) ?_
    obtain ⟨r1, e_r1, hf⟩ := ob hf
    refine r_getR X S fl_X1_21 e_r1 dX1_closeRings_40 ?_
    refine lv_iload_n hx hb dX1_closeRings_43 rfl (lv_at hl 4 rfl) ?_
    obtain ⟨q2, e_q2, hf⟩ := ob hf
    refine r_callSN X S hl.1 (As := [.ref (b + r1), .int x3]) (rest := []) (c_X8_at e_q2) my_X8_at ms_X8_at nl_X1_59 ⟨rfl, rfl, Nat.le_of_ble_eq_true rfl, Nat.le_of_ble_eq_true rfl⟩ rfl rfl (Nat.le_of_ble_eq_true rfl) dX1_closeRings_44 ⟨Nat.le_of_ble_eq_true rfl, Nat.le_of_ble_eq_true rfl⟩ (fun H locs S => ?_)
    refine W.eq (g2 := F0 m 47 ls [.int q2.1]) rfl ?_
    refine lv_istore (lv' := [(5, .int q2.1), (4, .int s0), (0, .ref (b + a0)), (1, .ref (b + a1)), (2, .int x2), (3, .int x3)]) hx hb dX1_closeRings_47 hl (by decide) rfl (fun ls hl => ?_)
    refine lv_aload_n hx hb dX1_closeRings_49 rfl (lv_at hl 2 rfl) ?_
    refine lv_iload_n hx hb dX1_closeRings_50 rfl (lv_at hl 5 rfl) ?_
    refine lv_iload hx hb dX1_closeRings_51 (lv_at hl 0 rfl) ?_
    refine lv_iload hx hb dX1_closeRings_53 (lv_at hl 1 rfl) ?_
    obtain ⟨h3, e_h3, hf⟩ := ob hf
    refine r_callV X S hl.1 (As := [.int x3, .int q2.1, .int s0]) (rest := []) (c_X1_finish e_h3) my_X1_finish mv_X1_finish ml_X1_78 rfl (o_X1_finish e_h3) ⟨rfl, rfl, Nat.le_of_ble_eq_true rfl, Nat.le_of_ble_eq_true rfl⟩ rfl rfl (Nat.le_of_ble_eq_true rfl) dX1_closeRings_55 ⟨Nat.le_of_ble_eq_true rfl, Nat.le_of_ble_eq_true rfl⟩ (fun H locs S => ?_)
    refine W.eq (g2 := F0 m 58 ls []) rfl ?_
    refine lv_iload_n hx hb dX1_closeRings_58 rfl (lv_at hl 4 rfl) ?_
    refine lv_iload_n hx hb dX1_closeRings_59 rfl (lv_at hl 5 rfl) ?_
    obtain ⟨q4, e_q4, hf⟩ := ob hf
    refine r_callSN X S hl.1 (As := [.int x2, .int x3]) (rest := []) (c_X8_with e_q4) my_X8_with ms_X8_with nl_X1_63 ⟨rfl, rfl, Nat.le_of_ble_eq_true rfl, Nat.le_of_ble_eq_true rfl⟩ rfl rfl (Nat.le_of_ble_eq_true rfl) dX1_closeRings_60 ⟨Nat.le_of_ble_eq_true rfl, Nat.le_of_ble_eq_true rfl⟩ (fun H locs S => ?_)
    refine W.eq (g2 := F0 m 63 ls [.int q4.1]) rfl ?_
    refine lv_istore_n (lv' := [(2, .int q4.1), (5, .int q2.1), (4, .int s0), (0, .ref (b + a0)), (1, .ref (b + a1)), (3, .int x3)]) hx hb dX1_closeRings_63 rfl hl (by decide) rfl (fun ls hl => ?_)
    refine lv_aload_n hx hb dX1_closeRings_64 rfl (lv_at hl 3 rfl) ?_
    refine lv_aload_n hx hb dX1_closeRings_65 rfl (lv_at hl 3 rfl) ?_
    obtain ⟨v5, e_v5, hf⟩ := ob hf
    refine r_getI X S fl_X1_43 e_v5 dX1_closeRings_66 ?_
    refine lv_iload hx hb dX1_closeRings_69 (lv_at hl 1 rfl) ?_
    obtain ⟨q6, e_q6, hf⟩ := ob hf
    refine r_callSN X S hl.1 (As := [.int v5, .int q2.1]) (rest := [.ref (b + a0)]) (c_X8_without e_q6) my_X8_without ms_X8_without nl_X1_82 ⟨rfl, rfl, Nat.le_of_ble_eq_true rfl, Nat.le_of_ble_eq_true rfl⟩ rfl rfl (Nat.le_of_ble_eq_true rfl) dX1_closeRings_71 ⟨Nat.le_of_ble_eq_true rfl, Nat.le_of_ble_eq_true rfl⟩ (fun H locs S => ?_)
    refine W.eq (g2 := F0 m 74 ls [.int q6.1, .ref (b + a0)]) rfl ?_
    obtain ⟨h7, e_h7, hf⟩ := ob hf
    refine r_put X S fp_X1_43 (fun h9 => by cases h9) rfl rfl rfl e_h7 dX1_closeRings_74 (fun H locs S => ?_)
    exact w_X1_closeRings_b77 X Z hK4 _ _ _ _ _ hf _ _ _ S (lv_sub hl [3, 4, 0, 5] rfl)
def f_X1_closeRings_b4 (K4 : Nat → Nat → Int32 → Int32 → HP → Option (HP)) (a0 : Nat) (a1 : Nat) (x2 : Int32) (x3 : Int32) (h : HP) : Option (HP) :=
  (gI h a1 3 1).bind fun v1 =>
  if v1 ≤ x3 then
    (gI h a0 1 2).bind fun v2 =>
    (pI h a0 1 2 (v2 &&& (x2 ^^^ (-1)))).bind fun h3 =>
    some h3
  else
    (gI h a0 1 2).bind fun v4 =>
    (f_X8_holds v4 x3 h).bind fun q5 =>
    if q5.1 = 0 then
      f_X1_closeRings_b32 K4 a0 a1 x2 x3 0 q5.2
    else
      (f_X1_ringFrom a0 x3 q5.2).bind fun q6 =>
      f_X1_closeRings_b32 K4 a0 a1 x2 x3 q6.1 q6.2
set_option maxRecDepth 100000 in
set_option maxHeartbeats 4000000 in
theorem w_X1_closeRings_b4 (X : CX RX1 cX1_closeRings 6 none p s m args meth c G b) {out : HP} (Z : ZV p l e RM_X1_closeRings s m args below meth c cX1_closeRings G b False 0 0 Q out) {K4 : Nat → Nat → Int32 → Int32 → HP → Option (HP)} (hK4 : ∀ (a0 : Nat) (a1 : Nat) (x2 : Int32) (x3 : Int32) (h : HP), K4 a0 a1 x2 x3 h = some out → ∀ (H : Heap) (locs : List Loc) (ls : Array Slot), ST G b False s h H locs → lv_has ls 6 [(0, .ref (b + a0)), (1, .ref (b + a1)), (2, .int x2), (3, .int x3)] → W p l e RM_X1_closeRings s m args below meth c H locs 0 0 Q (F0 m 4 ls [])) : ∀ (a0 : Nat) (a1 : Nat) (x2 : Int32) (x3 : Int32) (h : HP), f_X1_closeRings_b4 K4 a0 a1 x2 x3 h = some out → ∀ (H : Heap) (locs : List Loc) (ls : Array Slot), ST G b False s h H locs → lv_has ls 6 [(0, .ref (b + a0)), (1, .ref (b + a1)), (2, .int x2), (3, .int x3)] → W p l e RM_X1_closeRings s m args below meth c H locs 0 0 Q (F0 m 4 ls []) := by
  intro a0 a1 x2 x3 h hf H locs ls S hl
  unfold f_X1_closeRings_b4 at hf
  have hx := X.1
  have hb := X.2.1
  refine lv_iload_n hx hb dX1_closeRings_4 rfl (lv_at hl 3 rfl) ?_
  refine lv_aload_n hx hb dX1_closeRings_5 rfl (lv_at hl 1 rfl) ?_
  obtain ⟨v1, e_v1, hf⟩ := ob hf
  refine r_getI X S fl_X1_27 e_v1 dX1_closeRings_6 ?_
  refine lv_icmp_ge (tgt := 83) hx hb dX1_closeRings_9 (by decide) (fun hc => ?_) (fun hc => ?_)
  · replace hf := ip hf hc
    refine lv_aload_n hx hb dX1_closeRings_83 rfl (lv_at hl 0 rfl) ?_
    refine lv_dup hx hb dX1_closeRings_84 rfl ?_
    obtain ⟨v2, e_v2, hf⟩ := ob hf
    refine r_getI X S fl_X1_37 e_v2 dX1_closeRings_85 ?_
    refine lv_iload_n hx hb dX1_closeRings_88 rfl (lv_at hl 2 rfl) ?_
    refine lv_iconst (v := (-1)) hx hb dX1_closeRings_89 (by decide) ?_
    refine lv_ixor hx hb dX1_closeRings_90 ?_
    refine lv_iand hx hb dX1_closeRings_91 ?_
    obtain ⟨h3, e_h3, hf⟩ := ob hf
    refine r_put X S fp_X1_37 (fun h9 => by cases h9) rfl rfl rfl e_h3 dX1_closeRings_92 (fun H locs S => ?_)
    obtain rfl := Option.some.inj hf
    exact Z _ _ _ _ dX1_closeRings_95 S
  · replace hf := im hf hc
    refine lv_aload_n hx hb dX1_closeRings_12 rfl (lv_at hl 0 rfl) ?_
    obtain ⟨v4, e_v4, hf⟩ := ob hf
    refine r_getI X S fl_X1_37 e_v4 dX1_closeRings_13 ?_
    refine lv_iload_n hx hb dX1_closeRings_16 rfl (lv_at hl 3 rfl) ?_
    obtain ⟨q5, e_q5, hf⟩ := ob hf
    refine r_callSN X S hl.1 (As := [.int v4, .int x3]) (rest := []) (c_X8_holds e_q5) my_X8_holds ms_X8_holds nl_X1_67 ⟨rfl, rfl, Nat.le_of_ble_eq_true rfl, Nat.le_of_ble_eq_true rfl⟩ rfl rfl (Nat.le_of_ble_eq_true rfl) dX1_closeRings_17 ⟨Nat.le_of_ble_eq_true rfl, Nat.le_of_ble_eq_true rfl⟩ (fun H locs S => ?_)
    refine W.eq (g2 := F0 m 20 ls [.int q5.1]) rfl ?_
    refine lv_if_eq (tgt := 31) hx hb dX1_closeRings_20 (by decide) (fun hc => ?_) (fun hc => ?_)
    · replace hf := ip hf hc
      refine lv_iconst (v := 0) hx hb dX1_closeRings_31 (by decide) ?_
      exact w_X1_closeRings_b32 X Z hK4 _ _ _ _ _ _ hf _ _ _ S (lv_sub hl [0, 1, 2, 3] rfl)
    · replace hf := im hf hc
      refine lv_aload_n hx hb dX1_closeRings_23 rfl (lv_at hl 0 rfl) ?_
      refine lv_iload_n hx hb dX1_closeRings_24 rfl (lv_at hl 3 rfl) ?_
      obtain ⟨q6, e_q6, hf⟩ := ob hf
      refine r_callV X S hl.1 (As := [.int x3]) (rest := []) (c_X1_ringFrom e_q6) my_X1_ringFrom mv_X1_ringFrom ml_X1_91 rfl (o_X1_ringFrom e_q6) ⟨rfl, rfl, Nat.le_of_ble_eq_true rfl, Nat.le_of_ble_eq_true rfl⟩ rfl rfl (Nat.le_of_ble_eq_true rfl) dX1_closeRings_25 ⟨Nat.le_of_ble_eq_true rfl, Nat.le_of_ble_eq_true rfl⟩ (fun H locs S => ?_)
      refine W.eq (g2 := F0 m 28 ls [.int q6.1]) rfl ?_
      refine lv_goto (tgt := 32) hx hb dX1_closeRings_28 (by decide) ?_
      exact w_X1_closeRings_b32 X Z hK4 _ _ _ _ _ _ hf _ _ _ S (lv_sub hl [0, 1, 2, 3] rfl)
def F_X1_closeRings_4  : Nat → Nat → Nat → Int32 → Int32 → HP → Option (HP)
  | 0 => fun _ _ _ _ _ => none
  | n + 1 => fun a0 a1 x2 x3 h => f_X1_closeRings_b4 (F_X1_closeRings_4  n) a0 a1 x2 x3 h
theorem wl_X1_closeRings_4 (X : CX RX1 cX1_closeRings 6 none p s m args meth c G b) {out : HP} (Z : ZV p l e RM_X1_closeRings s m args below meth c cX1_closeRings G b False 0 0 Q out)  : ∀ (n : Nat) (a0 : Nat) (a1 : Nat) (x2 : Int32) (x3 : Int32) (h : HP), F_X1_closeRings_4  n a0 a1 x2 x3 h = some out → ∀ (H : Heap) (locs : List Loc) (ls : Array Slot), ST G b False s h H locs → lv_has ls 6 [(0, .ref (b + a0)), (1, .ref (b + a1)), (2, .int x2), (3, .int x3)] → W p l e RM_X1_closeRings s m args below meth c H locs 0 0 Q (F0 m 4 ls []) := by
  intro n
  induction n with
  | zero => intro a0 a1 x2 x3 h hf; exact nn hf
  | succ n ih => exact w_X1_closeRings_b4 X Z ih
def f_X1_closeRings_e  (a0 : Nat) (a1 : Nat) (h : HP) : Option (HP) :=
  F_X1_closeRings_4  FU a0 a1 0 0 h
set_option maxRecDepth 100000 in
set_option maxHeartbeats 4000000 in
theorem w_X1_closeRings_e (X : CX RX1 cX1_closeRings 6 none p s m args meth c G b) {out : HP} (Z : ZV p l e RM_X1_closeRings s m args below meth c cX1_closeRings G b False 0 0 Q out)  : ∀ (a0 : Nat) (a1 : Nat) (h : HP), f_X1_closeRings_e  a0 a1 h = some out → ∀ (H : Heap) (locs : List Loc) (ls : Array Slot), ST G b False s h H locs → lv_has ls 6 [(0, .ref (b + a0)), (1, .ref (b + a1))] → W p l e RM_X1_closeRings s m args below meth c H locs 0 0 Q (F0 m 0 ls []) := by
  intro a0 a1 h hf H locs ls S hl
  unfold f_X1_closeRings_e at hf
  have hx := X.1
  have hb := X.2.1
  refine lv_iconst (v := 0) hx hb dX1_closeRings_0 (by decide) ?_
  refine lv_istore_n (lv' := [(2, .int 0), (0, .ref (b + a0)), (1, .ref (b + a1))]) hx hb dX1_closeRings_1 rfl hl (by decide) rfl (fun ls hl => ?_)
  refine lv_iconst (v := 0) hx hb dX1_closeRings_2 (by decide) ?_
  refine lv_istore_n (lv' := [(3, .int 0), (2, .int 0), (0, .ref (b + a0)), (1, .ref (b + a1))]) hx hb dX1_closeRings_3 rfl hl (by decide) rfl (fun ls hl => ?_)
  exact wl_X1_closeRings_4 X Z  FU _ _ _ _ _ hf _ _ _ S (lv_sub hl [2, 3, 1, 0] rfl)
def f_X1_closeRings (a0 : Nat) (a1 : Nat) (h : HP) : Option (HP) := ck h a0 1 (f_X1_closeRings_e a0 a1 h)
theorem o_X1_closeRings {a0 : Nat} {a1 : Nat} {h : HP} {out : HP} (hf : f_X1_closeRings a0 a1 h = some out) : ∃ fs, h[a0]? = some (.inl (1, fs)) := (ck_spec hf).1
set_option maxRecDepth 100000 in
theorem c_X1_closeRings {l : Launch} {G : GT} {b : Nat} {a0 : Nat} {a1 : Nat} {h : HP} {out : HP} (hf : f_X1_closeRings a0 a1 h = some out) : MT l G b False False yX1_closeRings cX1_closeRings 6 none RM_X1_closeRings [.ref (b + a0), .ref (b + a1)] h none out 0 0 := by
  refine met_of (by decide) (Nat.le_of_ble_eq_true rfl) ?_
  intro p e s m below meth c ls X hnm S hl
  have hl : lv_has ls 6 [(0, .ref (b + a0)), (1, .ref (b + a1))] := hl
  replace hf := (ck_spec hf).2
  exact w_X1_closeRings_e X (z_v X) _ _ _ hf _ _ _ S hl
end M01
