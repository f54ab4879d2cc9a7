section M19
variable {p : Program} {l : Launch} {e : Env} {s : State} {m : MethodId} {args : Array Value} {below : List Frame} {meth : Method} {c : Code} {Q : State → Prop} {G : GT} {b : Nat}
/-! RoomRingsModel.quiet(II)I -/
abbrev RM_X9_quiet : Room := { frames := 1, cells := 0, slots := 0, locals := 22 }
def f_X9_quiet_b20   (h : HP) : Option (Int32 × HP) :=
  some ((-1000000002), h)
set_option maxRecDepth 100000 in
set_option maxHeartbeats 4000000 in
theorem w_X9_quiet_b20 (X : CX RX9 cX9_quiet 6 (some .int) p s m args meth c G b) {out : Int32 × HP} (Z : ZI p l e RM_X9_quiet s m args below meth c cX9_quiet G b False 0 0 Q out)  : ∀  (h : HP), f_X9_quiet_b20   h = some out → ∀ (H : Heap) (locs : List Loc) (ls : Array Slot), ST G b False s h H locs → lv_has ls 6 [] → W p l e RM_X9_quiet s m args below meth c H locs 0 0 Q (F0 m 20 ls []) := by
  intro  h hf H locs ls S hl
  unfold f_X9_quiet_b20 at hf
  have hx := X.1
  have hb := X.2.1
  refine lv_ldc (v := (-1000000002)) hx hb X.2.2.2.1 (X.2.2.2.2.1 _ cn_X9_61) dX9_quiet_20 ?_
  obtain rfl := Option.some.inj hf
  exact Z _ _ _ _ dX9_quiet_22 S
def f_X9_quiet_b30 (K30 : Int32 → Int32 → Int64 → Int32 → HP → Option (Int32 × HP)) (x1 : Int32) (x2 : Int32) (l3 : Int64) (x5 : Int32) (h : HP) : Option (Int32 × HP) :=
  if x1 ≤ x5 then
    some ((Int64.toInt32 l3), h)
  else
    K30 x1 x2 ((l3 * (Int32.toInt64 x2)) / 100) (x5 + 1) h
set_option maxRecDepth 100000 in
set_option maxHeartbeats 4000000 in
theorem w_X9_quiet_b30 (X : CX RX9 cX9_quiet 6 (some .int) p s m args meth c G b) {out : Int32 × HP} (Z : ZI p l e RM_X9_quiet s m args below meth c cX9_quiet G b False 0 0 Q out) {K30 : Int32 → Int32 → Int64 → Int32 → HP → Option (Int32 × HP)} (hK30 : ∀ (x1 : Int32) (x2 : Int32) (l3 : Int64) (x5 : Int32) (h : HP), K30 x1 x2 l3 x5 h = some out → ∀ (H : Heap) (locs : List Loc) (ls : Array Slot), ST G b False s h H locs → lv_has ls 6 [(1, .int x1), (2, .int x2), (3, .long l3), (5, .int x5)] → W p l e RM_X9_quiet s m args below meth c H locs 0 0 Q (F0 m 30 ls [])) : ∀ (x1 : Int32) (x2 : Int32) (l3 : Int64) (x5 : Int32) (h : HP), f_X9_quiet_b30 K30 x1 x2 l3 x5 h = some out → ∀ (H : Heap) (locs : List Loc) (ls : Array Slot), ST G b False s h H locs → lv_has ls 6 [(1, .int x1), (2, .int x2), (3, .long l3), (5, .int x5)] → W p l e RM_X9_quiet s m args below meth c H locs 0 0 Q (F0 m 30 ls []) := by
  intro x1 x2 l3 x5 h hf H locs ls S hl
  unfold f_X9_quiet_b30 at hf
  have hx := X.1
  have hb := X.2.1
  refine lv_iload hx hb dX9_quiet_30 (lv_at hl 3 rfl) ?_
  refine lv_iload_n hx hb dX9_quiet_32 rfl (lv_at hl 0 rfl) ?_
  refine lv_icmp_ge (tgt := 51) hx hb dX9_quiet_33 (by decide) (fun hc => ?_) (fun hc => ?_)
  · replace hf := ip hf hc
    refine lv_lload_n hx hb dX9_quiet_51 rfl (lv_at hl 2 rfl) ?_
    refine lv_l2i (v := Int64.toInt32 l3) hx hb dX9_quiet_52 rfl ?_
    obtain rfl := Option.some.inj hf
    exact Z _ _ _ _ dX9_quiet_53 S
  · replace hf := im hf hc
    refine lv_lload_n hx hb dX9_quiet_36 rfl (lv_at hl 2 rfl) ?_
    refine lv_iload_n hx hb dX9_quiet_37 rfl (lv_at hl 1 rfl) ?_
    refine lv_i2l (v := Int32.toInt64 x2) hx hb dX9_quiet_38 rfl ?_
    refine lv_lmul hx hb dX9_quiet_39 ?_
    refine lv_ldc2 (v := 100) hx hb X.2.2.2.1 (X.2.2.2.2.1 _ cl_X9_258) dX9_quiet_40 ?_
    refine lv_ldiv hx hb dX9_quiet_43 (by decide) ?_
    refine lv_lstore_n (lv' := [(3, .long ((l3 * (Int32.toInt64 x2)) / 100)), (1, .int x1), (2, .int x2), (5, .int x5)]) hx hb dX9_quiet_44 rfl hl (by decide) rfl (fun ls hl => ?_)
    refine lv_iinc (v := x5 + 1) (lv' := [(5, .int (x5 + 1)), (3, .long ((l3 * (Int32.toInt64 x2)) / 100)), (1, .int x1), (2, .int x2)]) hx hb dX9_quiet_45 hl (k := 3) rfl rfl (by decide) rfl (fun ls hl => ?_)
    refine lv_goto (tgt := 30) hx hb dX9_quiet_48 (by decide) ?_
    exact hK30 _ _ _ _ _ hf _ _ _ S (lv_sub hl [2, 3, 1, 0] rfl)
def F_X9_quiet_30  : Nat → Int32 → Int32 → Int64 → Int32 → HP → Option (Int32 × HP)
  | 0 => fun _ _ _ _ _ => none
  | n + 1 => fun x1 x2 l3 x5 h => f_X9_quiet_b30 (F_X9_quiet_30  n) x1 x2 l3 x5 h
theorem wl_X9_quiet_30 (X : CX RX9 cX9_quiet 6 (some .int) p s m args meth c G b) {out : Int32 × HP} (Z : ZI p l e RM_X9_quiet s m args below meth c cX9_quiet G b False 0 0 Q out)  : ∀ (n : Nat) (x1 : Int32) (x2 : Int32) (l3 : Int64) (x5 : Int32) (h : HP), F_X9_quiet_30  n x1 x2 l3 x5 h = some out → ∀ (H : Heap) (locs : List Loc) (ls : Array Slot), ST G b False s h H locs → lv_has ls 6 [(1, .int x1), (2, .int x2), (3, .long l3), (5, .int x5)] → W p l e RM_X9_quiet s m args below meth c H locs 0 0 Q (F0 m 30 ls []) := by
  intro n
  induction n with
  | zero => intro x1 x2 l3 x5 h hf; exact nn hf
  | succ n ih => exact w_X9_quiet_b30 X Z ih
def f_X9_quiet_e  (a0 : Nat) (x1 : Int32) (x2 : Int32) (h : HP) : Option (Int32 × HP) :=
  (f_X9_in x1 0 60 h).bind fun q1 =>
  if q1.1 = 0 then
    f_X9_quiet_b20   q1.2
  else
    (f_X9_in x2 0 100 q1.2).bind fun q2 =>
    if q2.1 = 0 then
      f_X9_quiet_b20   q2.2
    else
      F_X9_quiet_30  FU x1 x2 1000000000 0 q2.2
set_option maxRecDepth 100000 in
set_option maxHeartbeats 4000000 in
theorem w_X9_quiet_e (X : CX RX9 cX9_quiet 6 (some .int) p s m args meth c G b) {out : Int32 × HP} (Z : ZI p l e RM_X9_quiet s m args below meth c cX9_quiet G b False 0 0 Q out)  : ∀ (a0 : Nat) (x1 : Int32) (x2 : Int32) (h : HP), f_X9_quiet_e  a0 x1 x2 h = some out → ∀ (H : Heap) (locs : List Loc) (ls : Array Slot), ST G b False s h H locs → lv_has ls 6 [(0, .ref (b + a0)), (1, .int x1), (2, .int x2)] → W p l e RM_X9_quiet s m args below meth c H locs 0 0 Q (F0 m 0 ls []) := by
  intro a0 x1 x2 h hf H locs ls S hl
  unfold f_X9_quiet_e at hf
  have hx := X.1
  have hb := X.2.1
  refine lv_iload_n hx hb dX9_quiet_0 rfl (lv_at hl 1 rfl) ?_
  refine lv_iconst (v := 0) hx hb dX9_quiet_1 (by decide) ?_
  refine lv_bipush (v := 60) hx hb dX9_quiet_2 (by decide) ?_
  obtain ⟨q1, e_q1, hf⟩ := ob hf
  refine r_callS X S hl.1 (As := [.int x1, .int 0, .int 60]) (rest := []) (c_X9_in e_q1) my_X9_in ms_X9_in ml_X9_54 ⟨rfl, rfl, Nat.le_of_ble_eq_true rfl, Nat.le_of_ble_eq_true rfl⟩ rfl rfl (Nat.le_of_ble_eq_true rfl) dX9_quiet_4 ⟨Nat.le_of_ble_eq_true rfl, Nat.le_of_ble_eq_true rfl⟩ (fun H locs S => ?_)
  refine W.eq (g2 := F0 m 7 ls [.int q1.1]) rfl ?_
  refine lv_if_eq (tgt := 20) hx hb dX9_quiet_7 (by decide) (fun hc => ?_) (fun hc => ?_)
  · replace hf := ip hf hc
    exact w_X9_quiet_b20 X Z  _ hf _ _ _ S (lv_sub hl [] rfl)
  · replace hf := im hf hc
    refine lv_iload_n hx hb dX9_quiet_10 rfl (lv_at hl 2 rfl) ?_
    refine lv_iconst (v := 0) hx hb dX9_quiet_11 (by decide) ?_
    refine lv_bipush (v := 100) hx hb dX9_quiet_12 (by decide) ?_
    obtain ⟨q2, e_q2, hf⟩ := ob hf
    refine r_callS X S hl.1 (As := [.int x2, .int 0, .int 100]) (rest := []) (c_X9_in e_q2) my_X9_in ms_X9_in ml_X9_54 ⟨rfl, rfl, Nat.le_of_ble_eq_true rfl, Nat.le_of_ble_eq_true rfl⟩ rfl rfl (Nat.le_of_ble_eq_true rfl) dX9_quiet_14 ⟨Nat.le_of_ble_eq_true rfl, Nat.le_of_ble_eq_true rfl⟩ (fun H locs S => ?_)
    refine W.eq (g2 := F0 m 17 ls [.int q2.1]) rfl ?_
    refine lv_if_ne (tgt := 23) hx hb dX9_quiet_17 (by decide) (fun hc => ?_) (fun hc => ?_)
    · replace hf := im hf hc
      refine lv_ldc2 (v := 1000000000) hx hb X.2.2.2.1 (X.2.2.2.2.1 _ cl_X9_256) dX9_quiet_23 ?_
      refine lv_lstore_n (lv' := [(3, .long 1000000000), (0, .ref (b + a0)), (1, .int x1), (2, .int x2)]) hx hb dX9_quiet_26 rfl hl (by decide) rfl (fun ls hl => ?_)
      refine lv_iconst (v := 0) hx hb dX9_quiet_27 (by decide) ?_
      refine lv_istore (lv' := [(5, .int 0), (3, .long 1000000000), (0, .ref (b + a0)), (1, .int x1), (2, .int x2)]) hx hb dX9_quiet_28 hl (by decide) rfl (fun ls hl => ?_)
      exact wl_X9_quiet_30 X Z  FU _ _ _ _ _ hf _ _ _ S (lv_sub hl [3, 4, 1, 0] rfl)
    · replace hf := ip hf hc
      exact w_X9_quiet_b20 X Z  _ hf _ _ _ S (lv_sub hl [] rfl)
def f_X9_quiet (a0 : Nat) (x1 : Int32) (x2 : Int32) (h : HP) : Option (Int32 × HP) := ck h a0 9 (f_X9_quiet_e a0 x1 x2 h)
theorem o_X9_quiet {a0 : Nat} {x1 : Int32} {x2 : Int32} {h : HP} {out : Int32 × HP} (hf : f_X9_quiet a0 x1 x2 h = some out) : ∃ fs, h[a0]? = some (.inl (9, fs)) := (ck_spec hf).1
set_option maxRecDepth 100000 in
theorem c_X9_quiet {l : Launch} {G : GT} {b : Nat} {a0 : Nat} {x1 : Int32} {x2 : Int32} {h : HP} {out : Int32 × HP} (hf : f_X9_quiet a0 x1 x2 h = some out) : MT l G b False False yX9_quiet cX9_quiet 6 (some .int) RM_X9_quiet [.ref (b + a0), .int x1, .int x2] h (some (.int out.1)) out.2 0 0 := by
  refine met_of (by decide) (Nat.le_of_ble_eq_true rfl) ?_
  intro p e s m below meth c ls X hnm S hl
  have hl : lv_has ls 6 [(0, .ref (b + a0)), (1, .int x1), (2, .int x2)] := hl
  replace hf := (ck_spec hf).2
  exact w_X9_quiet_e X (z_i X) _ _ _ _ hf _ _ _ S hl
/-! RoomRingsModel.isRoomOrNone(I)Z -/
abbrev RM_X9_isRoomOrNone : Room := { frames := 2, cells := 0, slots := 0, locals := 43 }
def f_X9_isRoomOrNone_b18  (s0 : Int32) (h : HP) : Option (Int32 × HP) :=
  if s0 = 0 ∨ s0 = 1 then some (s0, h) else none
set_option maxRecDepth 100000 in
set_option maxHeartbeats 4000000 in
theorem w_X9_isRoomOrNone_b18 (X : CX RX9 cX9_isRoomOrNone 2 (some .boolean) p s m args meth c G b) {out : Int32 × HP} (Z : ZZ p l e RM_X9_isRoomOrNone s m args below meth c cX9_isRoomOrNone G b False 0 0 Q out)  : ∀ (s0 : Int32) (h : HP), f_X9_isRoomOrNone_b18  s0 h = some out → ∀ (H : Heap) (locs : List Loc) (ls : Array Slot), ST G b False s h H locs → lv_has ls 2 [] → W p l e RM_X9_isRoomOrNone s m args below meth c H locs 0 0 Q (F0 m 18 ls [.int s0]) := by
  intro s0 h hf H locs ls S hl
  unfold f_X9_isRoomOrNone_b18 at hf
  have hx := X.1
  have hb := X.2.1
  obtain ⟨hz, hf⟩ := ig hf
  obtain rfl := Option.some.inj hf
  exact Z _ _ _ _ dX9_isRoomOrNone_18 S hz
def f_X9_isRoomOrNone_b13   (h : HP) : Option (Int32 × HP) :=
  f_X9_isRoomOrNone_b18  1 h
set_option maxRecDepth 100000 in
set_option maxHeartbeats 4000000 in
theorem w_X9_isRoomOrNone_b13 (X : CX RX9 cX9_isRoomOrNone 2 (some .boolean) p s m args meth c G b) {out : Int32 × HP} (Z : ZZ p l e RM_X9_isRoomOrNone s m args below meth c cX9_isRoomOrNone G b False 0 0 Q out)  : ∀  (h : HP), f_X9_isRoomOrNone_b13   h = some out → ∀ (H : Heap) (locs : List Loc) (ls : Array Slot), ST G b False s h H locs → lv_has ls 2 [] → W p l e RM_X9_isRoomOrNone s m args below meth c H locs 0 0 Q (F0 m 13 ls []) := by
  intro  h hf H locs ls S hl
  unfold f_X9_isRoomOrNone_b13 at hf
  have hx := X.1
  have hb := X.2.1
  refine lv_iconst (v := 1) hx hb dX9_isRoomOrNone_13 (by decide) ?_
  refine lv_goto (tgt := 18) hx hb dX9_isRoomOrNone_14 (by decide) ?_
  exact w_X9_isRoomOrNone_b18 X Z  _ _ hf _ _ _ S (lv_sub hl [] rfl)
def f_X9_isRoomOrNone_e  (a0 : Nat) (x1 : Int32) (h : HP) : Option (Int32 × HP) :=
  if x1 = (-1) then
    f_X9_isRoomOrNone_b13   h
  else
    (f_X9_isRoom a0 x1 h).bind fun q1 =>
    if q1.1 = 0 then
      f_X9_isRoomOrNone_b18  0 q1.2
    else
      f_X9_isRoomOrNone_b13   q1.2
set_option maxRecDepth 100000 in
set_option maxHeartbeats 4000000 in
theorem w_X9_isRoomOrNone_e (X : CX RX9 cX9_isRoomOrNone 2 (some .boolean) p s m args meth c G b) {out : Int32 × HP} (Z : ZZ p l e RM_X9_isRoomOrNone s m args below meth c cX9_isRoomOrNone G b False 0 0 Q out)  : ∀ (a0 : Nat) (x1 : Int32) (h : HP), f_X9_isRoomOrNone_e  a0 x1 h = some out → ∀ (H : Heap) (locs : List Loc) (ls : Array Slot), ST G b False s h H locs → lv_has ls 2 [(0, .ref (b + a0)), (1, .int x1)] → W p l e RM_X9_isRoomOrNone s m args below meth c H locs 0 0 Q (F0 m 0 ls []) := by
  intro a0 x1 h hf H locs ls S hl
  unfold f_X9_isRoomOrNone_e at hf
  have hx := X.1
  have hb := X.2.1
  refine lv_iload_n hx hb dX9_isRoomOrNone_0 rfl (lv_at hl 1 rfl) ?_
  refine lv_iconst (v := (-1)) hx hb dX9_isRoomOrNone_1 (by decide) ?_
  refine lv_icmp_eq (tgt := 13) hx hb dX9_isRoomOrNone_2 (by decide) (fun hc => ?_) (fun hc => ?_)
  · replace hf := ip hf hc
    exact w_X9_isRoomOrNone_b13 X Z  _ hf _ _ _ S (lv_sub hl [] rfl)
  · replace hf := im hf hc
    refine lv_aload_n hx hb dX9_isRoomOrNone_5 rfl (lv_at hl 0 rfl) ?_
    refine lv_iload_n hx hb dX9_isRoomOrNone_6 rfl (lv_at hl 1 rfl) ?_
    obtain ⟨q1, e_q1, hf⟩ := ob hf
    refine r_callV X S hl.1 (As := [.int x1]) (rest := []) (c_X9_isRoom e_q1) my_X9_isRoom mv_X9_isRoom ml_X9_216 rfl (o_X9_isRoom e_q1) ⟨rfl, rfl, Nat.le_of_ble_eq_true rfl, Nat.le_of_ble_eq_true rfl⟩ rfl rfl (Nat.le_of_ble_eq_true rfl) dX9_isRoomOrNone_7 ⟨Nat.le_of_ble_eq_true rfl, Nat.le_of_ble_eq_true rfl⟩ (fun H locs S => ?_)
    refine W.eq (g2 := F0 m 10 ls [.int q1.1]) rfl ?_
    refine lv_if_eq (tgt := 17) hx hb dX9_isRoomOrNone_10 (by decide) (fun hc => ?_) (fun hc => ?_)
    · replace hf := ip hf hc
      refine lv_iconst (v := 0) hx hb dX9_isRoomOrNone_17 (by decide) ?_
      exact w_X9_isRoomOrNone_b18 X Z  _ _ hf _ _ _ S (lv_sub hl [] rfl)
    · replace hf := im hf hc
      exact w_X9_isRoomOrNone_b13 X Z  _ hf _ _ _ S (lv_sub hl [] rfl)
def f_X9_isRoomOrNone (a0 : Nat) (x1 : Int32) (h : HP) : Option (Int32 × HP) := ck h a0 9 (f_X9_isRoomOrNone_e a0 x1 h)
theorem o_X9_isRoomOrNone {a0 : Nat} {x1 : Int32} {h : HP} {out : Int32 × HP} (hf : f_X9_isRoomOrNone a0 x1 h = some out) : ∃ fs, h[a0]? = some (.inl (9, fs)) := (ck_spec hf).1
set_option maxRecDepth 100000 in
theorem c_X9_isRoomOrNone {l : Launch} {G : GT} {b : Nat} {a0 : Nat} {x1 : Int32} {h : HP} {out : Int32 × HP} (hf : f_X9_isRoomOrNone a0 x1 h = some out) : MT l G b False False yX9_isRoomOrNone cX9_isRoomOrNone 2 (some .boolean) RM_X9_isRoomOrNone [.ref (b + a0), .int x1] h (some (.int out.1)) out.2 0 0 := by
  refine met_of (by decide) (Nat.le_of_ble_eq_true rfl) ?_
  intro p e s m below meth c ls X hnm S hl
  have hl : lv_has ls 2 [(0, .ref (b + a0)), (1, .int x1)] := hl
  replace hf := (ck_spec hf).2
  exact w_X9_isRoomOrNone_e X (z_zz X) _ _ _ hf _ _ _ S hl
/-! RoomRingsModel.see(IZ)I -/
abbrev RM_X9_see : Room := { frames := 3, cells := 0, slots := 0, locals := 64 }
def f_X9_see_b50  (a0 : Nat) (s0 : Nat) (s1 : Int32) (s2 : Int32) (h : HP) : Option (Int32 × HP) :=
  (ast h s0 s1 s2).bind fun h1 =>
  (gI h1 a0 9 15).bind fun v2 =>
  (pI h1 a0 9 15 (v2 + 1)).bind fun h3 =>
  (gI h3 a0 9 15).bind fun v4 =>
  some (v4, h3)
set_option maxRecDepth 100000 in
set_option maxHeartbeats 4000000 in
theorem w_X9_see_b50 (X : CX RX9 cX9_see 3 (some .int) p s m args meth c G b) {out : Int32 × HP} (Z : ZI p l e RM_X9_see s m args below meth c cX9_see G b False 0 0 Q out)  : ∀ (a0 : Nat) (s0 : Nat) (s1 : Int32) (s2 : Int32) (h : HP), f_X9_see_b50  a0 s0 s1 s2 h = some out → ∀ (H : Heap) (locs : List Loc) (ls : Array Slot), ST G b False s h H locs → lv_has ls 3 [(0, .ref (b + a0))] → W p l e RM_X9_see s m args below meth c H locs 0 0 Q (F0 m 50 ls [.int s2, .int s1, .ref (b + s0)]) := by
  intro a0 s0 s1 s2 h hf H locs ls S hl
  unfold f_X9_see_b50 at hf
  have hx := X.1
  have hb := X.2.1
  obtain ⟨h1, e_h1, hf⟩ := ob hf
  refine r_ast X S e_h1 dX9_see_50 (fun H locs S => ?_)
  refine lv_aload_n hx hb dX9_see_51 rfl (lv_at hl 0 rfl) ?_
  refine lv_dup hx hb dX9_see_52 rfl ?_
  obtain ⟨v2, e_v2, hf⟩ := ob hf
  refine r_getI X S fl_X9_125 e_v2 dX9_see_53 ?_
  refine lv_iconst (v := 1) hx hb dX9_see_56 (by decide) ?_
  refine lv_iadd hx hb dX9_see_57 ?_
  obtain ⟨h3, e_h3, hf⟩ := ob hf
  refine r_put X S fp_X9_125 (fun h9 => by cases h9) rfl rfl rfl e_h3 dX9_see_58 (fun H locs S => ?_)
  refine lv_aload_n hx hb dX9_see_61 rfl (lv_at hl 0 rfl) ?_
  obtain ⟨v4, e_v4, hf⟩ := ob hf
  refine r_getI X S fl_X9_125 e_v4 dX9_see_62 ?_
  obtain rfl := Option.some.inj hf
  exact Z _ _ _ _ dX9_see_65 S
def f_X9_see_e  (a0 : Nat) (x1 : Int32) (x2 : Int32) (h : HP) : Option (Int32 × HP) :=
  (f_X9_isRoomOrNone a0 x1 h).bind fun q1 =>
  if q1.1 = 0 then
    some ((-1000000001), q1.2)
  else
    (gI q1.2 a0 9 15).bind fun v2 =>
    if v2 = 6 then
      some ((-1000000004), q1.2)
    else
      (gR q1.2 a0 9 13).bind fun r3 =>
      (gI q1.2 a0 9 15).bind fun v4 =>
      (ast q1.2 r3 v4 x1).bind fun h5 =>
      (gR h5 a0 9 14).bind fun r6 =>
      (gI h5 a0 9 15).bind fun v7 =>
      if x2 = 0 then
        f_X9_see_b50  a0 r6 v7 0 h5
      else
        f_X9_see_b50  a0 r6 v7 1 h5
set_option maxRecDepth 100000 in
set_option maxHeartbeats 4000000 in
theorem w_X9_see_e (X : CX RX9 cX9_see 3 (some .int) p s m args meth c G b) {out : Int32 × HP} (Z : ZI p l e RM_X9_see s m args below meth c cX9_see G b False 0 0 Q out)  : ∀ (a0 : Nat) (x1 : Int32) (x2 : Int32) (h : HP), f_X9_see_e  a0 x1 x2 h = some out → ∀ (H : Heap) (locs : List Loc) (ls : Array Slot), ST G b False s h H locs → lv_has ls 3 [(0, .ref (b + a0)), (1, .int x1), (2, .int x2)] → W p l e RM_X9_see s m args below meth c H locs 0 0 Q (F0 m 0 ls []) := by
  intro a0 x1 x2 h hf H locs ls S hl
  unfold f_X9_see_e at hf
  have hx := X.1
  have hb := X.2.1
  refine lv_aload_n hx hb dX9_see_0 rfl (lv_at hl 0 rfl) ?_
  refine lv_iload_n hx hb dX9_see_1 rfl (lv_at hl 1 rfl) ?_
  obtain ⟨q1, e_q1, hf⟩ := ob hf
  refine r_callV X S hl.1 (As := [.int x1]) (rest := []) (c_X9_isRoomOrNone e_q1) my_X9_isRoomOrNone mv_X9_isRoomOrNone ml_X9_260 rfl (o_X9_isRoomOrNone e_q1) ⟨rfl, rfl, Nat.le_of_ble_eq_true rfl, Nat.le_of_ble_eq_true rfl⟩ rfl rfl (Nat.le_of_ble_eq_true rfl) dX9_see_2 ⟨Nat.le_of_ble_eq_true rfl, Nat.le_of_ble_eq_true rfl⟩ (fun H locs S => ?_)
  refine W.eq (g2 := F0 m 5 ls [.int q1.1]) rfl ?_
  refine lv_if_ne (tgt := 11) hx hb dX9_see_5 (by decide) (fun hc => ?_) (fun hc => ?_)
  · replace hf := im hf hc
    refine lv_aload_n hx hb dX9_see_11 rfl (lv_at hl 0 rfl) ?_
    obtain ⟨v2, e_v2, hf⟩ := ob hf
    refine r_getI X S fl_X9_125 e_v2 dX9_see_12 ?_
    refine lv_bipush (v := 6) hx hb dX9_see_15 (by decide) ?_
    refine lv_icmp_ne (tgt := 23) hx hb dX9_see_17 (by decide) (fun hc => ?_) (fun hc => ?_)
    · replace hf := im hf hc
      refine lv_aload_n hx hb dX9_see_23 rfl (lv_at hl 0 rfl) ?_
      obtain ⟨r3, e_r3, hf⟩ := ob hf
      refine r_getR X S fl_X9_32 e_r3 dX9_see_24 ?_
      refine lv_aload_n hx hb dX9_see_27 rfl (lv_at hl 0 rfl) ?_
      obtain ⟨v4, e_v4, hf⟩ := ob hf
      refine r_getI X S fl_X9_125 e_v4 dX9_see_28 ?_
      refine lv_iload_n hx hb dX9_see_31 rfl (lv_at hl 1 rfl) ?_
      obtain ⟨h5, e_h5, hf⟩ := ob hf
      refine r_ast X S e_h5 dX9_see_32 (fun H locs S => ?_)
      refine lv_aload_n hx hb dX9_see_33 rfl (lv_at hl 0 rfl) ?_
      obtain ⟨r6, e_r6, hf⟩ := ob hf
      refine r_getR X S fl_X9_35 e_r6 dX9_see_34 ?_
      refine lv_aload_n hx hb dX9_see_37 rfl (lv_at hl 0 rfl) ?_
      obtain ⟨v7, e_v7, hf⟩ := ob hf
      refine r_getI X S fl_X9_125 e_v7 dX9_see_38 ?_
      refine lv_iload_n hx hb dX9_see_41 rfl (lv_at hl 2 rfl) ?_
      refine lv_if_eq (tgt := 49) hx hb dX9_see_42 (by decide) (fun hc => ?_) (fun hc => ?_)
      · replace hf := ip hf hc
        refine lv_iconst (v := 0) hx hb dX9_see_49 (by decide) ?_
        exact w_X9_see_b50 X Z  _ _ _ _ _ hf _ _ _ S (lv_sub hl [0] rfl)
      · replace hf := im hf hc
        refine lv_iconst (v := 1) hx hb dX9_see_45 (by decide) ?_
        refine lv_goto (tgt := 50) hx hb dX9_see_46 (by decide) ?_
        exact w_X9_see_b50 X Z  _ _ _ _ _ hf _ _ _ S (lv_sub hl [0] rfl)
    · replace hf := ip hf hc
      refine lv_ldc (v := (-1000000004)) hx hb X.2.2.2.1 (X.2.2.2.2.1 _ cn_X9_65) dX9_see_20 ?_
      obtain rfl := Option.some.inj hf
      exact Z _ _ _ _ dX9_see_22 S
  · replace hf := ip hf hc
    refine lv_ldc (v := (-1000000001)) hx hb X.2.2.2.1 (X.2.2.2.2.1 _ cn_X9_206) dX9_see_8 ?_
    obtain rfl := Option.some.inj hf
    exact Z _ _ _ _ dX9_see_10 S
def f_X9_see (a0 : Nat) (x1 : Int32) (x2 : Int32) (h : HP) : Option (Int32 × HP) := ck h a0 9 (f_X9_see_e a0 x1 x2 h)
theorem o_X9_see {a0 : Nat} {x1 : Int32} {x2 : Int32} {h : HP} {out : Int32 × HP} (hf : f_X9_see a0 x1 x2 h = some out) : ∃ fs, h[a0]? = some (.inl (9, fs)) := (ck_spec hf).1
set_option maxRecDepth 100000 in
theorem c_X9_see {l : Launch} {G : GT} {b : Nat} {a0 : Nat} {x1 : Int32} {x2 : Int32} {h : HP} {out : Int32 × HP} (hf : f_X9_see a0 x1 x2 h = some out) : MT l G b False False yX9_see cX9_see 3 (some .int) RM_X9_see [.ref (b + a0), .int x1, .int x2] h (some (.int out.1)) out.2 0 0 := by
  refine met_of (by decide) (Nat.le_of_ble_eq_true rfl) ?_
  intro p e s m below meth c ls X hnm S hl
  have hl : lv_has ls 3 [(0, .ref (b + a0)), (1, .int x1), (2, .int x2)] := hl
  replace hf := (ck_spec hf).2
  exact w_X9_see_e X (z_i X) _ _ _ _ hf _ _ _ S hl
/-! RoomRingsModel.couldBe()I -/
abbrev RM_X9_couldBe : Room := { frames := 7, cells := 0, slots := 0, locals := 159 }
def f_X9_couldBe_b80 (K22 : Nat → Int32 → Int32 → Int32 → Int32 → HP → Option (Int32 × HP)) (a0 : Nat) (x1 : Int32) (x2 : Int32) (x4 : Int32) (s0 : Int32) (h : HP) : Option (Int32 × HP) :=
  K22 a0 x1 x2 s0 (x4 + 1) h
set_option maxRecDepth 100000 in
set_option maxHeartbeats 4000000 in
theorem w_X9_couldBe_b80 (X : CX RX9 cX9_couldBe 5 (some .int) p s m args meth c G b) {out : Int32 × HP} (Z : ZI p l e RM_X9_couldBe s m args below meth c cX9_couldBe G b False 0 0 Q out) {K22 : Nat → Int32 → Int32 → Int32 → Int32 → HP → Option (Int32 × HP)} (hK22 : ∀ (a0 : Nat) (x1 : Int32) (x2 : Int32) (x3 : Int32) (x4 : Int32) (h : HP), K22 a0 x1 x2 x3 x4 h = some out → ∀ (H : Heap) (locs : List Loc) (ls : Array Slot), ST G b False s h H locs → lv_has ls 5 [(0, .ref (b + a0)), (1, .int x1), (2, .int x2), (3, .int x3), (4, .int x4)] → W p l e RM_X9_couldBe s m args below meth c H locs 0 0 Q (F0 m 22 ls [])) : ∀ (a0 : Nat) (x1 : Int32) (x2 : Int32) (x4 : Int32) (s0 : Int32) (h : HP), f_X9_couldBe_b80 K22 a0 x1 x2 x4 s0 h = some out → ∀ (H : Heap) (locs : List Loc) (ls : Array Slot), ST G b False s h H locs → lv_has ls 5 [(0, .ref (b + a0)), (1, .int x1), (2, .int x2), (4, .int x4)] → W p l e RM_X9_couldBe s m args below meth c H locs 0 0 Q (F0 m 80 ls [.int s0]) := by
  intro a0 x1 x2 x4 s0 h hf H locs ls S hl
  unfold f_X9_couldBe_b80 at hf
  have hx := X.1
  have hb := X.2.1
  refine lv_istore_n (lv' := [(3, .int s0), (0, .ref (b + a0)), (1, .int x1), (2, .int x2), (4, .int x4)]) hx hb dX9_couldBe_80 rfl hl (by decide) rfl (fun ls hl => ?_)
  refine lv_iinc (v := x4 + 1) (lv' := [(4, .int (x4 + 1)), (3, .int s0), (0, .ref (b + a0)), (1, .int x1), (2, .int x2)]) hx hb dX9_couldBe_81 hl (k := 4) rfl rfl (by decide) rfl (fun ls hl => ?_)
  refine lv_goto (tgt := 22) hx hb dX9_couldBe_84 (by decide) ?_
  exact hK22 _ _ _ _ _ _ hf _ _ _ S (lv_sub hl [2, 3, 4, 1, 0] rfl)
def f_X9_couldBe_b79 (K22 : Nat → Int32 → Int32 → Int32 → Int32 → HP → Option (Int32 × HP)) (a0 : Nat) (x1 : Int32) (x2 : Int32) (x4 : Int32) (h : HP) : Option (Int32 × HP) :=
  f_X9_couldBe_b80 K22 a0 x1 x2 x4 0 h
set_option maxRecDepth 100000 in
set_option maxHeartbeats 4000000 in
theorem w_X9_couldBe_b79 (X : CX RX9 cX9_couldBe 5 (some .int) p s m args meth c G b) {out : Int32 × HP} (Z : ZI p l e RM_X9_couldBe s m args below meth c cX9_couldBe G b False 0 0 Q out) {K22 : Nat → Int32 → Int32 → Int32 → Int32 → HP → Option (Int32 × HP)} (hK22 : ∀ (a0 : Nat) (x1 : Int32) (x2 : Int32) (x3 : Int32) (x4 : Int32) (h : HP), K22 a0 x1 x2 x3 x4 h = some out → ∀ (H : Heap) (locs : List Loc) (ls : Array Slot), ST G b False s h H locs → lv_has ls 5 [(0, .ref (b + a0)), (1, .int x1), (2, .int x2), (3, .int x3), (4, .int x4)] → W p l e RM_X9_couldBe s m args below meth c H locs 0 0 Q (F0 m 22 ls [])) : ∀ (a0 : Nat) (x1 : Int32) (x2 : Int32) (x4 : Int32) (h : HP), f_X9_couldBe_b79 K22 a0 x1 x2 x4 h = some out → ∀ (H : Heap) (locs : List Loc) (ls : Array Slot), ST G b False s h H locs → lv_has ls 5 [(0, .ref (b + a0)), (1, .int x1), (2, .int x2), (4, .int x4)] → W p l e RM_X9_couldBe s m args below meth c H locs 0 0 Q (F0 m 79 ls []) := by
  intro a0 x1 x2 x4 h hf H locs ls S hl
  unfold f_X9_couldBe_b79 at hf
  have hx := X.1
  have hb := X.2.1
  refine lv_iconst (v := 0) hx hb dX9_couldBe_79 (by decide) ?_
  exact w_X9_couldBe_b80 X Z hK22 _ _ _ _ _ _ hf _ _ _ S (lv_sub hl [0, 1, 2, 3] rfl)
def f_X9_couldBe_b72 (K22 : Nat → Int32 → Int32 → Int32 → Int32 → HP → Option (Int32 × HP)) (a0 : Nat) (x1 : Int32) (x2 : Int32) (x4 : Int32) (s0 : Int32) (s1 : Int32) (h : HP) : Option (Int32 × HP) :=
  if s0 = s1 then
    f_X9_couldBe_b80 K22 a0 x1 x2 x4 1 h
  else
    f_X9_couldBe_b79 K22 a0 x1 x2 x4 h
set_option maxRecDepth 100000 in
set_option maxHeartbeats 4000000 in
theorem w_X9_couldBe_b72 (X : CX RX9 cX9_couldBe 5 (some .int) p s m args meth c G b) {out : Int32 × HP} (Z : ZI p l e RM_X9_couldBe s m args below meth c cX9_couldBe G b False 0 0 Q out) {K22 : Nat → Int32 → Int32 → Int32 → Int32 → HP → Option (Int32 × HP)} (hK22 : ∀ (a0 : Nat) (x1 : Int32) (x2 : Int32) (x3 : Int32) (x4 : Int32) (h : HP), K22 a0 x1 x2 x3 x4 h = some out → ∀ (H : Heap) (locs : List Loc) (ls : Array Slot), ST G b False s h H locs → lv_has ls 5 [(0, .ref (b + a0)), (1, .int x1), (2, .int x2), (3, .int x3), (4, .int x4)] → W p l e RM_X9_couldBe s m args below meth c H locs 0 0 Q (F0 m 22 ls [])) : ∀ (a0 : Nat) (x1 : Int32) (x2 : Int32) (x4 : Int32) (s0 : Int32) (s1 : Int32) (h : HP), f_X9_couldBe_b72 K22 a0 x1 x2 x4 s0 s1 h = some out → ∀ (H : Heap) (locs : List Loc) (ls : Array Slot), ST G b False s h H locs → lv_has ls 5 [(0, .ref (b + a0)), (1, .int x1), (2, .int x2), (4, .int x4)] → W p l e RM_X9_couldBe s m args below meth c H locs 0 0 Q (F0 m 72 ls [.int s1, .int s0]) := by
  intro a0 x1 x2 x4 s0 s1 h hf H locs ls S hl
  unfold f_X9_couldBe_b72 at hf
  have hx := X.1
  have hb := X.2.1
  refine lv_icmp_ne (tgt := 79) hx hb dX9_couldBe_72 (by decide) (fun hc => ?_) (fun hc => ?_)
  · replace hf := im hf hc
    exact w_X9_couldBe_b79 X Z hK22 _ _ _ _ _ hf _ _ _ S (lv_sub hl [0, 1, 2, 3] rfl)
  · replace hf := ip hf hc
    refine lv_iconst (v := 1) hx hb dX9_couldBe_75 (by decide) ?_
    refine lv_goto (tgt := 80) hx hb dX9_couldBe_76 (by decide) ?_
    exact w_X9_couldBe_b80 X Z hK22 _ _ _ _ _ _ hf _ _ _ S (lv_sub hl [0, 1, 2, 3] rfl)
def f_X9_couldBe_b56 (K22 : Nat → Int32 → Int32 → Int32 → Int32 → HP → Option (Int32 × HP)) (a0 : Nat) (x1 : Int32) (x2 : Int32) (x4 : Int32) (s0 : Int32) (h : HP) : Option (Int32 × HP) :=
  (gR h a0 9 14).bind fun r1 =>
  (ald h r1 x4).bind fun v2 =>
  if v2 = 1 then
    f_X9_couldBe_b72 K22 a0 x1 x2 x4 s0 1 h
  else
    f_X9_couldBe_b72 K22 a0 x1 x2 x4 s0 0 h
set_option maxRecDepth 100000 in
set_option maxHeartbeats 4000000 in
theorem w_X9_couldBe_b56 (X : CX RX9 cX9_couldBe 5 (some .int) p s m args meth c G b) {out : Int32 × HP} (Z : ZI p l e RM_X9_couldBe s m args below meth c cX9_couldBe G b False 0 0 Q out) {K22 : Nat → Int32 → Int32 → Int32 → Int32 → HP → Option (Int32 × HP)} (hK22 : ∀ (a0 : Nat) (x1 : Int32) (x2 : Int32) (x3 : Int32) (x4 : Int32) (h : HP), K22 a0 x1 x2 x3 x4 h = some out → ∀ (H : Heap) (locs : List Loc) (ls : Array Slot), ST G b False s h H locs → lv_has ls 5 [(0, .ref (b + a0)), (1, .int x1), (2, .int x2), (3, .int x3), (4, .int x4)] → W p l e RM_X9_couldBe s m args below meth c H locs 0 0 Q (F0 m 22 ls [])) : ∀ (a0 : Nat) (x1 : Int32) (x2 : Int32) (x4 : Int32) (s0 : Int32) (h : HP), f_X9_couldBe_b56 K22 a0 x1 x2 x4 s0 h = some out → ∀ (H : Heap) (locs : List Loc) (ls : Array Slot), ST G b False s h H locs → lv_has ls 5 [(0, .ref (b + a0)), (1, .int x1), (2, .int x2), (4, .int x4)] → W p l e RM_X9_couldBe s m args below meth c H locs 0 0 Q (F0 m 56 ls [.int s0]) := by
  intro a0 x1 x2 x4 s0 h hf H locs ls S hl
  unfold f_X9_couldBe_b56 at hf
  have hx := X.1
  have hb := X.2.1
  refine lv_aload_n hx hb dX9_couldBe_56 rfl (lv_at hl 0 rfl) ?_
  obtain ⟨r1, e_r1, hf⟩ := ob hf
  refine r_getR X S fl_X9_35 e_r1 dX9_couldBe_57 ?_
  refine lv_iload hx hb dX9_couldBe_60 (lv_at hl 3 rfl) ?_
  obtain ⟨v2, e_v2, hf⟩ := ob hf
  refine r_ald X S e_v2 dX9_couldBe_62 ?_
  refine lv_iconst (v := 1) hx hb dX9_couldBe_63 (by decide) ?_
  refine lv_icmp_ne (tgt := 71) hx hb dX9_couldBe_64 (by decide) (fun hc => ?_) (fun hc => ?_)
  · replace hf := im hf hc
    refine lv_iconst (v := 0) hx hb dX9_couldBe_71 (by decide) ?_
    exact w_X9_couldBe_b72 X Z hK22 _ _ _ _ _ _ _ hf _ _ _ S (lv_sub hl [0, 1, 2, 3] rfl)
  · replace hf := ip hf hc
    refine lv_iconst (v := 1) hx hb dX9_couldBe_67 (by decide) ?_
    refine lv_goto (tgt := 72) hx hb dX9_couldBe_68 (by decide) ?_
    exact w_X9_couldBe_b72 X Z hK22 _ _ _ _ _ _ _ hf _ _ _ S (lv_sub hl [0, 1, 2, 3] rfl)
def f_X9_couldBe_b99 (K9 : Nat → Int32 → Int32 → HP → Option (Int32 × HP)) (a0 : Nat) (x2 : Int32) (s0 : Int32) (s1 : Int32) (h : HP) : Option (Int32 × HP) :=
  K9 a0 (s0 ||| s1) (x2 + 1) h
set_option maxRecDepth 100000 in
set_option maxHeartbeats 4000000 in
theorem w_X9_couldBe_b99 (X : CX RX9 cX9_couldBe 5 (some .int) p s m args meth c G b) {out : Int32 × HP} (Z : ZI p l e RM_X9_couldBe s m args below meth c cX9_couldBe G b False 0 0 Q out) {K9 : Nat → Int32 → Int32 → HP → Option (Int32 × HP)} (hK9 : ∀ (a0 : Nat) (x1 : Int32) (x2 : Int32) (h : HP), K9 a0 x1 x2 h = some out → ∀ (H : Heap) (locs : List Loc) (ls : Array Slot), ST G b False s h H locs → lv_has ls 5 [(0, .ref (b + a0)), (1, .int x1), (2, .int x2)] → W p l e RM_X9_couldBe s m args below meth c H locs 0 0 Q (F0 m 9 ls [])) : ∀ (a0 : Nat) (x2 : Int32) (s0 : Int32) (s1 : Int32) (h : HP), f_X9_couldBe_b99 K9 a0 x2 s0 s1 h = some out → ∀ (H : Heap) (locs : List Loc) (ls : Array Slot), ST G b False s h H locs → lv_has ls 5 [(0, .ref (b + a0)), (2, .int x2)] → W p l e RM_X9_couldBe s m args below meth c H locs 0 0 Q (F0 m 99 ls [.int s1, .int s0]) := by
  intro a0 x2 s0 s1 h hf H locs ls S hl
  unfold f_X9_couldBe_b99 at hf
  have hx := X.1
  have hb := X.2.1
  refine lv_ior hx hb dX9_couldBe_99 ?_
  refine lv_istore_n (lv' := [(1, .int (s0 ||| s1)), (0, .ref (b + a0)), (2, .int x2)]) hx hb dX9_couldBe_100 rfl hl (by decide) rfl (fun ls hl => ?_)
  refine lv_iinc (v := x2 + 1) (lv' := [(2, .int (x2 + 1)), (1, .int (s0 ||| s1)), (0, .ref (b + a0))]) hx hb dX9_couldBe_101 hl (k := 2) rfl rfl (by decide) rfl (fun ls hl => ?_)
  refine lv_goto (tgt := 9) hx hb dX9_couldBe_104 (by decide) ?_
  exact hK9 _ _ _ _ hf _ _ _ S (lv_sub hl [2, 1, 0] rfl)
def f_X9_couldBe_b22 (K9 : Nat → Int32 → Int32 → HP → Option (Int32 × HP)) (K22 : Nat → Int32 → Int32 → Int32 → Int32 → HP → Option (Int32 × HP)) (a0 : Nat) (x1 : Int32) (x2 : Int32) (x3 : Int32) (x4 : Int32) (h : HP) : Option (Int32 × HP) :=
  (gI h a0 9 15).bind fun v1 =>
  if v1 ≤ x4 then
    if x3 = 0 then
      f_X9_couldBe_b99 K9 a0 x2 x1 0 h
    else
      f_X9_couldBe_b99 K9 a0 x2 x1 (1 <<< (x2 &&& 31)) h
  else
    if x3 = 0 then
      f_X9_couldBe_b79 K22 a0 x1 x2 x4 h
    else
      (gR h a0 9 8).bind fun r2 =>
      (ald h r2 x2).bind fun v3 =>
      (gR h a0 9 13).bind fun r4 =>
      (ald h r4 x4).bind fun v5 =>
      if v3 = v5 then
        f_X9_couldBe_b56 K22 a0 x1 x2 x4 1 h
      else
        f_X9_couldBe_b56 K22 a0 x1 x2 x4 0 h
set_option maxRecDepth 100000 in
set_option maxHeartbeats 4000000 in
theorem w_X9_couldBe_b22 (X : CX RX9 cX9_couldBe 5 (some .int) p s m args meth c G b) {out : Int32 × HP} (Z : ZI p l e RM_X9_couldBe s m args below meth c cX9_couldBe G b False 0 0 Q out) {K9 : Nat → Int32 → Int32 → HP → Option (Int32 × HP)} (hK9 : ∀ (a0 : Nat) (x1 : Int32) (x2 : Int32) (h : HP), K9 a0 x1 x2 h = some out → ∀ (H : Heap) (locs : List Loc) (ls : Array Slot), ST G b False s h H locs → lv_has ls 5 [(0, .ref (b + a0)), (1, .int x1), (2, .int x2)] → W p l e RM_X9_couldBe s m args below meth c H locs 0 0 Q (F0 m 9 ls [])) {K22 : Nat → Int32 → Int32 → Int32 → Int32 → HP → Option (Int32 × HP)} (hK22 : ∀ (a0 : Nat) (x1 : Int32) (x2 : Int32) (x3 : Int32) (x4 : Int32) (h : HP), K22 a0 x1 x2 x3 x4 h = some out → ∀ (H : Heap) (locs : List Loc) (ls : Array Slot), ST G b False s h H locs → lv_has ls 5 [(0, .ref (b + a0)), (1, .int x1), (2, .int x2), (3, .int x3), (4, .int x4)] → W p l e RM_X9_couldBe s m args below meth c H locs 0 0 Q (F0 m 22 ls [])) : ∀ (a0 : Nat) (x1 : Int32) (x2 : Int32) (x3 : Int32) (x4 : Int32) (h : HP), f_X9_couldBe_b22 K9 K22 a0 x1 x2 x3 x4 h = some out → ∀ (H : Heap) (locs : List Loc) (ls : Array Slot), ST G b False s h H locs → lv_has ls 5 [(0, .ref (b + a0)), (1, .int x1), (2, .int x2), (3, .int x3), (4, .int x4)] → W p l e RM_X9_couldBe s m args below meth c H locs 0 0 Q (F0 m 22 ls []) := by
  intro a0 x1 x2 x3 x4 h hf H locs ls S hl
  unfold f_X9_couldBe_b22 at hf
  have hx := X.1
  have hb := X.2.1
  refine lv_iload hx hb dX9_couldBe_22 (lv_at hl 4 rfl) ?_
  refine lv_aload_n hx hb dX9_couldBe_24 rfl (lv_at hl 0 rfl) ?_
  obtain ⟨v1, e_v1, hf⟩ := ob hf
  refine r_getI X S fl_X9_125 e_v1 dX9_couldBe_25 ?_
  refine lv_icmp_ge (tgt := 87) hx hb dX9_couldBe_28 (by decide) (fun hc => ?_) (fun hc => ?_)
  · replace hf := ip hf hc
    refine lv_iload_n hx hb dX9_couldBe_87 rfl (lv_at hl 1 rfl) ?_
    refine lv_iload_n hx hb dX9_couldBe_88 rfl (lv_at hl 3 rfl) ?_
    refine lv_if_eq (tgt := 98) hx hb dX9_couldBe_89 (by decide) (fun hc => ?_) (fun hc => ?_)
    · replace hf := ip hf hc
      refine lv_iconst (v := 0) hx hb dX9_couldBe_98 (by decide) ?_
      exact w_X9_couldBe_b99 X Z hK9 _ _ _ _ _ hf _ _ _ S (lv_sub hl [0, 2] rfl)
    · replace hf := im hf hc
      refine lv_iconst (v := 1) hx hb dX9_couldBe_92 (by decide) ?_
      refine lv_iload_n hx hb dX9_couldBe_93 rfl (lv_at hl 2 rfl) ?_
      refine lv_ishl hx hb dX9_couldBe_94 ?_
      refine lv_goto (tgt := 99) hx hb dX9_couldBe_95 (by decide) ?_
      exact w_X9_couldBe_b99 X Z hK9 _ _ _ _ _ hf _ _ _ S (lv_sub hl [0, 2] rfl)
  · replace hf := im hf hc
    refine lv_iload_n hx hb dX9_couldBe_31 rfl (lv_at hl 3 rfl) ?_
    refine lv_if_eq (tgt := 79) hx hb dX9_couldBe_32 (by decide) (fun hc => ?_) (fun hc => ?_)
    · replace hf := ip hf hc
      exact w_X9_couldBe_b79 X Z hK22 _ _ _ _ _ hf _ _ _ S (lv_sub hl [0, 1, 2, 4] rfl)
    · replace hf := im hf hc
      refine lv_aload_n hx hb dX9_couldBe_35 rfl (lv_at hl 0 rfl) ?_
      obtain ⟨r2, e_r2, hf⟩ := ob hf
      refine r_getR X S fl_X9_20 e_r2 dX9_couldBe_36 ?_
      refine lv_iload_n hx hb dX9_couldBe_39 rfl (lv_at hl 2 rfl) ?_
      obtain ⟨v3, e_v3, hf⟩ := ob hf
      refine r_ald X S e_v3 dX9_couldBe_40 ?_
      refine lv_aload_n hx hb dX9_couldBe_41 rfl (lv_at hl 0 rfl) ?_
      obtain ⟨r4, e_r4, hf⟩ := ob hf
      refine r_getR X S fl_X9_32 e_r4 dX9_couldBe_42 ?_
      refine lv_iload hx hb dX9_couldBe_45 (lv_at hl 4 rfl) ?_
      obtain ⟨v5, e_v5, hf⟩ := ob hf
      refine r_ald X S e_v5 dX9_couldBe_47 ?_
      refine lv_icmp_ne (tgt := 55) hx hb dX9_couldBe_48 (by decide) (fun hc => ?_) (fun hc => ?_)
      · replace hf := im hf hc
        refine lv_iconst (v := 0) hx hb dX9_couldBe_55 (by decide) ?_
        exact w_X9_couldBe_b56 X Z hK22 _ _ _ _ _ _ hf _ _ _ S (lv_sub hl [0, 1, 2, 4] rfl)
      · replace hf := ip hf hc
        refine lv_iconst (v := 1) hx hb dX9_couldBe_51 (by decide) ?_
        refine lv_goto (tgt := 56) hx hb dX9_couldBe_52 (by decide) ?_
        exact w_X9_couldBe_b56 X Z hK22 _ _ _ _ _ _ hf _ _ _ S (lv_sub hl [0, 1, 2, 4] rfl)
def F_X9_couldBe_22 (K9 : Nat → Int32 → Int32 → HP → Option (Int32 × HP)) : Nat → Nat → Int32 → Int32 → Int32 → Int32 → HP → Option (Int32 × HP)
  | 0 => fun _ _ _ _ _ _ => none
  | n + 1 => fun a0 x1 x2 x3 x4 h => f_X9_couldBe_b22 K9 (F_X9_couldBe_22 K9 n) a0 x1 x2 x3 x4 h
theorem wl_X9_couldBe_22 (X : CX RX9 cX9_couldBe 5 (some .int) p s m args meth c G b) {out : Int32 × HP} (Z : ZI p l e RM_X9_couldBe s m args below meth c cX9_couldBe G b False 0 0 Q out) {K9 : Nat → Int32 → Int32 → HP → Option (Int32 × HP)} (hK9 : ∀ (a0 : Nat) (x1 : Int32) (x2 : Int32) (h : HP), K9 a0 x1 x2 h = some out → ∀ (H : Heap) (locs : List Loc) (ls : Array Slot), ST G b False s h H locs → lv_has ls 5 [(0, .ref (b + a0)), (1, .int x1), (2, .int x2)] → W p l e RM_X9_couldBe s m args below meth c H locs 0 0 Q (F0 m 9 ls [])) : ∀ (n : Nat) (a0 : Nat) (x1 : Int32) (x2 : Int32) (x3 : Int32) (x4 : Int32) (h : HP), F_X9_couldBe_22 K9 n a0 x1 x2 x3 x4 h = some out → ∀ (H : Heap) (locs : List Loc) (ls : Array Slot), ST G b False s h H locs → lv_has ls 5 [(0, .ref (b + a0)), (1, .int x1), (2, .int x2), (3, .int x3), (4, .int x4)] → W p l e RM_X9_couldBe s m args below meth c H locs 0 0 Q (F0 m 22 ls []) := by
  intro n
  induction n with
  | zero => intro a0 x1 x2 x3 x4 h hf; exact nn hf
  | succ n ih => exact w_X9_couldBe_b22 X Z hK9 ih
def f_X9_couldBe_b9 (K9 : Nat → Int32 → Int32 → HP → Option (Int32 × HP)) (a0 : Nat) (x1 : Int32) (x2 : Int32) (h : HP) : Option (Int32 × HP) :=
  (gI h a0 9 2).bind fun v1 =>
  if v1 ≤ x2 then
    some (x1, h)
  else
    F_X9_couldBe_22 K9 FU a0 x1 x2 1 0 h
set_option maxRecDepth 100000 in
set_option maxHeartbeats 4000000 in
theorem w_X9_couldBe_b9 (X : CX RX9 cX9_couldBe 5 (some .int) p s m args meth c G b) {out : Int32 × HP} (Z : ZI p l e RM_X9_couldBe s m args below meth c cX9_couldBe G b False 0 0 Q out) {K9 : Nat → Int32 → Int32 → HP → Option (Int32 × HP)} (hK9 : ∀ (a0 : Nat) (x1 : Int32) (x2 : Int32) (h : HP), K9 a0 x1 x2 h = some out → ∀ (H : Heap) (locs : List Loc) (ls : Array Slot), ST G b False s h H locs → lv_has ls 5 [(0, .ref (b + a0)), (1, .int x1), (2, .int x2)] → W p l e RM_X9_couldBe s m args below meth c H locs 0 0 Q (F0 m 9 ls [])) : ∀ (a0 : Nat) (x1 : Int32) (x2 : Int32) (h : HP), f_X9_couldBe_b9 K9 a0 x1 x2 h = some out → ∀ (H : Heap) (locs : List Loc) (ls : Array Slot), ST G b False s h H locs → lv_has ls 5 [(0, .ref (b + a0)), (1, .int x1), (2, .int x2)] → W p l e RM_X9_couldBe s m args below meth c H locs 0 0 Q (F0 m 9 ls []) := by
  intro a0 x1 x2 h hf H locs ls S hl
  unfold f_X9_couldBe_b9 at hf
  have hx := X.1
  have hb := X.2.1
  refine lv_iload_n hx hb dX9_couldBe_9 rfl (lv_at hl 2 rfl) ?_
  refine lv_aload_n hx hb dX9_couldBe_10 rfl (lv_at hl 0 rfl) ?_
  obtain ⟨v1, e_v1, hf⟩ := ob hf
  refine r_getI X S fl_X9_51 e_v1 dX9_couldBe_11 ?_
  refine lv_icmp_ge (tgt := 107) hx hb dX9_couldBe_14 (by decide) (fun hc => ?_) (fun hc => ?_)
  · replace hf := ip hf hc
    refine lv_iload_n hx hb dX9_couldBe_107 rfl (lv_at hl 1 rfl) ?_
    obtain rfl := Option.some.inj hf
    exact Z _ _ _ _ dX9_couldBe_108 S
  · replace hf := im hf hc
    refine lv_iconst (v := 1) hx hb dX9_couldBe_17 (by decide) ?_
    refine lv_istore_n (lv' := [(3, .int 1), (0, .ref (b + a0)), (1, .int x1), (2, .int x2)]) hx hb dX9_couldBe_18 rfl hl (by decide) rfl (fun ls hl => ?_)
    refine lv_iconst (v := 0) hx hb dX9_couldBe_19 (by decide) ?_
    refine lv_istore (lv' := [(4, .int 0), (3, .int 1), (0, .ref (b + a0)), (1, .int x1), (2, .int x2)]) hx hb dX9_couldBe_20 hl (by decide) rfl (fun ls hl => ?_)
    exact wl_X9_couldBe_22 X Z hK9 FU _ _ _ _ _ _ hf _ _ _ S (lv_sub hl [2, 3, 4, 1, 0] rfl)
def F_X9_couldBe_9  : Nat → Nat → Int32 → Int32 → HP → Option (Int32 × HP)
  | 0 => fun _ _ _ _ => none
  | n + 1 => fun a0 x1 x2 h => f_X9_couldBe_b9 (F_X9_couldBe_9  n) a0 x1 x2 h
theorem wl_X9_couldBe_9 (X : CX RX9 cX9_couldBe 5 (some .int) p s m args meth c G b) {out : Int32 × HP} (Z : ZI p l e RM_X9_couldBe s m args below meth c cX9_couldBe G b False 0 0 Q out)  : ∀ (n : Nat) (a0 : Nat) (x1 : Int32) (x2 : Int32) (h : HP), F_X9_couldBe_9  n a0 x1 x2 h = some out → ∀ (H : Heap) (locs : List Loc) (ls : Array Slot), ST G b False s h H locs → lv_has ls 5 [(0, .ref (b + a0)), (1, .int x1), (2, .int x2)] → W p l e RM_X9_couldBe s m args below meth c H locs 0 0 Q (F0 m 9 ls []) := by
  intro n
  induction n with
  | zero => intro a0 x1 x2 h hf; exact nn hf
  | succ n ih => exact w_X9_couldBe_b9 X Z ih
def f_X9_couldBe_e  (a0 : Nat) (h : HP) : Option (Int32 × HP) :=
  (f_X9_giveOut a0 0 h).bind fun h1 =>
  F_X9_couldBe_9  FU a0 0 0 h1
set_option maxRecDepth 100000 in
set_option maxHeartbeats 4000000 in
theorem w_X9_couldBe_e (X : CX RX9 cX9_couldBe 5 (some .int) p s m args meth c G b) {out : Int32 × HP} (Z : ZI p l e RM_X9_couldBe s m args below meth c cX9_couldBe G b False 0 0 Q out)  : ∀ (a0 : Nat) (h : HP), f_X9_couldBe_e  a0 h = some out → ∀ (H : Heap) (locs : List Loc) (ls : Array Slot), ST G b False s h H locs → lv_has ls 5 [(0, .ref (b + a0))] → W p l e RM_X9_couldBe s m args below meth c H locs 0 0 Q (F0 m 0 ls []) := by
  intro a0 h hf H locs ls S hl
  unfold f_X9_couldBe_e at hf
  have hx := X.1
  have hb := X.2.1
  refine lv_aload_n hx hb dX9_couldBe_0 rfl (lv_at hl 0 rfl) ?_
  refine lv_iconst (v := 0) hx hb dX9_couldBe_1 (by decide) ?_
  obtain ⟨h1, e_h1, hf⟩ := ob hf
  refine r_callV X S hl.1 (As := [.int 0]) (rest := []) (c_X9_giveOut e_h1) my_X9_giveOut mv_X9_giveOut ml_X9_187 rfl (o_X9_giveOut e_h1) ⟨rfl, rfl, Nat.le_of_ble_eq_true rfl, Nat.le_of_ble_eq_true rfl⟩ rfl rfl (Nat.le_of_ble_eq_true rfl) dX9_couldBe_2 ⟨Nat.le_of_ble_eq_true rfl, Nat.le_of_ble_eq_true rfl⟩ (fun H locs S => ?_)
  refine W.eq (g2 := F0 m 5 ls []) rfl ?_
  refine lv_iconst (v := 0) hx hb dX9_couldBe_5 (by decide) ?_
  refine lv_istore_n (lv' := [(1, .int 0), (0, .ref (b + a0))]) hx hb dX9_couldBe_6 rfl hl (by decide) rfl (fun ls hl => ?_)
  refine lv_iconst (v := 0) hx hb dX9_couldBe_7 (by decide) ?_
  refine lv_istore_n (lv' := [(2, .int 0), (1, .int 0), (0, .ref (b + a0))]) hx hb dX9_couldBe_8 rfl hl (by decide) rfl (fun ls hl => ?_)
  exact wl_X9_couldBe_9 X Z  FU _ _ _ _ hf _ _ _ S (lv_sub hl [2, 1, 0] rfl)
def f_X9_couldBe (a0 : Nat) (h : HP) : Option (Int32 × HP) := ck h a0 9 (f_X9_couldBe_e a0 h)
theorem o_X9_couldBe {a0 : Nat} {h : HP} {out : Int32 × HP} (hf : f_X9_couldBe a0 h = some out) : ∃ fs, h[a0]? = some (.inl (9, fs)) := (ck_spec hf).1
set_option maxRecDepth 100000 in
theorem c_X9_couldBe {l : Launch} {G : GT} {b : Nat} {a0 : Nat} {h : HP} {out : Int32 × HP} (hf : f_X9_couldBe a0 h = some out) : MT l G b False False yX9_couldBe cX9_couldBe 5 (some .int) RM_X9_couldBe [.ref (b + a0)] h (some (.int out.1)) out.2 0 0 := by
  refine met_of (by decide) (Nat.le_of_ble_eq_true rfl) ?_
  intro p e s m below meth c ls X hnm S hl
  have hl : lv_has ls 5 [(0, .ref (b + a0))] := hl
  replace hf := (ck_spec hf).2
  exact w_X9_couldBe_e X (z_i X) _ _ hf _ _ _ S hl
/-! RoomRingsModel.ask()I -/
abbrev RM_X9_ask : Room := { frames := 8, cells := 0, slots := 0, locals := 183 }
def f_X9_ask_b67 (K30 : Nat → Int32 → Int32 → Int32 → Int32 → Int32 → Int32 → HP → Option (Int32 × HP)) (a0 : Nat) (x1 : Int32) (x2 : Int32) (x3 : Int32) (x4 : Int32) (x6 : Int32) (s0 : Int32) (s1 : Int32) (h : HP) : Option (Int32 × HP) :=
  K30 a0 x1 x2 x3 x4 (s0 + s1) (x6 + 1) h
set_option maxRecDepth 100000 in
set_option maxHeartbeats 4000000 in
theorem w_X9_ask_b67 (X : CX RX9 cX9_ask 7 (some .int) p s m args meth c G b) {out : Int32 × HP} (Z : ZI p l e RM_X9_ask s m args below meth c cX9_ask G b False 0 0 Q out) {K30 : Nat → Int32 → Int32 → Int32 → Int32 → Int32 → Int32 → HP → Option (Int32 × HP)} (hK30 : ∀ (a0 : Nat) (x1 : Int32) (x2 : Int32) (x3 : Int32) (x4 : Int32) (x5 : Int32) (x6 : Int32) (h : HP), K30 a0 x1 x2 x3 x4 x5 x6 h = some out → ∀ (H : Heap) (locs : List Loc) (ls : Array Slot), ST G b False s h H locs → lv_has ls 7 [(0, .ref (b + a0)), (1, .int x1), (2, .int x2), (3, .int x3), (4, .int x4), (5, .int x5), (6, .int x6)] → W p l e RM_X9_ask s m args below meth c H locs 0 0 Q (F0 m 30 ls [])) : ∀ (a0 : Nat) (x1 : Int32) (x2 : Int32) (x3 : Int32) (x4 : Int32) (x6 : Int32) (s0 : Int32) (s1 : Int32) (h : HP), f_X9_ask_b67 K30 a0 x1 x2 x3 x4 x6 s0 s1 h = some out → ∀ (H : Heap) (locs : List Loc) (ls : Array Slot), ST G b False s h H locs → lv_has ls 7 [(0, .ref (b + a0)), (1, .int x1), (2, .int x2), (3, .int x3), (4, .int x4), (6, .int x6)] → W p l e RM_X9_ask s m args below meth c H locs 0 0 Q (F0 m 67 ls [.int s1, .int s0]) := by
  intro a0 x1 x2 x3 x4 x6 s0 s1 h hf H locs ls S hl
  unfold f_X9_ask_b67 at hf
  have hx := X.1
  have hb := X.2.1
  refine lv_iadd hx hb dX9_ask_67 ?_
  refine lv_istore (lv' := [(5, .int (s0 + s1)), (0, .ref (b + a0)), (1, .int x1), (2, .int x2), (3, .int x3), (4, .int x4), (6, .int x6)]) hx hb dX9_ask_68 hl (by decide) rfl (fun ls hl => ?_)
  refine lv_iinc (v := x6 + 1) (lv' := [(6, .int (x6 + 1)), (5, .int (s0 + s1)), (0, .ref (b + a0)), (1, .int x1), (2, .int x2), (3, .int x3), (4, .int x4)]) hx hb dX9_ask_70 hl (k := 6) rfl rfl (by decide) rfl (fun ls hl => ?_)
  refine lv_goto (tgt := 30) hx hb dX9_ask_73 (by decide) ?_
  exact hK30 _ _ _ _ _ _ _ _ hf _ _ _ S (lv_sub hl [2, 3, 4, 5, 6, 1, 0] rfl)
def f_X9_ask_b66 (K30 : Nat → Int32 → Int32 → Int32 → Int32 → Int32 → Int32 → HP → Option (Int32 × HP)) (a0 : Nat) (x1 : Int32) (x2 : Int32) (x3 : Int32) (x4 : Int32) (x6 : Int32) (s0 : Int32) (h : HP) : Option (Int32 × HP) :=
  f_X9_ask_b67 K30 a0 x1 x2 x3 x4 x6 s0 0 h
set_option maxRecDepth 100000 in
set_option maxHeartbeats 4000000 in
theorem w_X9_ask_b66 (X : CX RX9 cX9_ask 7 (some .int) p s m args meth c G b) {out : Int32 × HP} (Z : ZI p l e RM_X9_ask s m args below meth c cX9_ask G b False 0 0 Q out) {K30 : Nat → Int32 → Int32 → Int32 → Int32 → Int32 → Int32 → HP → Option (Int32 × HP)} (hK30 : ∀ (a0 : Nat) (x1 : Int32) (x2 : Int32) (x3 : Int32) (x4 : Int32) (x5 : Int32) (x6 : Int32) (h : HP), K30 a0 x1 x2 x3 x4 x5 x6 h = some out → ∀ (H : Heap) (locs : List Loc) (ls : Array Slot), ST G b False s h H locs → lv_has ls 7 [(0, .ref (b + a0)), (1, .int x1), (2, .int x2), (3, .int x3), (4, .int x4), (5, .int x5), (6, .int x6)] → W p l e RM_X9_ask s m args below meth c H locs 0 0 Q (F0 m 30 ls [])) : ∀ (a0 : Nat) (x1 : Int32) (x2 : Int32) (x3 : Int32) (x4 : Int32) (x6 : Int32) (s0 : Int32) (h : HP), f_X9_ask_b66 K30 a0 x1 x2 x3 x4 x6 s0 h = some out → ∀ (H : Heap) (locs : List Loc) (ls : Array Slot), ST G b False s h H locs → lv_has ls 7 [(0, .ref (b + a0)), (1, .int x1), (2, .int x2), (3, .int x3), (4, .int x4), (6, .int x6)] → W p l e RM_X9_ask s m args below meth c H locs 0 0 Q (F0 m 66 ls [.int s0]) := by
  intro a0 x1 x2 x3 x4 x6 s0 h hf H locs ls S hl
  unfold f_X9_ask_b66 at hf
  have hx := X.1
  have hb := X.2.1
  refine lv_iconst (v := 0) hx hb dX9_ask_66 (by decide) ?_
  exact w_X9_ask_b67 X Z hK30 _ _ _ _ _ _ _ _ _ hf _ _ _ S (lv_sub hl [0, 1, 2, 3, 4, 5] rfl)
def f_X9_ask_b127 (K15 : Nat → Int32 → Int32 → Int32 → Int32 → HP → Option (Int32 × HP)) (a0 : Nat) (x1 : Int32) (x2 : Int32) (x4 : Int32) (s0 : Int32) (h : HP) : Option (Int32 × HP) :=
  K15 a0 x1 x2 s0 (x4 + 1) h
set_option maxRecDepth 100000 in
set_option maxHeartbeats 4000000 in
theorem w_X9_ask_b127 (X : CX RX9 cX9_ask 7 (some .int) p s m args meth c G b) {out : Int32 × HP} (Z : ZI p l e RM_X9_ask s m args below meth c cX9_ask G b False 0 0 Q out) {K15 : Nat → Int32 → Int32 → Int32 → Int32 → HP → Option (Int32 × HP)} (hK15 : ∀ (a0 : Nat) (x1 : Int32) (x2 : Int32) (x3 : Int32) (x4 : Int32) (h : HP), K15 a0 x1 x2 x3 x4 h = some out → ∀ (H : Heap) (locs : List Loc) (ls : Array Slot), ST G b False s h H locs → lv_has ls 7 [(0, .ref (b + a0)), (1, .int x1), (2, .int x2), (3, .int x3), (4, .int x4)] → W p l e RM_X9_ask s m args below meth c H locs 0 0 Q (F0 m 15 ls [])) : ∀ (a0 : Nat) (x1 : Int32) (x2 : Int32) (x4 : Int32) (s0 : Int32) (h : HP), f_X9_ask_b127 K15 a0 x1 x2 x4 s0 h = some out → ∀ (H : Heap) (locs : List Loc) (ls : Array Slot), ST G b False s h H locs → lv_has ls 7 [(0, .ref (b + a0)), (1, .int x1), (2, .int x2), (4, .int x4)] → W p l e RM_X9_ask s m args below meth c H locs 0 0 Q (F0 m 127 ls [.int s0]) := by
  intro a0 x1 x2 x4 s0 h hf H locs ls S hl
  unfold f_X9_ask_b127 at hf
  have hx := X.1
  have hb := X.2.1
  refine lv_istore_n (lv' := [(3, .int s0), (0, .ref (b + a0)), (1, .int x1), (2, .int x2), (4, .int x4)]) hx hb dX9_ask_127 rfl hl (by decide) rfl (fun ls hl => ?_)
  refine lv_iinc (v := x4 + 1) (lv' := [(4, .int (x4 + 1)), (3, .int s0), (0, .ref (b + a0)), (1, .int x1), (2, .int x2)]) hx hb dX9_ask_128 hl (k := 4) rfl rfl (by decide) rfl (fun ls hl => ?_)
  refine lv_goto (tgt := 15) hx hb dX9_ask_131 (by decide) ?_
  exact hK15 _ _ _ _ _ _ hf _ _ _ S (lv_sub hl [2, 3, 4, 1, 0] rfl)
def f_X9_ask_b114 (K15 : Nat → Int32 → Int32 → Int32 → Int32 → HP → Option (Int32 × HP)) (a0 : Nat) (x1 : Int32) (x3 : Int32) (x4 : Int32) (x6 : Int32) (s0 : Int32) (h : HP) : Option (Int32 × HP) :=
  if x3 ≤ x6 then
    f_X9_ask_b127 K15 a0 x1 s0 x4 x3 h
  else
    f_X9_ask_b127 K15 a0 x1 s0 x4 x6 h
set_option maxRecDepth 100000 in
set_option maxHeartbeats 4000000 in
theorem w_X9_ask_b114 (X : CX RX9 cX9_ask 7 (some .int) p s m args meth c G b) {out : Int32 × HP} (Z : ZI p l e RM_X9_ask s m args below meth c cX9_ask G b False 0 0 Q out) {K15 : Nat → Int32 → Int32 → Int32 → Int32 → HP → Option (Int32 × HP)} (hK15 : ∀ (a0 : Nat) (x1 : Int32) (x2 : Int32) (x3 : Int32) (x4 : Int32) (h : HP), K15 a0 x1 x2 x3 x4 h = some out → ∀ (H : Heap) (locs : List Loc) (ls : Array Slot), ST G b False s h H locs → lv_has ls 7 [(0, .ref (b + a0)), (1, .int x1), (2, .int x2), (3, .int x3), (4, .int x4)] → W p l e RM_X9_ask s m args below meth c H locs 0 0 Q (F0 m 15 ls [])) : ∀ (a0 : Nat) (x1 : Int32) (x3 : Int32) (x4 : Int32) (x6 : Int32) (s0 : Int32) (h : HP), f_X9_ask_b114 K15 a0 x1 x3 x4 x6 s0 h = some out → ∀ (H : Heap) (locs : List Loc) (ls : Array Slot), ST G b False s h H locs → lv_has ls 7 [(0, .ref (b + a0)), (1, .int x1), (3, .int x3), (4, .int x4), (6, .int x6)] → W p l e RM_X9_ask s m args below meth c H locs 0 0 Q (F0 m 114 ls [.int s0]) := by
  intro a0 x1 x3 x4 x6 s0 h hf H locs ls S hl
  unfold f_X9_ask_b114 at hf
  have hx := X.1
  have hb := X.2.1
  refine lv_istore_n (lv' := [(2, .int s0), (0, .ref (b + a0)), (1, .int x1), (3, .int x3), (4, .int x4), (6, .int x6)]) hx hb dX9_ask_114 rfl hl (by decide) rfl (fun ls hl => ?_)
  refine lv_iload hx hb dX9_ask_115 (lv_at hl 5 rfl) ?_
  refine lv_iload_n hx hb dX9_ask_117 rfl (lv_at hl 3 rfl) ?_
  refine lv_icmp_ge (tgt := 126) hx hb dX9_ask_118 (by decide) (fun hc => ?_) (fun hc => ?_)
  · replace hf := ip hf hc
    refine lv_iload_n hx hb dX9_ask_126 rfl (lv_at hl 3 rfl) ?_
    exact w_X9_ask_b127 X Z hK15 _ _ _ _ _ _ hf _ _ _ S (lv_sub hl [1, 2, 0, 4] rfl)
  · replace hf := im hf hc
    refine lv_iload hx hb dX9_ask_121 (lv_at hl 5 rfl) ?_
    refine lv_goto (tgt := 127) hx hb dX9_ask_123 (by decide) ?_
    exact w_X9_ask_b127 X Z hK15 _ _ _ _ _ _ hf _ _ _ S (lv_sub hl [1, 2, 0, 4] rfl)
def f_X9_ask_b100 (K15 : Nat → Int32 → Int32 → Int32 → Int32 → HP → Option (Int32 × HP)) (a0 : Nat) (x1 : Int32) (x2 : Int32) (x3 : Int32) (x4 : Int32) (s0 : Int32) (h : HP) : Option (Int32 × HP) :=
  if x3 ≤ s0 then
    f_X9_ask_b114 K15 a0 x1 x3 x4 s0 x2 h
  else
    f_X9_ask_b114 K15 a0 x1 x3 x4 s0 x4 h
set_option maxRecDepth 100000 in
set_option maxHeartbeats 4000000 in
theorem w_X9_ask_b100 (X : CX RX9 cX9_ask 7 (some .int) p s m args meth c G b) {out : Int32 × HP} (Z : ZI p l e RM_X9_ask s m args below meth c cX9_ask G b False 0 0 Q out) {K15 : Nat → Int32 → Int32 → Int32 → Int32 → HP → Option (Int32 × HP)} (hK15 : ∀ (a0 : Nat) (x1 : Int32) (x2 : Int32) (x3 : Int32) (x4 : Int32) (h : HP), K15 a0 x1 x2 x3 x4 h = some out → ∀ (H : Heap) (locs : List Loc) (ls : Array Slot), ST G b False s h H locs → lv_has ls 7 [(0, .ref (b + a0)), (1, .int x1), (2, .int x2), (3, .int x3), (4, .int x4)] → W p l e RM_X9_ask s m args below meth c H locs 0 0 Q (F0 m 15 ls [])) : ∀ (a0 : Nat) (x1 : Int32) (x2 : Int32) (x3 : Int32) (x4 : Int32) (s0 : Int32) (h : HP), f_X9_ask_b100 K15 a0 x1 x2 x3 x4 s0 h = some out → ∀ (H : Heap) (locs : List Loc) (ls : Array Slot), ST G b False s h H locs → lv_has ls 7 [(0, .ref (b + a0)), (1, .int x1), (2, .int x2), (3, .int x3), (4, .int x4)] → W p l e RM_X9_ask s m args below meth c H locs 0 0 Q (F0 m 100 ls [.int s0]) := by
  intro a0 x1 x2 x3 x4 s0 h hf H locs ls S hl
  unfold f_X9_ask_b100 at hf
  have hx := X.1
  have hb := X.2.1
  refine lv_istore (lv' := [(6, .int s0), (0, .ref (b + a0)), (1, .int x1), (2, .int x2), (3, .int x3), (4, .int x4)]) hx hb dX9_ask_100 hl (by decide) rfl (fun ls hl => ?_)
  refine lv_iload hx hb dX9_ask_102 (lv_at hl 0 rfl) ?_
  refine lv_iload_n hx hb dX9_ask_104 rfl (lv_at hl 4 rfl) ?_
  refine lv_icmp_ge (tgt := 113) hx hb dX9_ask_105 (by decide) (fun hc => ?_) (fun hc => ?_)
  · replace hf := ip hf hc
    refine lv_iload_n hx hb dX9_ask_113 rfl (lv_at hl 3 rfl) ?_
    exact w_X9_ask_b114 X Z hK15 _ _ _ _ _ _ _ hf _ _ _ S (lv_sub hl [1, 2, 4, 5, 0] rfl)
  · replace hf := im hf hc
    refine lv_iload hx hb dX9_ask_108 (lv_at hl 5 rfl) ?_
    refine lv_goto (tgt := 114) hx hb dX9_ask_110 (by decide) ?_
    exact w_X9_ask_b114 X Z hK15 _ _ _ _ _ _ _ hf _ _ _ S (lv_sub hl [1, 2, 4, 5, 0] rfl)
def f_X9_ask_b30 (K15 : Nat → Int32 → Int32 → Int32 → Int32 → HP → Option (Int32 × HP)) (K30 : Nat → Int32 → Int32 → Int32 → Int32 → Int32 → Int32 → HP → Option (Int32 × HP)) (a0 : Nat) (x1 : Int32) (x2 : Int32) (x3 : Int32) (x4 : Int32) (x5 : Int32) (x6 : Int32) (h : HP) : Option (Int32 × HP) :=
  (gI h a0 9 2).bind fun v1 =>
  if v1 ≤ x6 then
    (f_X9_bits x1 h).bind fun q2 =>
    if x5 ≤ (q2.1 - x5) then
      (f_X9_bits x1 q2.2).bind fun q3 =>
      f_X9_ask_b100 K15 a0 x1 x2 x3 x4 (q3.1 - x5) q3.2
    else
      f_X9_ask_b100 K15 a0 x1 x2 x3 x4 x5 q2.2
  else
    (f_X9_has x1 x6 h).bind fun q4 =>
    if q4.1 = 0 then
      f_X9_ask_b66 K30 a0 x1 x2 x3 x4 x6 x5 q4.2
    else
      (gR q4.2 a0 9 8).bind fun r5 =>
      (ald q4.2 r5 x6).bind fun v6 =>
      if v6 = x4 then
        f_X9_ask_b67 K30 a0 x1 x2 x3 x4 x6 x5 1 q4.2
      else
        f_X9_ask_b66 K30 a0 x1 x2 x3 x4 x6 x5 q4.2
set_option maxRecDepth 100000 in
set_option maxHeartbeats 4000000 in
theorem w_X9_ask_b30 (X : CX RX9 cX9_ask 7 (some .int) p s m args meth c G b) {out : Int32 × HP} (Z : ZI p l e RM_X9_ask s m args below meth c cX9_ask G b False 0 0 Q out) {K15 : Nat → Int32 → Int32 → Int32 → Int32 → HP → Option (Int32 × HP)} (hK15 : ∀ (a0 : Nat) (x1 : Int32) (x2 : Int32) (x3 : Int32) (x4 : Int32) (h : HP), K15 a0 x1 x2 x3 x4 h = some out → ∀ (H : Heap) (locs : List Loc) (ls : Array Slot), ST G b False s h H locs → lv_has ls 7 [(0, .ref (b + a0)), (1, .int x1), (2, .int x2), (3, .int x3), (4, .int x4)] → W p l e RM_X9_ask s m args below meth c H locs 0 0 Q (F0 m 15 ls [])) {K30 : Nat → Int32 → Int32 → Int32 → Int32 → Int32 → Int32 → HP → Option (Int32 × HP)} (hK30 : ∀ (a0 : Nat) (x1 : Int32) (x2 : Int32) (x3 : Int32) (x4 : Int32) (x5 : Int32) (x6 : Int32) (h : HP), K30 a0 x1 x2 x3 x4 x5 x6 h = some out → ∀ (H : Heap) (locs : List Loc) (ls : Array Slot), ST G b False s h H locs → lv_has ls 7 [(0, .ref (b + a0)), (1, .int x1), (2, .int x2), (3, .int x3), (4, .int x4), (5, .int x5), (6, .int x6)] → W p l e RM_X9_ask s m args below meth c H locs 0 0 Q (F0 m 30 ls [])) : ∀ (a0 : Nat) (x1 : Int32) (x2 : Int32) (x3 : Int32) (x4 : Int32) (x5 : Int32) (x6 : Int32) (h : HP), f_X9_ask_b30 K15 K30 a0 x1 x2 x3 x4 x5 x6 h = some out → ∀ (H : Heap) (locs : List Loc) (ls : Array Slot), ST G b False s h H locs → lv_has ls 7 [(0, .ref (b + a0)), (1, .int x1), (2, .int x2), (3, .int x3), (4, .int x4), (5, .int x5), (6, .int x6)] → W p l e RM_X9_ask s m args below meth c H locs 0 0 Q (F0 m 30 ls []) := by
  intro a0 x1 x2 x3 x4 x5 x6 h hf H locs ls S hl
  unfold f_X9_ask_b30 at hf
  have hx := X.1
  have hb := X.2.1
  refine lv_iload hx hb dX9_ask_30 (lv_at hl 6 rfl) ?_
  refine lv_aload_n hx hb dX9_ask_32 rfl (lv_at hl 0 rfl) ?_
  obtain ⟨v1, e_v1, hf⟩ := ob hf
  refine r_getI X S fl_X9_51 e_v1 dX9_ask_33 ?_
  refine lv_icmp_ge (tgt := 76) hx hb dX9_ask_36 (by decide) (fun hc => ?_) (fun hc => ?_)
  · replace hf := ip hf hc
    refine lv_iload hx hb dX9_ask_76 (lv_at hl 5 rfl) ?_
    refine lv_iload_n hx hb dX9_ask_78 rfl (lv_at hl 1 rfl) ?_
    obtain ⟨q2, e_q2, hf⟩ := ob hf
    refine r_callS X S hl.1 (As := [.int x1]) (rest := [.int x5]) (c_X9_bits e_q2) my_X9_bits ms_X9_bits ml_X9_172 ⟨rfl, rfl, Nat.le_of_ble_eq_true rfl, Nat.le_of_ble_eq_true rfl⟩ rfl rfl (Nat.le_of_ble_eq_true rfl) dX9_ask_79 ⟨Nat.le_of_ble_eq_true rfl, Nat.le_of_ble_eq_true rfl⟩ (fun H locs S => ?_)
    refine W.eq (g2 := F0 m 82 ls [.int q2.1, .int x5]) rfl ?_
    refine lv_iload hx hb dX9_ask_82 (lv_at hl 5 rfl) ?_
    refine lv_isub hx hb dX9_ask_84 ?_
    refine lv_icmp_le (tgt := 93) hx hb dX9_ask_85 (by decide) (fun hc => ?_) (fun hc => ?_)
    · replace hf := ip hf hc
      refine lv_iload_n hx hb dX9_ask_93 rfl (lv_at hl 1 rfl) ?_
      obtain ⟨q3, e_q3, hf⟩ := ob hf
      refine r_callS X S hl.1 (As := [.int x1]) (rest := []) (c_X9_bits e_q3) my_X9_bits ms_X9_bits ml_X9_172 ⟨rfl, rfl, Nat.le_of_ble_eq_true rfl, Nat.le_of_ble_eq_true rfl⟩ rfl rfl (Nat.le_of_ble_eq_true rfl) dX9_ask_94 ⟨Nat.le_of_ble_eq_true rfl, Nat.le_of_ble_eq_true rfl⟩ (fun H locs S => ?_)
      refine W.eq (g2 := F0 m 97 ls [.int q3.1]) rfl ?_
      refine lv_iload hx hb dX9_ask_97 (lv_at hl 5 rfl) ?_
      refine lv_isub hx hb dX9_ask_99 ?_
      exact w_X9_ask_b100 X Z hK15 _ _ _ _ _ _ _ hf _ _ _ S (lv_sub hl [0, 1, 2, 3, 4] rfl)
    · replace hf := im hf hc
      refine lv_iload hx hb dX9_ask_88 (lv_at hl 5 rfl) ?_
      refine lv_goto (tgt := 100) hx hb dX9_ask_90 (by decide) ?_
      exact w_X9_ask_b100 X Z hK15 _ _ _ _ _ _ _ hf _ _ _ S (lv_sub hl [0, 1, 2, 3, 4] rfl)
  · replace hf := im hf hc
    refine lv_iload hx hb dX9_ask_39 (lv_at hl 5 rfl) ?_
    refine lv_iload_n hx hb dX9_ask_41 rfl (lv_at hl 1 rfl) ?_
    refine lv_iload hx hb dX9_ask_42 (lv_at hl 6 rfl) ?_
    obtain ⟨q4, e_q4, hf⟩ := ob hf
    refine r_callS X S hl.1 (As := [.int x1, .int x6]) (rest := [.int x5]) (c_X9_has e_q4) my_X9_has ms_X9_has ml_X9_134 ⟨rfl, rfl, Nat.le_of_ble_eq_true rfl, Nat.le_of_ble_eq_true rfl⟩ rfl rfl (Nat.le_of_ble_eq_true rfl) dX9_ask_44 ⟨Nat.le_of_ble_eq_true rfl, Nat.le_of_ble_eq_true rfl⟩ (fun H locs S => ?_)
    refine W.eq (g2 := F0 m 47 ls [.int q4.1, .int x5]) rfl ?_
    refine lv_if_eq (tgt := 66) hx hb dX9_ask_47 (by decide) (fun hc => ?_) (fun hc => ?_)
    · replace hf := ip hf hc
      exact w_X9_ask_b66 X Z hK30 _ _ _ _ _ _ _ _ hf _ _ _ S (lv_sub hl [0, 1, 2, 3, 4, 6] rfl)
    · replace hf := im hf hc
      refine lv_aload_n hx hb dX9_ask_50 rfl (lv_at hl 0 rfl) ?_
      obtain ⟨r5, e_r5, hf⟩ := ob hf
      refine r_getR X S fl_X9_20 e_r5 dX9_ask_51 ?_
      refine lv_iload hx hb dX9_ask_54 (lv_at hl 6 rfl) ?_
      obtain ⟨v6, e_v6, hf⟩ := ob hf
      refine r_ald X S e_v6 dX9_ask_56 ?_
      refine lv_iload hx hb dX9_ask_57 (lv_at hl 4 rfl) ?_
      refine lv_icmp_ne (tgt := 66) hx hb dX9_ask_59 (by decide) (fun hc => ?_) (fun hc => ?_)
      · replace hf := im hf hc
        exact w_X9_ask_b66 X Z hK30 _ _ _ _ _ _ _ _ hf _ _ _ S (lv_sub hl [0, 1, 2, 3, 4, 6] rfl)
      · replace hf := ip hf hc
        refine lv_iconst (v := 1) hx hb dX9_ask_62 (by decide) ?_
        refine lv_goto (tgt := 67) hx hb dX9_ask_63 (by decide) ?_
        exact w_X9_ask_b67 X Z hK30 _ _ _ _ _ _ _ _ _ hf _ _ _ S (lv_sub hl [0, 1, 2, 3, 4, 6] rfl)
def F_X9_ask_30 (K15 : Nat → Int32 → Int32 → Int32 → Int32 → HP → Option (Int32 × HP)) : Nat → Nat → Int32 → Int32 → Int32 → Int32 → Int32 → Int32 → HP → Option (Int32 × HP)
  | 0 => fun _ _ _ _ _ _ _ _ => none
  | n + 1 => fun a0 x1 x2 x3 x4 x5 x6 h => f_X9_ask_b30 K15 (F_X9_ask_30 K15 n) a0 x1 x2 x3 x4 x5 x6 h
theorem wl_X9_ask_30 (X : CX RX9 cX9_ask 7 (some .int) p s m args meth c G b) {out : Int32 × HP} (Z : ZI p l e RM_X9_ask s m args below meth c cX9_ask G b False 0 0 Q out) {K15 : Nat → Int32 → Int32 → Int32 → Int32 → HP → Option (Int32 × HP)} (hK15 : ∀ (a0 : Nat) (x1 : Int32) (x2 : Int32) (x3 : Int32) (x4 : Int32) (h : HP), K15 a0 x1 x2 x3 x4 h = some out → ∀ (H : Heap) (locs : List Loc) (ls : Array Slot), ST G b False s h H locs → lv_has ls 7 [(0, .ref (b + a0)), (1, .int x1), (2, .int x2), (3, .int x3), (4, .int x4)] → W p l e RM_X9_ask s m args below meth c H locs 0 0 Q (F0 m 15 ls [])) : ∀ (n : Nat) (a0 : Nat) (x1 : Int32) (x2 : Int32) (x3 : Int32) (x4 : Int32) (x5 : Int32) (x6 : Int32) (h : HP), F_X9_ask_30 K15 n a0 x1 x2 x3 x4 x5 x6 h = some out → ∀ (H : Heap) (locs : List Loc) (ls : Array Slot), ST G b False s h H locs → lv_has ls 7 [(0, .ref (b + a0)), (1, .int x1), (2, .int x2), (3, .int x3), (4, .int x4), (5, .int x5), (6, .int x6)] → W p l e RM_X9_ask s m args below meth c H locs 0 0 Q (F0 m 30 ls []) := by
  intro n
  induction n with
  | zero => intro a0 x1 x2 x3 x4 x5 x6 h hf; exact nn hf
  | succ n ih => exact w_X9_ask_b30 X Z hK15 ih
def f_X9_ask_b15 (K15 : Nat → Int32 → Int32 → Int32 → Int32 → HP → Option (Int32 × HP)) (a0 : Nat) (x1 : Int32) (x2 : Int32) (x3 : Int32) (x4 : Int32) (h : HP) : Option (Int32 × HP) :=
  (gI h a0 9 1).bind fun v1 =>
  if v1 ≤ x4 then
    some (x2, h)
  else
    F_X9_ask_30 K15 FU a0 x1 x2 x3 x4 0 0 h
set_option maxRecDepth 100000 in
set_option maxHeartbeats 4000000 in
theorem w_X9_ask_b15 (X : CX RX9 cX9_ask 7 (some .int) p s m args meth c G b) {out : Int32 × HP} (Z : ZI p l e RM_X9_ask s m args below meth c cX9_ask G b False 0 0 Q out) {K15 : Nat → Int32 → Int32 → Int32 → Int32 → HP → Option (Int32 × HP)} (hK15 : ∀ (a0 : Nat) (x1 : Int32) (x2 : Int32) (x3 : Int32) (x4 : Int32) (h : HP), K15 a0 x1 x2 x3 x4 h = some out → ∀ (H : Heap) (locs : List Loc) (ls : Array Slot), ST G b False s h H locs → lv_has ls 7 [(0, .ref (b + a0)), (1, .int x1), (2, .int x2), (3, .int x3), (4, .int x4)] → W p l e RM_X9_ask s m args below meth c H locs 0 0 Q (F0 m 15 ls [])) : ∀ (a0 : Nat) (x1 : Int32) (x2 : Int32) (x3 : Int32) (x4 : Int32) (h : HP), f_X9_ask_b15 K15 a0 x1 x2 x3 x4 h = some out → ∀ (H : Heap) (locs : List Loc) (ls : Array Slot), ST G b False s h H locs → lv_has ls 7 [(0, .ref (b + a0)), (1, .int x1), (2, .int x2), (3, .int x3), (4, .int x4)] → W p l e RM_X9_ask s m args below meth c H locs 0 0 Q (F0 m 15 ls []) := by
  intro a0 x1 x2 x3 x4 h hf H locs ls S hl
  unfold f_X9_ask_b15 at hf
  have hx := X.1
  have hb := X.2.1
  refine lv_iload hx hb dX9_ask_15 (lv_at hl 4 rfl) ?_
  refine lv_aload_n hx hb dX9_ask_17 rfl (lv_at hl 0 rfl) ?_
  obtain ⟨v1, e_v1, hf⟩ := ob hf
  refine r_getI X S fl_X9_58 e_v1 dX9_ask_18 ?_
  refine lv_icmp_ge (tgt := 134) hx hb dX9_ask_21 (by decide) (fun hc => ?_) (fun hc => ?_)
  · replace hf := ip hf hc
    refine lv_iload_n hx hb dX9_ask_134 rfl (lv_at hl 2 rfl) ?_
    obtain rfl := Option.some.inj hf
    exact Z _ _ _ _ dX9_ask_135 S
  · replace hf := im hf hc
    refine lv_iconst (v := 0) hx hb dX9_ask_24 (by decide) ?_
    refine lv_istore (lv' := [(5, .int 0), (0, .ref (b + a0)), (1, .int x1), (2, .int x2), (3, .int x3), (4, .int x4)]) hx hb dX9_ask_25 hl (by decide) rfl (fun ls hl => ?_)
    refine lv_iconst (v := 0) hx hb dX9_ask_27 (by decide) ?_
    refine lv_istore (lv' := [(6, .int 0), (5, .int 0), (0, .ref (b + a0)), (1, .int x1), (2, .int x2), (3, .int x3), (4, .int x4)]) hx hb dX9_ask_28 hl (by decide) rfl (fun ls hl => ?_)
    exact wl_X9_ask_30 X Z hK15 FU _ _ _ _ _ _ _ _ hf _ _ _ S (lv_sub hl [2, 3, 4, 5, 6, 1, 0] rfl)
def F_X9_ask_15  : Nat → Nat → Int32 → Int32 → Int32 → Int32 → HP → Option (Int32 × HP)
  | 0 => fun _ _ _ _ _ _ => none
  | n + 1 => fun a0 x1 x2 x3 x4 h => f_X9_ask_b15 (F_X9_ask_15  n) a0 x1 x2 x3 x4 h
theorem wl_X9_ask_15 (X : CX RX9 cX9_ask 7 (some .int) p s m args meth c G b) {out : Int32 × HP} (Z : ZI p l e RM_X9_ask s m args below meth c cX9_ask G b False 0 0 Q out)  : ∀ (n : Nat) (a0 : Nat) (x1 : Int32) (x2 : Int32) (x3 : Int32) (x4 : Int32) (h : HP), F_X9_ask_15  n a0 x1 x2 x3 x4 h = some out → ∀ (H : Heap) (locs : List Loc) (ls : Array Slot), ST G b False s h H locs → lv_has ls 7 [(0, .ref (b + a0)), (1, .int x1), (2, .int x2), (3, .int x3), (4, .int x4)] → W p l e RM_X9_ask s m args below meth c H locs 0 0 Q (F0 m 15 ls []) := by
  intro n
  induction n with
  | zero => intro a0 x1 x2 x3 x4 h hf; exact nn hf
  | succ n ih => exact w_X9_ask_b15 X Z ih
def f_X9_ask_e  (a0 : Nat) (h : HP) : Option (Int32 × HP) :=
  (f_X9_couldBe a0 h).bind fun q1 =>
  (f_X9_bits q1.1 q1.2).bind fun q2 =>
  F_X9_ask_15  FU a0 q1.1 (-1) q2.1 0 q2.2
set_option maxRecDepth 100000 in
set_option maxHeartbeats 4000000 in
theorem w_X9_ask_e (X : CX RX9 cX9_ask 7 (some .int) p s m args meth c G b) {out : Int32 × HP} (Z : ZI p l e RM_X9_ask s m args below meth c cX9_ask G b False 0 0 Q out)  : ∀ (a0 : Nat) (h : HP), f_X9_ask_e  a0 h = some out → ∀ (H : Heap) (locs : List Loc) (ls : Array Slot), ST G b False s h H locs → lv_has ls 7 [(0, .ref (b + a0))] → W p l e RM_X9_ask s m args below meth c H locs 0 0 Q (F0 m 0 ls []) := by
  intro a0 h hf H locs ls S hl
  unfold f_X9_ask_e at hf
  have hx := X.1
  have hb := X.2.1
  refine lv_aload_n hx hb dX9_ask_0 rfl (lv_at hl 0 rfl) ?_
  obtain ⟨q1, e_q1, hf⟩ := ob hf
  refine r_callV X S hl.1 (As := []) (rest := []) (c_X9_couldBe e_q1) my_X9_couldBe mv_X9_couldBe ml_X9_263 rfl (o_X9_couldBe e_q1) ⟨rfl, rfl, Nat.le_of_ble_eq_true rfl, Nat.le_of_ble_eq_true rfl⟩ rfl rfl (Nat.le_of_ble_eq_true rfl) dX9_ask_1 ⟨Nat.le_of_ble_eq_true rfl, Nat.le_of_ble_eq_true rfl⟩ (fun H locs S => ?_)
  refine W.eq (g2 := F0 m 4 ls [.int q1.1]) rfl ?_
  refine lv_istore_n (lv' := [(1, .int q1.1), (0, .ref (b + a0))]) hx hb dX9_ask_4 rfl hl (by decide) rfl (fun ls hl => ?_)
  refine lv_iconst (v := (-1)) hx hb dX9_ask_5 (by decide) ?_
  refine lv_istore_n (lv' := [(2, .int (-1)), (1, .int q1.1), (0, .ref (b + a0))]) hx hb dX9_ask_6 rfl hl (by decide) rfl (fun ls hl => ?_)
  refine lv_iload_n hx hb dX9_ask_7 rfl (lv_at hl 1 rfl) ?_
  obtain ⟨q2, e_q2, hf⟩ := ob hf
  refine r_callS X S hl.1 (As := [.int q1.1]) (rest := []) (c_X9_bits e_q2) my_X9_bits ms_X9_bits ml_X9_172 ⟨rfl, rfl, Nat.le_of_ble_eq_true rfl, Nat.le_of_ble_eq_true rfl⟩ rfl rfl (Nat.le_of_ble_eq_true rfl) dX9_ask_8 ⟨Nat.le_of_ble_eq_true rfl, Nat.le_of_ble_eq_true rfl⟩ (fun H locs S => ?_)
  refine W.eq (g2 := F0 m 11 ls [.int q2.1]) rfl ?_
  refine lv_istore_n (lv' := [(3, .int q2.1), (2, .int (-1)), (1, .int q1.1), (0, .ref (b + a0))]) hx hb dX9_ask_11 rfl hl (by decide) rfl (fun ls hl => ?_)
  refine lv_iconst (v := 0) hx hb dX9_ask_12 (by decide) ?_
  refine lv_istore (lv' := [(4, .int 0), (3, .int q2.1), (2, .int (-1)), (1, .int q1.1), (0, .ref (b + a0))]) hx hb dX9_ask_13 hl (by decide) rfl (fun ls hl => ?_)
  exact wl_X9_ask_15 X Z  FU _ _ _ _ _ _ hf _ _ _ S (lv_sub hl [4, 3, 2, 1, 0] rfl)
def f_X9_ask (a0 : Nat) (h : HP) : Option (Int32 × HP) := ck h a0 9 (f_X9_ask_e a0 h)
theorem o_X9_ask {a0 : Nat} {h : HP} {out : Int32 × HP} (hf : f_X9_ask a0 h = some out) : ∃ fs, h[a0]? = some (.inl (9, fs)) := (ck_spec hf).1
set_option maxRecDepth 100000 in
theorem c_X9_ask {l : Launch} {G : GT} {b : Nat} {a0 : Nat} {h : HP} {out : Int32 × HP} (hf : f_X9_ask a0 h = some out) : MT l G b False False yX9_ask cX9_ask 7 (some .int) RM_X9_ask [.ref (b + a0)] h (some (.int out.1)) out.2 0 0 := by
  refine met_of (by decide) (Nat.le_of_ble_eq_true rfl) ?_
  intro p e s m below meth c ls X hnm S hl
  have hl : lv_has ls 7 [(0, .ref (b + a0))] := hl
  replace hf := (ck_spec hf).2
  exact w_X9_ask_e X (z_i X) _ _ hf _ _ _ S hl
/-! RoomRingsModel.write(II)I -/
abbrev RM_X9_write : Room := { frames := 3, cells := 0, slots := 0, locals := 64 }
def f_X9_write_b16   (h : HP) : Option (Int32 × HP) :=
  some ((-1000000001), h)
set_option maxRecDepth 100000 in
set_option maxHeartbeats 4000000 in
theorem w_X9_write_b16 (X : CX RX9 cX9_write 3 (some .int) p s m args meth c G b) {out : Int32 × HP} (Z : ZI p l e RM_X9_write s m args below meth c cX9_write G b False 0 0 Q out)  : ∀  (h : HP), f_X9_write_b16   h = some out → ∀ (H : Heap) (locs : List Loc) (ls : Array Slot), ST G b False s h H locs → lv_has ls 3 [] → W p l e RM_X9_write s m args below meth c H locs 0 0 Q (F0 m 16 ls []) := by
  intro  h hf H locs ls S hl
  unfold f_X9_write_b16 at hf
  have hx := X.1
  have hb := X.2.1
  refine lv_ldc (v := (-1000000001)) hx hb X.2.2.2.1 (X.2.2.2.2.1 _ cn_X9_206) dX9_write_16 ?_
  obtain rfl := Option.some.inj hf
  exact Z _ _ _ _ dX9_write_18 S
def f_X9_write_e  (a0 : Nat) (x1 : Int32) (x2 : Int32) (h : HP) : Option (Int32 × HP) :=
  (f_X9_isPerson a0 x1 h).bind fun q1 =>
  if q1.1 = 0 then
    f_X9_write_b16   q1.2
  else
    (f_X9_isRoomOrNone a0 x2 q1.2).bind fun q2 =>
    if q2.1 = 0 then
      f_X9_write_b16   q2.2
    else
      (gI q2.2 a0 9 18).bind fun v3 =>
      if v3 = 20 then
        some ((-1000000004), q2.2)
      else
        (gR q2.2 a0 9 16).bind fun r4 =>
        (gI q2.2 a0 9 18).bind fun v5 =>
        (ast q2.2 r4 v5 x1).bind fun h6 =>
        (gR h6 a0 9 17).bind fun r7 =>
        (gI h6 a0 9 18).bind fun v8 =>
        (ast h6 r7 v8 x2).bind fun h9 =>
        (gI h9 a0 9 18).bind fun v10 =>
        (pI h9 a0 9 18 (v10 + 1)).bind fun h11 =>
        (gI h11 a0 9 18).bind fun v12 =>
        some (v12, h11)
set_option maxRecDepth 100000 in
set_option maxHeartbeats 4000000 in
theorem w_X9_write_e (X : CX RX9 cX9_write 3 (some .int) p s m args meth c G b) {out : Int32 × HP} (Z : ZI p l e RM_X9_write s m args below meth c cX9_write G b False 0 0 Q out)  : ∀ (a0 : Nat) (x1 : Int32) (x2 : Int32) (h : HP), f_X9_write_e  a0 x1 x2 h = some out → ∀ (H : Heap) (locs : List Loc) (ls : Array Slot), ST G b False s h H locs → lv_has ls 3 [(0, .ref (b + a0)), (1, .int x1), (2, .int x2)] → W p l e RM_X9_write s m args below meth c H locs 0 0 Q (F0 m 0 ls []) := by
  intro a0 x1 x2 h hf H locs ls S hl
  unfold f_X9_write_e at hf
  have hx := X.1
  have hb := X.2.1
  refine lv_aload_n hx hb dX9_write_0 rfl (lv_at hl 0 rfl) ?_
  refine lv_iload_n hx hb dX9_write_1 rfl (lv_at hl 1 rfl) ?_
  obtain ⟨q1, e_q1, hf⟩ := ob hf
  refine r_callV X S hl.1 (As := [.int x1]) (rest := []) (c_X9_isPerson e_q1) my_X9_isPerson mv_X9_isPerson ml_X9_202 rfl (o_X9_isPerson e_q1) ⟨rfl, rfl, Nat.le_of_ble_eq_true rfl, Nat.le_of_ble_eq_true rfl⟩ rfl rfl (Nat.le_of_ble_eq_true rfl) dX9_write_2 ⟨Nat.le_of_ble_eq_true rfl, Nat.le_of_ble_eq_true rfl⟩ (fun H locs S => ?_)
  refine W.eq (g2 := F0 m 5 ls [.int q1.1]) rfl ?_
  refine lv_if_eq (tgt := 16) hx hb dX9_write_5 (by decide) (fun hc => ?_) (fun hc => ?_)
  · replace hf := ip hf hc
    exact w_X9_write_b16 X Z  _ hf _ _ _ S (lv_sub hl [] rfl)
  · replace hf := im hf hc
    refine lv_aload_n hx hb dX9_write_8 rfl (lv_at hl 0 rfl) ?_
    refine lv_iload_n hx hb dX9_write_9 rfl (lv_at hl 2 rfl) ?_
    obtain ⟨q2, e_q2, hf⟩ := ob hf
    refine r_callV X S hl.1 (As := [.int x2]) (rest := []) (c_X9_isRoomOrNone e_q2) my_X9_isRoomOrNone mv_X9_isRoomOrNone ml_X9_260 rfl (o_X9_isRoomOrNone e_q2) ⟨rfl, rfl, Nat.le_of_ble_eq_true rfl, Nat.le_of_ble_eq_true rfl⟩ rfl rfl (Nat.le_of_ble_eq_true rfl) dX9_write_10 ⟨Nat.le_of_ble_eq_true rfl, Nat.le_of_ble_eq_true rfl⟩ (fun H locs S => ?_)
    refine W.eq (g2 := F0 m 13 ls [.int q2.1]) rfl ?_
    refine lv_if_ne (tgt := 19) hx hb dX9_write_13 (by decide) (fun hc => ?_) (fun hc => ?_)
    · replace hf := im hf hc
      refine lv_aload_n hx hb dX9_write_19 rfl (lv_at hl 0 rfl) ?_
      obtain ⟨v3, e_v3, hf⟩ := ob hf
      refine r_getI X S fl_X9_128 e_v3 dX9_write_20 ?_
      refine lv_bipush (v := 20) hx hb dX9_write_23 (by decide) ?_
      refine lv_icmp_ne (tgt := 31) hx hb dX9_write_25 (by decide) (fun hc => ?_) (fun hc => ?_)
      · replace hf := im hf hc
        refine lv_aload_n hx hb dX9_write_31 rfl (lv_at hl 0 rfl) ?_
        obtain ⟨r4, e_r4, hf⟩ := ob hf
        refine r_getR X S fl_X9_38 e_r4 dX9_write_32 ?_
        refine lv_aload_n hx hb dX9_write_35 rfl (lv_at hl 0 rfl) ?_
        obtain ⟨v5, e_v5, hf⟩ := ob hf
        refine r_getI X S fl_X9_128 e_v5 dX9_write_36 ?_
        refine lv_iload_n hx hb dX9_write_39 rfl (lv_at hl 1 rfl) ?_
        obtain ⟨h6, e_h6, hf⟩ := ob hf
        refine r_ast X S e_h6 dX9_write_40 (fun H locs S => ?_)
        refine lv_aload_n hx hb dX9_write_41 rfl (lv_at hl 0 rfl) ?_
        obtain ⟨r7, e_r7, hf⟩ := ob hf
        refine r_getR X S fl_X9_41 e_r7 dX9_write_42 ?_
        refine lv_aload_n hx hb dX9_write_45 rfl (lv_at hl 0 rfl) ?_
        obtain ⟨v8, e_v8, hf⟩ := ob hf
        refine r_getI X S fl_X9_128 e_v8 dX9_write_46 ?_
        refine lv_iload_n hx hb dX9_write_49 rfl (lv_at hl 2 rfl) ?_
        obtain ⟨h9, e_h9, hf⟩ := ob hf
        refine r_ast X S e_h9 dX9_write_50 (fun H locs S => ?_)
        refine lv_aload_n hx hb dX9_write_51 rfl (lv_at hl 0 rfl) ?_
        refine lv_dup hx hb dX9_write_52 rfl ?_
        obtain ⟨v10, e_v10, hf⟩ := ob hf
        refine r_getI X S fl_X9_128 e_v10 dX9_write_53 ?_
        refine lv_iconst (v := 1) hx hb dX9_write_56 (by decide) ?_
        refine lv_iadd hx hb dX9_write_57 ?_
        obtain ⟨h11, e_h11, hf⟩ := ob hf
        refine r_put X S fp_X9_128 (fun h9 => by cases h9) rfl rfl rfl e_h11 dX9_write_58 (fun H locs S => ?_)
        refine lv_aload_n hx hb dX9_write_61 rfl (lv_at hl 0 rfl) ?_
        obtain ⟨v12, e_v12, hf⟩ := ob hf
        refine r_getI X S fl_X9_128 e_v12 dX9_write_62 ?_
        obtain rfl := Option.some.inj hf
        exact Z _ _ _ _ dX9_write_65 S
      · replace hf := ip hf hc
        refine lv_ldc (v := (-1000000004)) hx hb X.2.2.2.1 (X.2.2.2.2.1 _ cn_X9_65) dX9_write_28 ?_
        obtain rfl := Option.some.inj hf
        exact Z _ _ _ _ dX9_write_30 S
    · replace hf := ip hf hc
      exact w_X9_write_b16 X Z  _ hf _ _ _ S (lv_sub hl [] rfl)
def f_X9_write (a0 : Nat) (x1 : Int32) (x2 : Int32) (h : HP) : Option (Int32 × HP) := ck h a0 9 (f_X9_write_e a0 x1 x2 h)
theorem o_X9_write {a0 : Nat} {x1 : Int32} {x2 : Int32} {h : HP} {out : Int32 × HP} (hf : f_X9_write a0 x1 x2 h = some out) : ∃ fs, h[a0]? = some (.inl (9, fs)) := (ck_spec hf).1
set_option maxRecDepth 100000 in
theorem c_X9_write {l : Launch} {G : GT} {b : Nat} {a0 : Nat} {x1 : Int32} {x2 : Int32} {h : HP} {out : Int32 × HP} (hf : f_X9_write a0 x1 x2 h = some out) : MT l G b False False yX9_write cX9_write 3 (some .int) RM_X9_write [.ref (b + a0), .int x1, .int x2] h (some (.int out.1)) out.2 0 0 := by
  refine met_of (by decide) (Nat.le_of_ble_eq_true rfl) ?_
  intro p e s m below meth c ls X hnm S hl
  have hl : lv_has ls 3 [(0, .ref (b + a0)), (1, .int x1), (2, .int x2)] := hl
  replace hf := (ck_spec hf).2
  exact w_X9_write_e X (z_i X) _ _ _ _ hf _ _ _ S hl
/-! RoomRingsModel.judge()I -/
abbrev RM_X9_judge : Room := { frames := 7, cells := 0, slots := 0, locals := 159 }
def f_X9_judge_b7 (K7 : Nat → Int32 → HP → Option (Int32 × HP)) (a0 : Nat) (x1 : Int32) (h : HP) : Option (Int32 × HP) :=
  (gI h a0 9 18).bind fun v1 =>
  if v1 ≤ x1 then
    some ((-1), h)
  else
    (gR h a0 9 8).bind fun r2 =>
    (gR h a0 9 16).bind fun r3 =>
    (ald h r3 x1).bind fun v4 =>
    (ald h r2 v4).bind fun v5 =>
    (gR h a0 9 17).bind fun r6 =>
    (ald h r6 x1).bind fun v7 =>
    if v5 = v7 then
      K7 a0 (x1 + 1) h
    else
      some (x1, h)
set_option maxRecDepth 100000 in
set_option maxHeartbeats 4000000 in
theorem w_X9_judge_b7 (X : CX RX9 cX9_judge 2 (some .int) p s m args meth c G b) {out : Int32 × HP} (Z : ZI p l e RM_X9_judge s m args below meth c cX9_judge G b False 0 0 Q out) {K7 : Nat → Int32 → HP → Option (Int32 × HP)} (hK7 : ∀ (a0 : Nat) (x1 : Int32) (h : HP), K7 a0 x1 h = some out → ∀ (H : Heap) (locs : List Loc) (ls : Array Slot), ST G b False s h H locs → lv_has ls 2 [(0, .ref (b + a0)), (1, .int x1)] → W p l e RM_X9_judge s m args below meth c H locs 0 0 Q (F0 m 7 ls [])) : ∀ (a0 : Nat) (x1 : Int32) (h : HP), f_X9_judge_b7 K7 a0 x1 h = some out → ∀ (H : Heap) (locs : List Loc) (ls : Array Slot), ST G b False s h H locs → lv_has ls 2 [(0, .ref (b + a0)), (1, .int x1)] → W p l e RM_X9_judge s m args below meth c H locs 0 0 Q (F0 m 7 ls []) := by
  intro a0 x1 h hf H locs ls S hl
  unfold f_X9_judge_b7 at hf
  have hx := X.1
  have hb := X.2.1
  refine lv_iload_n hx hb dX9_judge_7 rfl (lv_at hl 1 rfl) ?_
  refine lv_aload_n hx hb dX9_judge_8 rfl (lv_at hl 0 rfl) ?_
  obtain ⟨v1, e_v1, hf⟩ := ob hf
  refine r_getI X S fl_X9_128 e_v1 dX9_judge_9 ?_
  refine lv_icmp_ge (tgt := 43) hx hb dX9_judge_12 (by decide) (fun hc => ?_) (fun hc => ?_)
  · replace hf := ip hf hc
    refine lv_iconst (v := (-1)) hx hb dX9_judge_43 (by decide) ?_
    obtain rfl := Option.some.inj hf
    exact Z _ _ _ _ dX9_judge_44 S
  · replace hf := im hf hc
    refine lv_aload_n hx hb dX9_judge_15 rfl (lv_at hl 0 rfl) ?_
    obtain ⟨r2, e_r2, hf⟩ := ob hf
    refine r_getR X S fl_X9_20 e_r2 dX9_judge_16 ?_
    refine lv_aload_n hx hb dX9_judge_19 rfl (lv_at hl 0 rfl) ?_
    obtain ⟨r3, e_r3, hf⟩ := ob hf
    refine r_getR X S fl_X9_38 e_r3 dX9_judge_20 ?_
    refine lv_iload_n hx hb dX9_judge_23 rfl (lv_at hl 1 rfl) ?_
    obtain ⟨v4, e_v4, hf⟩ := ob hf
    refine r_ald X S e_v4 dX9_judge_24 ?_
    obtain ⟨v5, e_v5, hf⟩ := ob hf
    refine r_ald X S e_v5 dX9_judge_25 ?_
    refine lv_aload_n hx hb dX9_judge_26 rfl (lv_at hl 0 rfl) ?_
    obtain ⟨r6, e_r6, hf⟩ := ob hf
    refine r_getR X S fl_X9_41 e_r6 dX9_judge_27 ?_
    refine lv_iload_n hx hb dX9_judge_30 rfl (lv_at hl 1 rfl) ?_
    obtain ⟨v7, e_v7, hf⟩ := ob hf
    refine r_ald X S e_v7 dX9_judge_31 ?_
    refine lv_icmp_eq (tgt := 37) hx hb dX9_judge_32 (by decide) (fun hc => ?_) (fun hc => ?_)
    · replace hf := ip hf hc
      refine lv_iinc (v := x1 + 1) (lv' := [(1, .int (x1 + 1)), (0, .ref (b + a0))]) hx hb dX9_judge_37 hl (k := 1) rfl rfl (by decide) rfl (fun ls hl => ?_)
      refine lv_goto (tgt := 7) hx hb dX9_judge_40 (by decide) ?_
      exact hK7 _ _ _ hf _ _ _ S (lv_sub hl [1, 0] rfl)
    · replace hf := im hf hc
      refine lv_iload_n hx hb dX9_judge_35 rfl (lv_at hl 1 rfl) ?_
      obtain rfl := Option.some.inj hf
      exact Z _ _ _ _ dX9_judge_36 S
def F_X9_judge_7  : Nat → Nat → Int32 → HP → Option (Int32 × HP)
  | 0 => fun _ _ _ => none
  | n + 1 => fun a0 x1 h => f_X9_judge_b7 (F_X9_judge_7  n) a0 x1 h
theorem wl_X9_judge_7 (X : CX RX9 cX9_judge 2 (some .int) p s m args meth c G b) {out : Int32 × HP} (Z : ZI p l e RM_X9_judge s m args below meth c cX9_judge G b False 0 0 Q out)  : ∀ (n : Nat) (a0 : Nat) (x1 : Int32) (h : HP), F_X9_judge_7  n a0 x1 h = some out → ∀ (H : Heap) (locs : List Loc) (ls : Array Slot), ST G b False s h H locs → lv_has ls 2 [(0, .ref (b + a0)), (1, .int x1)] → W p l e RM_X9_judge s m args below meth c H locs 0 0 Q (F0 m 7 ls []) := by
  intro n
  induction n with
  | zero => intro a0 x1 h hf; exact nn hf
  | succ n ih => exact w_X9_judge_b7 X Z ih
def f_X9_judge_e  (a0 : Nat) (h : HP) : Option (Int32 × HP) :=
  (f_X9_giveOut a0 0 h).bind fun h1 =>
  F_X9_judge_7  FU a0 0 h1
set_option maxRecDepth 100000 in
set_option maxHeartbeats 4000000 in
theorem w_X9_judge_e (X : CX RX9 cX9_judge 2 (some .int) p s m args meth c G b) {out : Int32 × HP} (Z : ZI p l e RM_X9_judge s m args below meth c cX9_judge G b False 0 0 Q out)  : ∀ (a0 : Nat) (h : HP), f_X9_judge_e  a0 h = some out → ∀ (H : Heap) (locs : List Loc) (ls : Array Slot), ST G b False s h H locs → lv_has ls 2 [(0, .ref (b + a0))] → W p l e RM_X9_judge s m args below meth c H locs 0 0 Q (F0 m 0 ls []) := by
  intro a0 h hf H locs ls S hl
  unfold f_X9_judge_e at hf
  have hx := X.1
  have hb := X.2.1
  refine lv_aload_n hx hb dX9_judge_0 rfl (lv_at hl 0 rfl) ?_
  refine lv_iconst (v := 0) hx hb dX9_judge_1 (by decide) ?_
  obtain ⟨h1, e_h1, hf⟩ := ob hf
  refine r_callV X S hl.1 (As := [.int 0]) (rest := []) (c_X9_giveOut e_h1) my_X9_giveOut mv_X9_giveOut ml_X9_187 rfl (o_X9_giveOut e_h1) ⟨rfl, rfl, Nat.le_of_ble_eq_true rfl, Nat.le_of_ble_eq_true rfl⟩ rfl rfl (Nat.le_of_ble_eq_true rfl) dX9_judge_2 ⟨Nat.le_of_ble_eq_true rfl, Nat.le_of_ble_eq_true rfl⟩ (fun H locs S => ?_)
  refine W.eq (g2 := F0 m 5 ls []) rfl ?_
  refine lv_iconst (v := 0) hx hb dX9_judge_5 (by decide) ?_
  refine lv_istore_n (lv' := [(1, .int 0), (0, .ref (b + a0))]) hx hb dX9_judge_6 rfl hl (by decide) rfl (fun ls hl => ?_)
  exact wl_X9_judge_7 X Z  FU _ _ _ hf _ _ _ S (lv_sub hl [1, 0] rfl)
def f_X9_judge (a0 : Nat) (h : HP) : Option (Int32 × HP) := ck h a0 9 (f_X9_judge_e a0 h)
theorem o_X9_judge {a0 : Nat} {h : HP} {out : Int32 × HP} (hf : f_X9_judge a0 h = some out) : ∃ fs, h[a0]? = some (.inl (9, fs)) := (ck_spec hf).1
set_option maxRecDepth 100000 in
theorem c_X9_judge {l : Launch} {G : GT} {b : Nat} {a0 : Nat} {h : HP} {out : Int32 × HP} (hf : f_X9_judge a0 h = some out) : MT l G b False False yX9_judge cX9_judge 2 (some .int) RM_X9_judge [.ref (b + a0)] h (some (.int out.1)) out.2 0 0 := by
  refine met_of (by decide) (Nat.le_of_ble_eq_true rfl) ?_
  intro p e s m below meth c ls X hnm S hl
  have hl : lv_has ls 2 [(0, .ref (b + a0))] := hl
  replace hf := (ck_spec hf).2
  exact w_X9_judge_e X (z_i X) _ _ hf _ _ _ S hl
end M19
