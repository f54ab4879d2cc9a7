section M07
variable {p : Program} {l : Launch} {e : Env} {s : State} {m : MethodId} {args : Array Value} {below : List Frame} {meth : Method} {c : Code} {Q : State → Prop} {G : GT} {b : Nat}
/-! RoomRings$Text.readRoom(LRoomRings$House;)I -/
abbrev RM_X7_readRoom : Room := { frames := 2, cells := 0, slots := 0, locals := 44 }
def f_X7_readRoom_b22  (x2 : Int32) (h : HP) : Option (Int32 × HP) :=
  some (x2, h)
set_option maxRecDepth 100000 in
set_option maxHeartbeats 4000000 in
theorem w_X7_readRoom_b22 (X : CX RX7 cX7_readRoom 3 (some .int) p s m args meth c G b) {out : Int32 × HP} (Z : ZI p l e RM_X7_readRoom s m args below meth c cX7_readRoom G b False 0 0 Q out)  : ∀ (x2 : Int32) (h : HP), f_X7_readRoom_b22  x2 h = some out → ∀ (H : Heap) (locs : List Loc) (ls : Array Slot), ST G b False s h H locs → lv_has ls 3 [(2, .int x2)] → W p l e RM_X7_readRoom s m args below meth c H locs 0 0 Q (F0 m 22 ls []) := by
  intro x2 h hf H locs ls S hl
  unfold f_X7_readRoom_b22 at hf
  have hx := X.1
  have hb := X.2.1
  refine lv_iload_n hx hb dX7_readRoom_22 rfl (lv_at hl 0 rfl) ?_
  obtain rfl := Option.some.inj hf
  exact Z _ _ _ _ dX7_readRoom_23 S
def f_X7_readRoom_e  (a0 : Nat) (a1 : Nat) (h : HP) : Option (Int32 × HP) :=
  (f_X7_readNumber a0 h).bind fun q1 =>
  (f_X3_hasRoom a1 q1.1 q1.2).bind fun q2 =>
  if q2.1 = 0 then
    (gI q2.2 a0 7 4).bind fun v3 =>
    (f_X7_fail a0 2 v3 q2.2).bind fun h4 =>
    f_X7_readRoom_b22  q1.1 h4
  else
    f_X7_readRoom_b22  q1.1 q2.2
set_option maxRecDepth 100000 in
set_option maxHeartbeats 4000000 in
theorem w_X7_readRoom_e (X : CX RX7 cX7_readRoom 3 (some .int) p s m args meth c G b) {out : Int32 × HP} (Z : ZI p l e RM_X7_readRoom s m args below meth c cX7_readRoom G b False 0 0 Q out)  : ∀ (a0 : Nat) (a1 : Nat) (h : HP), f_X7_readRoom_e  a0 a1 h = some out → ∀ (H : Heap) (locs : List Loc) (ls : Array Slot), ST G b False s h H locs → lv_has ls 3 [(0, .ref (b + a0)), (1, .ref (b + a1))] → W p l e RM_X7_readRoom s m args below meth c H locs 0 0 Q (F0 m 0 ls []) := by
  intro a0 a1 h hf H locs ls S hl
  unfold f_X7_readRoom_e at hf
  have hx := X.1
  have hb := X.2.1
  refine lv_aload_n hx hb dX7_readRoom_0 rfl (lv_at hl 0 rfl) ?_
  obtain ⟨q1, e_q1, hf⟩ := ob hf
  refine r_callV X S hl.1 (As := []) (rest := []) (c_X7_readNumber e_q1) my_X7_readNumber mv_X7_readNumber ml_X7_57 rfl (o_X7_readNumber e_q1) ⟨rfl, rfl, Nat.le_of_ble_eq_true rfl, Nat.le_of_ble_eq_true rfl⟩ rfl rfl (Nat.le_of_ble_eq_true rfl) dX7_readRoom_1 ⟨Nat.le_of_ble_eq_true rfl, Nat.le_of_ble_eq_true rfl⟩ (fun H locs S => ?_)
  refine W.eq (g2 := F0 m 4 ls [.int q1.1]) rfl ?_
  refine lv_istore_n (lv' := [(2, .int q1.1), (0, .ref (b + a0)), (1, .ref (b + a1))]) hx hb dX7_readRoom_4 rfl hl (by decide) rfl (fun ls hl => ?_)
  refine lv_aload_n hx hb dX7_readRoom_5 rfl (lv_at hl 2 rfl) ?_
  refine lv_iload_n hx hb dX7_readRoom_6 rfl (lv_at hl 0 rfl) ?_
  obtain ⟨q2, e_q2, hf⟩ := ob hf
  refine r_callV X S hl.1 (As := [.int q1.1]) (rest := []) (c_X3_hasRoom e_q2) my_X3_hasRoom mv_X3_hasRoom ml_X7_100 rfl (o_X3_hasRoom e_q2) ⟨rfl, rfl, Nat.le_of_ble_eq_true rfl, Nat.le_of_ble_eq_true rfl⟩ rfl rfl (Nat.le_of_ble_eq_true rfl) dX7_readRoom_7 ⟨Nat.le_of_ble_eq_true rfl, Nat.le_of_ble_eq_true rfl⟩ (fun H locs S => ?_)
  refine W.eq (g2 := F0 m 10 ls [.int q2.1]) rfl ?_
  refine lv_if_ne (tgt := 22) hx hb dX7_readRoom_10 (by decide) (fun hc => ?_) (fun hc => ?_)
  · replace hf := im hf hc
    exact w_X7_readRoom_b22 X Z  _ _ hf _ _ _ S (lv_sub hl [0] rfl)
  · replace hf := ip hf hc
    refine lv_aload_n hx hb dX7_readRoom_13 rfl (lv_at hl 1 rfl) ?_
    refine lv_iconst (v := 2) hx hb dX7_readRoom_14 (by decide) ?_
    refine lv_aload_n hx hb dX7_readRoom_15 rfl (lv_at hl 1 rfl) ?_
    obtain ⟨v3, e_v3, hf⟩ := ob hf
    refine r_getI X S fl_X7_60 e_v3 dX7_readRoom_16 ?_
    obtain ⟨h4, e_h4, hf⟩ := ob hf
    refine r_callV X S hl.1 (As := [.int 2, .int v3]) (rest := []) (c_X7_fail e_h4) my_X7_fail mv_X7_fail ml_X7_49 rfl (o_X7_fail e_h4) ⟨rfl, rfl, Nat.le_of_ble_eq_true rfl, Nat.le_of_ble_eq_true rfl⟩ rfl rfl (Nat.le_of_ble_eq_true rfl) dX7_readRoom_19 ⟨Nat.le_of_ble_eq_true rfl, Nat.le_of_ble_eq_true rfl⟩ (fun H locs S => ?_)
    refine W.eq (g2 := F0 m 22 ls []) rfl ?_
    exact w_X7_readRoom_b22 X Z  _ _ hf _ _ _ S (lv_sub hl [0] rfl)
def f_X7_readRoom (a0 : Nat) (a1 : Nat) (h : HP) : Option (Int32 × HP) := ck h a0 7 (f_X7_readRoom_e a0 a1 h)
theorem o_X7_readRoom {a0 : Nat} {a1 : Nat} {h : HP} {out : Int32 × HP} (hf : f_X7_readRoom a0 a1 h = some out) : ∃ fs, h[a0]? = some (.inl (7, fs)) := (ck_spec hf).1
set_option maxRecDepth 100000 in
theorem c_X7_readRoom {l : Launch} {G : GT} {b : Nat} {a0 : Nat} {a1 : Nat} {h : HP} {out : Int32 × HP} (hf : f_X7_readRoom a0 a1 h = some out) : MT l G b False False yX7_readRoom cX7_readRoom 3 (some .int) RM_X7_readRoom [.ref (b + a0), .ref (b + a1)] h (some (.int out.1)) out.2 0 0 := by
  refine met_of (by decide) (Nat.le_of_ble_eq_true rfl) ?_
  intro p e s m below meth c ls X hnm S hl
  have hl : lv_has ls 3 [(0, .ref (b + a0)), (1, .ref (b + a1))] := hl
  replace hf := (ck_spec hf).2
  exact w_X7_readRoom_e X (z_i X) _ _ _ hf _ _ _ S hl
/-! RoomRings$Text.readSeat(LRoomRings$House;I)V -/
abbrev RM_X7_readSeat : Room := { frames := 3, cells := 0, slots := 0, locals := 66 }
def f_X7_readSeat_b44   (h : HP) : Option (HP) :=
  some h
set_option maxRecDepth 100000 in
set_option maxHeartbeats 4000000 in
theorem w_X7_readSeat_b44 (X : CX RX7 cX7_readSeat 4 none p s m args meth c G b) {out : HP} (Z : ZV p l e RM_X7_readSeat s m args below meth c cX7_readSeat G b False 0 0 Q out)  : ∀  (h : HP), f_X7_readSeat_b44   h = some out → ∀ (H : Heap) (locs : List Loc) (ls : Array Slot), ST G b False s h H locs → lv_has ls 4 [] → W p l e RM_X7_readSeat s m args below meth c H locs 0 0 Q (F0 m 44 ls []) := by
  intro  h hf H locs ls S hl
  unfold f_X7_readSeat_b44 at hf
  have hx := X.1
  have hb := X.2.1
  obtain rfl := Option.some.inj hf
  exact Z _ _ _ _ dX7_readSeat_44 S
def f_X7_readSeat_b31  (a0 : Nat) (a1 : Nat) (x2 : Int32) (x3 : Int32) (h : HP) : Option (HP) :=
  (gI h a0 7 2).bind fun v1 =>
  if v1 = 0 then
    (f_X3_seat a1 x2 x3 h).bind fun h2 =>
    f_X7_readSeat_b44   h2
  else
    f_X7_readSeat_b44   h
set_option maxRecDepth 100000 in
set_option maxHeartbeats 4000000 in
theorem w_X7_readSeat_b31 (X : CX RX7 cX7_readSeat 4 none p s m args meth c G b) {out : HP} (Z : ZV p l e RM_X7_readSeat s m args below meth c cX7_readSeat G b False 0 0 Q out)  : ∀ (a0 : Nat) (a1 : Nat) (x2 : Int32) (x3 : Int32) (h : HP), f_X7_readSeat_b31  a0 a1 x2 x3 h = some out → ∀ (H : Heap) (locs : List Loc) (ls : Array Slot), ST G b False s h H locs → lv_has ls 4 [(0, .ref (b + a0)), (1, .ref (b + a1)), (2, .int x2), (3, .int x3)] → W p l e RM_X7_readSeat s m args below meth c H locs 0 0 Q (F0 m 31 ls []) := by
  intro a0 a1 x2 x3 h hf H locs ls S hl
  unfold f_X7_readSeat_b31 at hf
  have hx := X.1
  have hb := X.2.1
  refine lv_aload_n hx hb dX7_readSeat_31 rfl (lv_at hl 0 rfl) ?_
  obtain ⟨v1, e_v1, hf⟩ := ob hf
  refine r_getI X S fl_X7_35 e_v1 dX7_readSeat_32 ?_
  refine lv_if_ne (tgt := 44) hx hb dX7_readSeat_35 (by decide) (fun hc => ?_) (fun hc => ?_)
  · replace hf := im hf hc
    exact w_X7_readSeat_b44 X Z  _ hf _ _ _ S (lv_sub hl [] rfl)
  · replace hf := ip hf hc
    refine lv_aload_n hx hb dX7_readSeat_38 rfl (lv_at hl 1 rfl) ?_
    refine lv_iload_n hx hb dX7_readSeat_39 rfl (lv_at hl 2 rfl) ?_
    refine lv_iload_n hx hb dX7_readSeat_40 rfl (lv_at hl 3 rfl) ?_
    obtain ⟨h2, e_h2, hf⟩ := ob hf
    refine r_callV X S hl.1 (As := [.int x2, .int x3]) (rest := []) (c_X3_seat e_h2) my_X3_seat mv_X3_seat ml_X7_90 rfl (o_X3_seat e_h2) ⟨rfl, rfl, Nat.le_of_ble_eq_true rfl, Nat.le_of_ble_eq_true rfl⟩ rfl rfl (Nat.le_of_ble_eq_true rfl) dX7_readSeat_41 ⟨Nat.le_of_ble_eq_true rfl, Nat.le_of_ble_eq_true rfl⟩ (fun H locs S => ?_)
    refine W.eq (g2 := F0 m 44 ls []) rfl ?_
    exact w_X7_readSeat_b44 X Z  _ hf _ _ _ S (lv_sub hl [] rfl)
def f_X7_readSeat_e  (a0 : Nat) (a1 : Nat) (x2 : Int32) (h : HP) : Option (HP) :=
  (f_X7_readRoom a0 a1 h).bind fun q1 =>
  (gI q1.2 a0 7 2).bind fun v2 =>
  if v2 = 0 then
    (f_X3_sitter a1 q1.1 q1.2).bind fun q3 =>
    if q3.1 = (-1) then
      f_X7_readSeat_b31  a0 a1 x2 q1.1 q3.2
    else
      (gI q3.2 a0 7 4).bind fun v4 =>
      (f_X7_fail a0 4 v4 q3.2).bind fun h5 =>
      f_X7_readSeat_b31  a0 a1 x2 q1.1 h5
  else
    f_X7_readSeat_b31  a0 a1 x2 q1.1 q1.2
set_option maxRecDepth 100000 in
set_option maxHeartbeats 4000000 in
theorem w_X7_readSeat_e (X : CX RX7 cX7_readSeat 4 none p s m args meth c G b) {out : HP} (Z : ZV p l e RM_X7_readSeat s m args below meth c cX7_readSeat G b False 0 0 Q out)  : ∀ (a0 : Nat) (a1 : Nat) (x2 : Int32) (h : HP), f_X7_readSeat_e  a0 a1 x2 h = some out → ∀ (H : Heap) (locs : List Loc) (ls : Array Slot), ST G b False s h H locs → lv_has ls 4 [(0, .ref (b + a0)), (1, .ref (b + a1)), (2, .int x2)] → W p l e RM_X7_readSeat s m args below meth c H locs 0 0 Q (F0 m 0 ls []) := by
  intro a0 a1 x2 h hf H locs ls S hl
  unfold f_X7_readSeat_e at hf
  have hx := X.1
  have hb := X.2.1
  refine lv_aload_n hx hb dX7_readSeat_0 rfl (lv_at hl 0 rfl) ?_
  refine lv_aload_n hx hb dX7_readSeat_1 rfl (lv_at hl 1 rfl) ?_
  obtain ⟨q1, e_q1, hf⟩ := ob hf
  refine r_callV X S hl.1 (As := [.ref (b + a1)]) (rest := []) (c_X7_readRoom e_q1) my_X7_readRoom mv_X7_readRoom ml_X7_82 rfl (o_X7_readRoom e_q1) ⟨rfl, rfl, Nat.le_of_ble_eq_true rfl, Nat.le_of_ble_eq_true rfl⟩ rfl rfl (Nat.le_of_ble_eq_true rfl) dX7_readSeat_2 ⟨Nat.le_of_ble_eq_true rfl, Nat.le_of_ble_eq_true rfl⟩ (fun H locs S => ?_)
  refine W.eq (g2 := F0 m 5 ls [.int q1.1]) rfl ?_
  refine lv_istore_n (lv' := [(3, .int q1.1), (0, .ref (b + a0)), (1, .ref (b + a1)), (2, .int x2)]) hx hb dX7_readSeat_5 rfl hl (by decide) rfl (fun ls hl => ?_)
  refine lv_aload_n hx hb dX7_readSeat_6 rfl (lv_at hl 1 rfl) ?_
  obtain ⟨v2, e_v2, hf⟩ := ob hf
  refine r_getI X S fl_X7_35 e_v2 dX7_readSeat_7 ?_
  refine lv_if_ne (tgt := 31) hx hb dX7_readSeat_10 (by decide) (fun hc => ?_) (fun hc => ?_)
  · replace hf := im hf hc
    exact w_X7_readSeat_b31 X Z  _ _ _ _ _ hf _ _ _ S (lv_sub hl [1, 2, 3, 0] rfl)
  · replace hf := ip hf hc
    refine lv_aload_n hx hb dX7_readSeat_13 rfl (lv_at hl 2 rfl) ?_
    refine lv_iload_n hx hb dX7_readSeat_14 rfl (lv_at hl 0 rfl) ?_
    obtain ⟨q3, e_q3, hf⟩ := ob hf
    refine r_callV X S hl.1 (As := [.int q1.1]) (rest := []) (c_X3_sitter e_q3) my_X3_sitter mv_X3_sitter ml_X7_86 rfl (o_X3_sitter e_q3) ⟨rfl, rfl, Nat.le_of_ble_eq_true rfl, Nat.le_of_ble_eq_true rfl⟩ rfl rfl (Nat.le_of_ble_eq_true rfl) dX7_readSeat_15 ⟨Nat.le_of_ble_eq_true rfl, Nat.le_of_ble_eq_true rfl⟩ (fun H locs S => ?_)
    refine W.eq (g2 := F0 m 18 ls [.int q3.1]) rfl ?_
    refine lv_iconst (v := (-1)) hx hb dX7_readSeat_18 (by decide) ?_
    refine lv_icmp_eq (tgt := 31) hx hb dX7_readSeat_19 (by decide) (fun hc => ?_) (fun hc => ?_)
    · replace hf := ip hf hc
      exact w_X7_readSeat_b31 X Z  _ _ _ _ _ hf _ _ _ S (lv_sub hl [1, 2, 3, 0] rfl)
    · replace hf := im hf hc
      refine lv_aload_n hx hb dX7_readSeat_22 rfl (lv_at hl 1 rfl) ?_
      refine lv_iconst (v := 4) hx hb dX7_readSeat_23 (by decide) ?_
      refine lv_aload_n hx hb dX7_readSeat_24 rfl (lv_at hl 1 rfl) ?_
      obtain ⟨v4, e_v4, hf⟩ := ob hf
      refine r_getI X S fl_X7_60 e_v4 dX7_readSeat_25 ?_
      obtain ⟨h5, e_h5, hf⟩ := ob hf
      refine r_callV X S hl.1 (As := [.int 4, .int v4]) (rest := []) (c_X7_fail e_h5) my_X7_fail mv_X7_fail ml_X7_49 rfl (o_X7_fail e_h5) ⟨rfl, rfl, Nat.le_of_ble_eq_true rfl, Nat.le_of_ble_eq_true rfl⟩ rfl rfl (Nat.le_of_ble_eq_true rfl) dX7_readSeat_28 ⟨Nat.le_of_ble_eq_true rfl, Nat.le_of_ble_eq_true rfl⟩ (fun H locs S => ?_)
      refine W.eq (g2 := F0 m 31 ls []) rfl ?_
      exact w_X7_readSeat_b31 X Z  _ _ _ _ _ hf _ _ _ S (lv_sub hl [1, 2, 3, 0] rfl)
def f_X7_readSeat (a0 : Nat) (a1 : Nat) (x2 : Int32) (h : HP) : Option (HP) := ck h a0 7 (f_X7_readSeat_e a0 a1 x2 h)
theorem o_X7_readSeat {a0 : Nat} {a1 : Nat} {x2 : Int32} {h : HP} {out : HP} (hf : f_X7_readSeat a0 a1 x2 h = some out) : ∃ fs, h[a0]? = some (.inl (7, fs)) := (ck_spec hf).1
set_option maxRecDepth 100000 in
theorem c_X7_readSeat {l : Launch} {G : GT} {b : Nat} {a0 : Nat} {a1 : Nat} {x2 : Int32} {h : HP} {out : HP} (hf : f_X7_readSeat a0 a1 x2 h = some out) : MT l G b False False yX7_readSeat cX7_readSeat 4 none RM_X7_readSeat [.ref (b + a0), .ref (b + a1), .int x2] h none out 0 0 := by
  refine met_of (by decide) (Nat.le_of_ble_eq_true rfl) ?_
  intro p e s m below meth c ls X hnm S hl
  have hl : lv_has ls 4 [(0, .ref (b + a0)), (1, .ref (b + a1)), (2, .int x2)] := hl
  replace hf := (ck_spec hf).2
  exact w_X7_readSeat_e X (z_v X) _ _ _ _ hf _ _ _ S hl
/-! RoomRings$Text.readLiking(LRoomRings$House;I)V -/
abbrev RM_X7_readLiking : Room := { frames := 3, cells := 0, slots := 0, locals := 66 }
def f_X7_readLiking_b45   (h : HP) : Option (HP) :=
  some h
set_option maxRecDepth 100000 in
set_option maxHeartbeats 4000000 in
theorem w_X7_readLiking_b45 (X : CX RX7 cX7_readLiking 4 none p s m args meth c G b) {out : HP} (Z : ZV p l e RM_X7_readLiking s m args below meth c cX7_readLiking G b False 0 0 Q out)  : ∀  (h : HP), f_X7_readLiking_b45   h = some out → ∀ (H : Heap) (locs : List Loc) (ls : Array Slot), ST G b False s h H locs → lv_has ls 4 [] → W p l e RM_X7_readLiking s m args below meth c H locs 0 0 Q (F0 m 45 ls []) := by
  intro  h hf H locs ls S hl
  unfold f_X7_readLiking_b45 at hf
  have hx := X.1
  have hb := X.2.1
  obtain rfl := Option.some.inj hf
  exact Z _ _ _ _ dX7_readLiking_45 S
def f_X7_readLiking_b32  (a0 : Nat) (a1 : Nat) (x2 : Int32) (x3 : Int32) (h : HP) : Option (HP) :=
  (gI h a0 7 2).bind fun v1 =>
  if v1 = 0 then
    (f_X3_addLiking a1 x2 x3 h).bind fun h2 =>
    f_X7_readLiking_b45   h2
  else
    f_X7_readLiking_b45   h
set_option maxRecDepth 100000 in
set_option maxHeartbeats 4000000 in
theorem w_X7_readLiking_b32 (X : CX RX7 cX7_readLiking 4 none p s m args meth c G b) {out : HP} (Z : ZV p l e RM_X7_readLiking s m args below meth c cX7_readLiking G b False 0 0 Q out)  : ∀ (a0 : Nat) (a1 : Nat) (x2 : Int32) (x3 : Int32) (h : HP), f_X7_readLiking_b32  a0 a1 x2 x3 h = some out → ∀ (H : Heap) (locs : List Loc) (ls : Array Slot), ST G b False s h H locs → lv_has ls 4 [(0, .ref (b + a0)), (1, .ref (b + a1)), (2, .int x2), (3, .int x3)] → W p l e RM_X7_readLiking s m args below meth c H locs 0 0 Q (F0 m 32 ls []) := by
  intro a0 a1 x2 x3 h hf H locs ls S hl
  unfold f_X7_readLiking_b32 at hf
  have hx := X.1
  have hb := X.2.1
  refine lv_aload_n hx hb dX7_readLiking_32 rfl (lv_at hl 0 rfl) ?_
  obtain ⟨v1, e_v1, hf⟩ := ob hf
  refine r_getI X S fl_X7_35 e_v1 dX7_readLiking_33 ?_
  refine lv_if_ne (tgt := 45) hx hb dX7_readLiking_36 (by decide) (fun hc => ?_) (fun hc => ?_)
  · replace hf := im hf hc
    exact w_X7_readLiking_b45 X Z  _ hf _ _ _ S (lv_sub hl [] rfl)
  · replace hf := ip hf hc
    refine lv_aload_n hx hb dX7_readLiking_39 rfl (lv_at hl 1 rfl) ?_
    refine lv_iload_n hx hb dX7_readLiking_40 rfl (lv_at hl 2 rfl) ?_
    refine lv_iload_n hx hb dX7_readLiking_41 rfl (lv_at hl 3 rfl) ?_
    obtain ⟨h2, e_h2, hf⟩ := ob hf
    refine r_callV X S hl.1 (As := [.int x2, .int x3]) (rest := []) (c_X3_addLiking e_h2) my_X3_addLiking mv_X3_addLiking ml_X7_97 rfl (o_X3_addLiking e_h2) ⟨rfl, rfl, Nat.le_of_ble_eq_true rfl, Nat.le_of_ble_eq_true rfl⟩ rfl rfl (Nat.le_of_ble_eq_true rfl) dX7_readLiking_42 ⟨Nat.le_of_ble_eq_true rfl, Nat.le_of_ble_eq_true rfl⟩ (fun H locs S => ?_)
    refine W.eq (g2 := F0 m 45 ls []) rfl ?_
    exact w_X7_readLiking_b45 X Z  _ hf _ _ _ S (lv_sub hl [] rfl)
def f_X7_readLiking_e  (a0 : Nat) (a1 : Nat) (x2 : Int32) (h : HP) : Option (HP) :=
  (f_X7_readRoom a0 a1 h).bind fun q1 =>
  (gI q1.2 a0 7 2).bind fun v2 =>
  if v2 = 0 then
    (f_X3_likingPlace a1 x2 q1.1 q1.2).bind fun q3 =>
    if q3.1 = (-1) then
      f_X7_readLiking_b32  a0 a1 x2 q1.1 q3.2
    else
      (gI q3.2 a0 7 4).bind fun v4 =>
      (f_X7_fail a0 4 v4 q3.2).bind fun h5 =>
      f_X7_readLiking_b32  a0 a1 x2 q1.1 h5
  else
    f_X7_readLiking_b32  a0 a1 x2 q1.1 q1.2
set_option maxRecDepth 100000 in
set_option maxHeartbeats 4000000 in
theorem w_X7_readLiking_e (X : CX RX7 cX7_readLiking 4 none p s m args meth c G b) {out : HP} (Z : ZV p l e RM_X7_readLiking s m args below meth c cX7_readLiking G b False 0 0 Q out)  : ∀ (a0 : Nat) (a1 : Nat) (x2 : Int32) (h : HP), f_X7_readLiking_e  a0 a1 x2 h = some out → ∀ (H : Heap) (locs : List Loc) (ls : Array Slot), ST G b False s h H locs → lv_has ls 4 [(0, .ref (b + a0)), (1, .ref (b + a1)), (2, .int x2)] → W p l e RM_X7_readLiking s m args below meth c H locs 0 0 Q (F0 m 0 ls []) := by
  intro a0 a1 x2 h hf H locs ls S hl
  unfold f_X7_readLiking_e at hf
  have hx := X.1
  have hb := X.2.1
  refine lv_aload_n hx hb dX7_readLiking_0 rfl (lv_at hl 0 rfl) ?_
  refine lv_aload_n hx hb dX7_readLiking_1 rfl (lv_at hl 1 rfl) ?_
  obtain ⟨q1, e_q1, hf⟩ := ob hf
  refine r_callV X S hl.1 (As := [.ref (b + a1)]) (rest := []) (c_X7_readRoom e_q1) my_X7_readRoom mv_X7_readRoom ml_X7_82 rfl (o_X7_readRoom e_q1) ⟨rfl, rfl, Nat.le_of_ble_eq_true rfl, Nat.le_of_ble_eq_true rfl⟩ rfl rfl (Nat.le_of_ble_eq_true rfl) dX7_readLiking_2 ⟨Nat.le_of_ble_eq_true rfl, Nat.le_of_ble_eq_true rfl⟩ (fun H locs S => ?_)
  refine W.eq (g2 := F0 m 5 ls [.int q1.1]) rfl ?_
  refine lv_istore_n (lv' := [(3, .int q1.1), (0, .ref (b + a0)), (1, .ref (b + a1)), (2, .int x2)]) hx hb dX7_readLiking_5 rfl hl (by decide) rfl (fun ls hl => ?_)
  refine lv_aload_n hx hb dX7_readLiking_6 rfl (lv_at hl 1 rfl) ?_
  obtain ⟨v2, e_v2, hf⟩ := ob hf
  refine r_getI X S fl_X7_35 e_v2 dX7_readLiking_7 ?_
  refine lv_if_ne (tgt := 32) hx hb dX7_readLiking_10 (by decide) (fun hc => ?_) (fun hc => ?_)
  · replace hf := im hf hc
    exact w_X7_readLiking_b32 X Z  _ _ _ _ _ hf _ _ _ S (lv_sub hl [1, 2, 3, 0] rfl)
  · replace hf := ip hf hc
    refine lv_aload_n hx hb dX7_readLiking_13 rfl (lv_at hl 2 rfl) ?_
    refine lv_iload_n hx hb dX7_readLiking_14 rfl (lv_at hl 3 rfl) ?_
    refine lv_iload_n hx hb dX7_readLiking_15 rfl (lv_at hl 0 rfl) ?_
    obtain ⟨q3, e_q3, hf⟩ := ob hf
    refine r_callV X S hl.1 (As := [.int x2, .int q1.1]) (rest := []) (c_X3_likingPlace e_q3) my_X3_likingPlace mv_X3_likingPlace ml_X7_93 rfl (o_X3_likingPlace e_q3) ⟨rfl, rfl, Nat.le_of_ble_eq_true rfl, Nat.le_of_ble_eq_true rfl⟩ rfl rfl (Nat.le_of_ble_eq_true rfl) dX7_readLiking_16 ⟨Nat.le_of_ble_eq_true rfl, Nat.le_of_ble_eq_true rfl⟩ (fun H locs S => ?_)
    refine W.eq (g2 := F0 m 19 ls [.int q3.1]) rfl ?_
    refine lv_iconst (v := (-1)) hx hb dX7_readLiking_19 (by decide) ?_
    refine lv_icmp_eq (tgt := 32) hx hb dX7_readLiking_20 (by decide) (fun hc => ?_) (fun hc => ?_)
    · replace hf := ip hf hc
      exact w_X7_readLiking_b32 X Z  _ _ _ _ _ hf _ _ _ S (lv_sub hl [1, 2, 3, 0] rfl)
    · replace hf := im hf hc
      refine lv_aload_n hx hb dX7_readLiking_23 rfl (lv_at hl 1 rfl) ?_
      refine lv_iconst (v := 4) hx hb dX7_readLiking_24 (by decide) ?_
      refine lv_aload_n hx hb dX7_readLiking_25 rfl (lv_at hl 1 rfl) ?_
      obtain ⟨v4, e_v4, hf⟩ := ob hf
      refine r_getI X S fl_X7_60 e_v4 dX7_readLiking_26 ?_
      obtain ⟨h5, e_h5, hf⟩ := ob hf
      refine r_callV X S hl.1 (As := [.int 4, .int v4]) (rest := []) (c_X7_fail e_h5) my_X7_fail mv_X7_fail ml_X7_49 rfl (o_X7_fail e_h5) ⟨rfl, rfl, Nat.le_of_ble_eq_true rfl, Nat.le_of_ble_eq_true rfl⟩ rfl rfl (Nat.le_of_ble_eq_true rfl) dX7_readLiking_29 ⟨Nat.le_of_ble_eq_true rfl, Nat.le_of_ble_eq_true rfl⟩ (fun H locs S => ?_)
      refine W.eq (g2 := F0 m 32 ls []) rfl ?_
      exact w_X7_readLiking_b32 X Z  _ _ _ _ _ hf _ _ _ S (lv_sub hl [1, 2, 3, 0] rfl)
def f_X7_readLiking (a0 : Nat) (a1 : Nat) (x2 : Int32) (h : HP) : Option (HP) := ck h a0 7 (f_X7_readLiking_e a0 a1 x2 h)
theorem o_X7_readLiking {a0 : Nat} {a1 : Nat} {x2 : Int32} {h : HP} {out : HP} (hf : f_X7_readLiking a0 a1 x2 h = some out) : ∃ fs, h[a0]? = some (.inl (7, fs)) := (ck_spec hf).1
set_option maxRecDepth 100000 in
theorem c_X7_readLiking {l : Launch} {G : GT} {b : Nat} {a0 : Nat} {a1 : Nat} {x2 : Int32} {h : HP} {out : HP} (hf : f_X7_readLiking a0 a1 x2 h = some out) : MT l G b False False yX7_readLiking cX7_readLiking 4 none RM_X7_readLiking [.ref (b + a0), .ref (b + a1), .int x2] h none out 0 0 := by
  refine met_of (by decide) (Nat.le_of_ble_eq_true rfl) ?_
  intro p e s m below meth c ls X hnm S hl
  have hl : lv_has ls 4 [(0, .ref (b + a0)), (1, .ref (b + a1)), (2, .int x2)] := hl
  replace hf := (ck_spec hf).2
  exact w_X7_readLiking_e X (z_v X) _ _ _ _ hf _ _ _ S hl
/-! RoomRings$Text.readClause(LRoomRings$House;)V -/
abbrev RM_X7_readClause : Room := { frames := 4, cells := 0, slots := 0, locals := 89 }
def f_X7_readClause_b119   (h : HP) : Option (HP) :=
  some h
set_option maxRecDepth 100000 in
set_option maxHeartbeats 4000000 in
theorem w_X7_readClause_b119 (X : CX RX7 cX7_readClause 5 none p s m args meth c G b) {out : HP} (Z : ZV p l e RM_X7_readClause s m args below meth c cX7_readClause G b False 0 0 Q out)  : ∀  (h : HP), f_X7_readClause_b119   h = some out → ∀ (H : Heap) (locs : List Loc) (ls : Array Slot), ST G b False s h H locs → lv_has ls 5 [] → W p l e RM_X7_readClause s m args below meth c H locs 0 0 Q (F0 m 119 ls []) := by
  intro  h hf H locs ls S hl
  unfold f_X7_readClause_b119 at hf
  have hx := X.1
  have hb := X.2.1
  obtain rfl := Option.some.inj hf
  exact Z _ _ _ _ dX7_readClause_119 S
def f_X7_readClause_b106  (a0 : Nat) (h : HP) : Option (HP) :=
  (gI h a0 7 2).bind fun v1 =>
  if v1 = 0 then
    (f_X7_expect a0 59 h).bind fun h2 =>
    f_X7_readClause_b119   h2
  else
    f_X7_readClause_b119   h
set_option maxRecDepth 100000 in
set_option maxHeartbeats 4000000 in
theorem w_X7_readClause_b106 (X : CX RX7 cX7_readClause 5 none p s m args meth c G b) {out : HP} (Z : ZV p l e RM_X7_readClause s m args below meth c cX7_readClause G b False 0 0 Q out)  : ∀ (a0 : Nat) (h : HP), f_X7_readClause_b106  a0 h = some out → ∀ (H : Heap) (locs : List Loc) (ls : Array Slot), ST G b False s h H locs → lv_has ls 5 [(0, .ref (b + a0))] → W p l e RM_X7_readClause s m args below meth c H locs 0 0 Q (F0 m 106 ls []) := by
  intro a0 h hf H locs ls S hl
  unfold f_X7_readClause_b106 at hf
  have hx := X.1
  have hb := X.2.1
  refine lv_aload_n hx hb dX7_readClause_106 rfl (lv_at hl 0 rfl) ?_
  obtain ⟨v1, e_v1, hf⟩ := ob hf
  refine r_getI X S fl_X7_35 e_v1 dX7_readClause_107 ?_
  refine lv_if_ne (tgt := 119) hx hb dX7_readClause_110 (by decide) (fun hc => ?_) (fun hc => ?_)
  · replace hf := im hf hc
    exact w_X7_readClause_b119 X Z  _ hf _ _ _ S (lv_sub hl [] rfl)
  · replace hf := ip hf hc
    refine lv_aload_n hx hb dX7_readClause_113 rfl (lv_at hl 0 rfl) ?_
    refine lv_bipush (v := 59) hx hb dX7_readClause_114 (by decide) ?_
    obtain ⟨h2, e_h2, hf⟩ := ob hf
    refine r_callV X S hl.1 (As := [.int 59]) (rest := []) (c_X7_expect e_h2) my_X7_expect mv_X7_expect ml_X7_53 rfl (o_X7_expect e_h2) ⟨rfl, rfl, Nat.le_of_ble_eq_true rfl, Nat.le_of_ble_eq_true rfl⟩ rfl rfl (Nat.le_of_ble_eq_true rfl) dX7_readClause_116 ⟨Nat.le_of_ble_eq_true rfl, Nat.le_of_ble_eq_true rfl⟩ (fun H locs S => ?_)
    refine W.eq (g2 := F0 m 119 ls []) rfl ?_
    exact w_X7_readClause_b119 X Z  _ hf _ _ _ S (lv_sub hl [] rfl)
def f_X7_readClause_b61 (K61 : Nat → Nat → Int32 → Int32 → HP → Option (HP)) (a0 : Nat) (a1 : Nat) (x3 : Int32) (x4 : Int32) (h : HP) : Option (HP) :=
  if 8 < x4 then
    f_X7_readClause_b106  a0 h
  else
    (gI h a0 7 2).bind fun v1 =>
    if v1 = 0 then
      (f_X7_peek a0 h).bind fun q2 =>
      if q2.1 = 44 then
        (gI q2.2 a0 7 3).bind fun v3 =>
        (pI q2.2 a0 7 3 (v3 + 1)).bind fun h4 =>
        (f_X7_readLiking a0 a1 x3 h4).bind fun h5 =>
        K61 a0 a1 x3 (x4 + 1) h5
      else
        f_X7_readClause_b106  a0 q2.2
    else
      f_X7_readClause_b106  a0 h
set_option maxRecDepth 100000 in
set_option maxHeartbeats 4000000 in
theorem w_X7_readClause_b61 (X : CX RX7 cX7_readClause 5 none p s m args meth c G b) {out : HP} (Z : ZV p l e RM_X7_readClause s m args below meth c cX7_readClause G b False 0 0 Q out) {K61 : Nat → Nat → Int32 → Int32 → HP → Option (HP)} (hK61 : ∀ (a0 : Nat) (a1 : Nat) (x3 : Int32) (x4 : Int32) (h : HP), K61 a0 a1 x3 x4 h = some out → ∀ (H : Heap) (locs : List Loc) (ls : Array Slot), ST G b False s h H locs → lv_has ls 5 [(0, .ref (b + a0)), (1, .ref (b + a1)), (3, .int x3), (4, .int x4)] → W p l e RM_X7_readClause s m args below meth c H locs 0 0 Q (F0 m 61 ls [])) : ∀ (a0 : Nat) (a1 : Nat) (x3 : Int32) (x4 : Int32) (h : HP), f_X7_readClause_b61 K61 a0 a1 x3 x4 h = some out → ∀ (H : Heap) (locs : List Loc) (ls : Array Slot), ST G b False s h H locs → lv_has ls 5 [(0, .ref (b + a0)), (1, .ref (b + a1)), (3, .int x3), (4, .int x4)] → W p l e RM_X7_readClause s m args below meth c H locs 0 0 Q (F0 m 61 ls []) := by
  intro a0 a1 x3 x4 h hf H locs ls S hl
  unfold f_X7_readClause_b61 at hf
  have hx := X.1
  have hb := X.2.1
  refine lv_iload hx hb dX7_readClause_61 (lv_at hl 3 rfl) ?_
  refine lv_bipush (v := 8) hx hb dX7_readClause_63 (by decide) ?_
  refine lv_icmp_gt (tgt := 106) hx hb dX7_readClause_65 (by decide) (fun hc => ?_) (fun hc => ?_)
  · replace hf := ip hf hc
    exact w_X7_readClause_b106 X Z  _ _ hf _ _ _ S (lv_sub hl [0] rfl)
  · replace hf := im hf hc
    refine lv_aload_n hx hb dX7_readClause_68 rfl (lv_at hl 0 rfl) ?_
    obtain ⟨v1, e_v1, hf⟩ := ob hf
    refine r_getI X S fl_X7_35 e_v1 dX7_readClause_69 ?_
    refine lv_if_ne (tgt := 106) hx hb dX7_readClause_72 (by decide) (fun hc => ?_) (fun hc => ?_)
    · replace hf := im hf hc
      exact w_X7_readClause_b106 X Z  _ _ hf _ _ _ S (lv_sub hl [0] rfl)
    · replace hf := ip hf hc
      refine lv_aload_n hx hb dX7_readClause_75 rfl (lv_at hl 0 rfl) ?_
      obtain ⟨q2, e_q2, hf⟩ := ob hf
      refine r_callV X S hl.1 (As := []) (rest := []) (c_X7_peek e_q2) my_X7_peek mv_X7_peek ml_X7_38 rfl (o_X7_peek e_q2) ⟨rfl, rfl, Nat.le_of_ble_eq_true rfl, Nat.le_of_ble_eq_true rfl⟩ rfl rfl (Nat.le_of_ble_eq_true rfl) dX7_readClause_76 ⟨Nat.le_of_ble_eq_true rfl, Nat.le_of_ble_eq_true rfl⟩ (fun H locs S => ?_)
      refine W.eq (g2 := F0 m 79 ls [.int q2.1]) rfl ?_
      refine lv_bipush (v := 44) hx hb dX7_readClause_79 (by decide) ?_
      refine lv_icmp_ne (tgt := 106) hx hb dX7_readClause_81 (by decide) (fun hc => ?_) (fun hc => ?_)
      · replace hf := im hf hc
        exact w_X7_readClause_b106 X Z  _ _ hf _ _ _ S (lv_sub hl [0] rfl)
      · replace hf := ip hf hc
        refine lv_aload_n hx hb dX7_readClause_84 rfl (lv_at hl 0 rfl) ?_
        refine lv_dup hx hb dX7_readClause_85 rfl ?_
        obtain ⟨v3, e_v3, hf⟩ := ob hf
        refine r_getI X S fl_X7_32 e_v3 dX7_readClause_86 ?_
        refine lv_iconst (v := 1) hx hb dX7_readClause_89 (by decide) ?_
        refine lv_iadd hx hb dX7_readClause_90 ?_
        obtain ⟨h4, e_h4, hf⟩ := ob hf
        refine r_put X S fp_X7_32 (fun h9 => by cases h9) rfl rfl rfl e_h4 dX7_readClause_91 (fun H locs S => ?_)
        refine lv_aload_n hx hb dX7_readClause_94 rfl (lv_at hl 0 rfl) ?_
        refine lv_aload_n hx hb dX7_readClause_95 rfl (lv_at hl 1 rfl) ?_
        refine lv_iload_n hx hb dX7_readClause_96 rfl (lv_at hl 2 rfl) ?_
        obtain ⟨h5, e_h5, hf⟩ := ob hf
        refine r_callV X S hl.1 (As := [.ref (b + a1), .int x3]) (rest := []) (c_X7_readLiking e_h5) my_X7_readLiking mv_X7_readLiking ml_X7_79 rfl (o_X7_readLiking e_h5) ⟨rfl, rfl, Nat.le_of_ble_eq_true rfl, Nat.le_of_ble_eq_true rfl⟩ rfl rfl (Nat.le_of_ble_eq_true rfl) dX7_readClause_97 ⟨Nat.le_of_ble_eq_true rfl, Nat.le_of_ble_eq_true rfl⟩ (fun H locs S => ?_)
        refine W.eq (g2 := F0 m 100 ls []) rfl ?_
        refine lv_iinc (v := x4 + 1) (lv' := [(4, .int (x4 + 1)), (0, .ref (b + a0)), (1, .ref (b + a1)), (3, .int x3)]) hx hb dX7_readClause_100 hl (k := 3) rfl rfl (by decide) rfl (fun ls hl => ?_)
        refine lv_goto (tgt := 61) hx hb dX7_readClause_103 (by decide) ?_
        exact hK61 _ _ _ _ _ hf _ _ _ S (lv_sub hl [1, 2, 3, 0] rfl)
def F_X7_readClause_61  : Nat → Nat → Nat → Int32 → Int32 → HP → Option (HP)
  | 0 => fun _ _ _ _ _ => none
  | n + 1 => fun a0 a1 x3 x4 h => f_X7_readClause_b61 (F_X7_readClause_61  n) a0 a1 x3 x4 h
theorem wl_X7_readClause_61 (X : CX RX7 cX7_readClause 5 none p s m args meth c G b) {out : HP} (Z : ZV p l e RM_X7_readClause s m args below meth c cX7_readClause G b False 0 0 Q out)  : ∀ (n : Nat) (a0 : Nat) (a1 : Nat) (x3 : Int32) (x4 : Int32) (h : HP), F_X7_readClause_61  n a0 a1 x3 x4 h = some out → ∀ (H : Heap) (locs : List Loc) (ls : Array Slot), ST G b False s h H locs → lv_has ls 5 [(0, .ref (b + a0)), (1, .ref (b + a1)), (3, .int x3), (4, .int x4)] → W p l e RM_X7_readClause s m args below meth c H locs 0 0 Q (F0 m 61 ls []) := by
  intro n
  induction n with
  | zero => intro a0 a1 x3 x4 h hf; exact nn hf
  | succ n ih => exact w_X7_readClause_b61 X Z ih
def f_X7_readClause_b58  (a0 : Nat) (a1 : Nat) (x3 : Int32) (h : HP) : Option (HP) :=
  F_X7_readClause_61  FU a0 a1 x3 0 h
set_option maxRecDepth 100000 in
set_option maxHeartbeats 4000000 in
theorem w_X7_readClause_b58 (X : CX RX7 cX7_readClause 5 none p s m args meth c G b) {out : HP} (Z : ZV p l e RM_X7_readClause s m args below meth c cX7_readClause G b False 0 0 Q out)  : ∀ (a0 : Nat) (a1 : Nat) (x3 : Int32) (h : HP), f_X7_readClause_b58  a0 a1 x3 h = some out → ∀ (H : Heap) (locs : List Loc) (ls : Array Slot), ST G b False s h H locs → lv_has ls 5 [(0, .ref (b + a0)), (1, .ref (b + a1)), (3, .int x3)] → W p l e RM_X7_readClause s m args below meth c H locs 0 0 Q (F0 m 58 ls []) := by
  intro a0 a1 x3 h hf H locs ls S hl
  unfold f_X7_readClause_b58 at hf
  have hx := X.1
  have hb := X.2.1
  refine lv_iconst (v := 0) hx hb dX7_readClause_58 (by decide) ?_
  refine lv_istore (lv' := [(4, .int 0), (0, .ref (b + a0)), (1, .ref (b + a1)), (3, .int x3)]) hx hb dX7_readClause_59 hl (by decide) rfl (fun ls hl => ?_)
  exact wl_X7_readClause_61 X Z  FU _ _ _ _ _ hf _ _ _ S (lv_sub hl [1, 2, 3, 0] rfl)
def f_X7_readClause_e  (a0 : Nat) (a1 : Nat) (h : HP) : Option (HP) :=
  (f_X7_peek a0 h).bind fun q1 =>
  (gI q1.2 a1 3 1).bind fun v2 =>
  (f_X7_checkWord a0 q1.1 v2 q1.2).bind fun h3 =>
  (gI h3 a0 7 2).bind fun v4 =>
  if v4 = 0 then
    (gI h3 a0 7 3).bind fun v5 =>
    (pI h3 a0 7 3 (v5 + 1)).bind fun h6 =>
    (f_X3_addPerson a1 h6).bind fun q7 =>
    if q1.1 = 116 then
      (f_X7_readSeat a0 a1 q7.1 q7.2).bind fun h8 =>
      f_X7_readClause_b58  a0 a1 q7.1 h8
    else
      (f_X7_readLiking a0 a1 q7.1 q7.2).bind fun h9 =>
      f_X7_readClause_b58  a0 a1 q7.1 h9
  else
    some h3
set_option maxRecDepth 100000 in
set_option maxHeartbeats 4000000 in
theorem w_X7_readClause_e (X : CX RX7 cX7_readClause 5 none p s m args meth c G b) {out : HP} (Z : ZV p l e RM_X7_readClause s m args below meth c cX7_readClause G b False 0 0 Q out)  : ∀ (a0 : Nat) (a1 : Nat) (h : HP), f_X7_readClause_e  a0 a1 h = some out → ∀ (H : Heap) (locs : List Loc) (ls : Array Slot), ST G b False s h H locs → lv_has ls 5 [(0, .ref (b + a0)), (1, .ref (b + a1))] → W p l e RM_X7_readClause s m args below meth c H locs 0 0 Q (F0 m 0 ls []) := by
  intro a0 a1 h hf H locs ls S hl
  unfold f_X7_readClause_e at hf
  have hx := X.1
  have hb := X.2.1
  refine lv_aload_n hx hb dX7_readClause_0 rfl (lv_at hl 0 rfl) ?_
  obtain ⟨q1, e_q1, hf⟩ := ob hf
  refine r_callV X S hl.1 (As := []) (rest := []) (c_X7_peek e_q1) my_X7_peek mv_X7_peek ml_X7_38 rfl (o_X7_peek e_q1) ⟨rfl, rfl, Nat.le_of_ble_eq_true rfl, Nat.le_of_ble_eq_true rfl⟩ rfl rfl (Nat.le_of_ble_eq_true rfl) dX7_readClause_1 ⟨Nat.le_of_ble_eq_true rfl, Nat.le_of_ble_eq_true rfl⟩ (fun H locs S => ?_)
  refine W.eq (g2 := F0 m 4 ls [.int q1.1]) rfl ?_
  refine lv_istore_n (lv' := [(2, .int q1.1), (0, .ref (b + a0)), (1, .ref (b + a1))]) hx hb dX7_readClause_4 rfl hl (by decide) rfl (fun ls hl => ?_)
  refine lv_aload_n hx hb dX7_readClause_5 rfl (lv_at hl 1 rfl) ?_
  refine lv_iload_n hx hb dX7_readClause_6 rfl (lv_at hl 0 rfl) ?_
  refine lv_aload_n hx hb dX7_readClause_7 rfl (lv_at hl 2 rfl) ?_
  obtain ⟨v2, e_v2, hf⟩ := ob hf
  refine r_getI X S fl_X7_66 e_v2 dX7_readClause_8 ?_
  obtain ⟨h3, e_h3, hf⟩ := ob hf
  refine r_callV X S hl.1 (As := [.int q1.1, .int v2]) (rest := []) (c_X7_checkWord e_h3) my_X7_checkWord mv_X7_checkWord ml_X7_69 rfl (o_X7_checkWord e_h3) ⟨rfl, rfl, Nat.le_of_ble_eq_true rfl, Nat.le_of_ble_eq_true rfl⟩ rfl rfl (Nat.le_of_ble_eq_true rfl) dX7_readClause_11 ⟨Nat.le_of_ble_eq_true rfl, Nat.le_of_ble_eq_true rfl⟩ (fun H locs S => ?_)
  refine W.eq (g2 := F0 m 14 ls []) rfl ?_
  refine lv_aload_n hx hb dX7_readClause_14 rfl (lv_at hl 1 rfl) ?_
  obtain ⟨v4, e_v4, hf⟩ := ob hf
  refine r_getI X S fl_X7_35 e_v4 dX7_readClause_15 ?_
  refine lv_if_eq (tgt := 22) hx hb dX7_readClause_18 (by decide) (fun hc => ?_) (fun hc => ?_)
  · replace hf := ip hf hc
    refine lv_aload_n hx hb dX7_readClause_22 rfl (lv_at hl 1 rfl) ?_
    refine lv_dup hx hb dX7_readClause_23 rfl ?_
    obtain ⟨v5, e_v5, hf⟩ := ob hf
    refine r_getI X S fl_X7_32 e_v5 dX7_readClause_24 ?_
    refine lv_iconst (v := 1) hx hb dX7_readClause_27 (by decide) ?_
    refine lv_iadd hx hb dX7_readClause_28 ?_
    obtain ⟨h6, e_h6, hf⟩ := ob hf
    refine r_put X S fp_X7_32 (fun h9 => by cases h9) rfl rfl rfl e_h6 dX7_readClause_29 (fun H locs S => ?_)
    refine lv_aload_n hx hb dX7_readClause_32 rfl (lv_at hl 2 rfl) ?_
    obtain ⟨q7, e_q7, hf⟩ := ob hf
    refine r_callV X S hl.1 (As := []) (rest := []) (c_X3_addPerson e_q7) my_X3_addPerson mv_X3_addPerson ml_X7_72 rfl (o_X3_addPerson e_q7) ⟨rfl, rfl, Nat.le_of_ble_eq_true rfl, Nat.le_of_ble_eq_true rfl⟩ rfl rfl (Nat.le_of_ble_eq_true rfl) dX7_readClause_33 ⟨Nat.le_of_ble_eq_true rfl, Nat.le_of_ble_eq_true rfl⟩ (fun H locs S => ?_)
    refine W.eq (g2 := F0 m 36 ls [.int q7.1]) rfl ?_
    refine lv_istore_n (lv' := [(3, .int q7.1), (2, .int q1.1), (0, .ref (b + a0)), (1, .ref (b + a1))]) hx hb dX7_readClause_36 rfl hl (by decide) rfl (fun ls hl => ?_)
    refine lv_iload_n hx hb dX7_readClause_37 rfl (lv_at hl 1 rfl) ?_
    refine lv_bipush (v := 116) hx hb dX7_readClause_38 (by decide) ?_
    refine lv_icmp_ne (tgt := 52) hx hb dX7_readClause_40 (by decide) (fun hc => ?_) (fun hc => ?_)
    · replace hf := im hf hc
      refine lv_aload_n hx hb dX7_readClause_52 rfl (lv_at hl 2 rfl) ?_
      refine lv_aload_n hx hb dX7_readClause_53 rfl (lv_at hl 3 rfl) ?_
      refine lv_iload_n hx hb dX7_readClause_54 rfl (lv_at hl 0 rfl) ?_
      obtain ⟨h9, e_h9, hf⟩ := ob hf
      refine r_callV X S hl.1 (As := [.ref (b + a1), .int q7.1]) (rest := []) (c_X7_readLiking e_h9) my_X7_readLiking mv_X7_readLiking ml_X7_79 rfl (o_X7_readLiking e_h9) ⟨rfl, rfl, Nat.le_of_ble_eq_true rfl, Nat.le_of_ble_eq_true rfl⟩ rfl rfl (Nat.le_of_ble_eq_true rfl) dX7_readClause_55 ⟨Nat.le_of_ble_eq_true rfl, Nat.le_of_ble_eq_true rfl⟩ (fun H locs S => ?_)
      refine W.eq (g2 := F0 m 58 ls []) rfl ?_
      exact w_X7_readClause_b58 X Z  _ _ _ _ hf _ _ _ S (lv_sub hl [2, 3, 0] rfl)
    · replace hf := ip hf hc
      refine lv_aload_n hx hb dX7_readClause_43 rfl (lv_at hl 2 rfl) ?_
      refine lv_aload_n hx hb dX7_readClause_44 rfl (lv_at hl 3 rfl) ?_
      refine lv_iload_n hx hb dX7_readClause_45 rfl (lv_at hl 0 rfl) ?_
      obtain ⟨h8, e_h8, hf⟩ := ob hf
      refine r_callV X S hl.1 (As := [.ref (b + a1), .int q7.1]) (rest := []) (c_X7_readSeat e_h8) my_X7_readSeat mv_X7_readSeat ml_X7_75 rfl (o_X7_readSeat e_h8) ⟨rfl, rfl, Nat.le_of_ble_eq_true rfl, Nat.le_of_ble_eq_true rfl⟩ rfl rfl (Nat.le_of_ble_eq_true rfl) dX7_readClause_46 ⟨Nat.le_of_ble_eq_true rfl, Nat.le_of_ble_eq_true rfl⟩ (fun H locs S => ?_)
      refine W.eq (g2 := F0 m 49 ls []) rfl ?_
      refine lv_goto (tgt := 58) hx hb dX7_readClause_49 (by decide) ?_
      exact w_X7_readClause_b58 X Z  _ _ _ _ hf _ _ _ S (lv_sub hl [2, 3, 0] rfl)
  · replace hf := im hf hc
    obtain rfl := Option.some.inj hf
    exact Z _ _ _ _ dX7_readClause_21 S
def f_X7_readClause (a0 : Nat) (a1 : Nat) (h : HP) : Option (HP) := ck h a0 7 (f_X7_readClause_e a0 a1 h)
theorem o_X7_readClause {a0 : Nat} {a1 : Nat} {h : HP} {out : HP} (hf : f_X7_readClause a0 a1 h = some out) : ∃ fs, h[a0]? = some (.inl (7, fs)) := (ck_spec hf).1
set_option maxRecDepth 100000 in
theorem c_X7_readClause {l : Launch} {G : GT} {b : Nat} {a0 : Nat} {a1 : Nat} {h : HP} {out : HP} (hf : f_X7_readClause a0 a1 h = some out) : MT l G b False False yX7_readClause cX7_readClause 5 none RM_X7_readClause [.ref (b + a0), .ref (b + a1)] h none out 0 0 := by
  refine met_of (by decide) (Nat.le_of_ble_eq_true rfl) ?_
  intro p e s m below meth c ls X hnm S hl
  have hl : lv_has ls 5 [(0, .ref (b + a0)), (1, .ref (b + a1))] := hl
  replace hf := (ck_spec hf).2
  exact w_X7_readClause_e X (z_v X) _ _ _ hf _ _ _ S hl
/-! RoomRings$Text.readInto(LRoomRings$House;)I -/
abbrev RM_X7_readInto : Room := { frames := 5, cells := 0, slots := 0, locals := 113 }
def f_X7_readInto_b67  (a0 : Nat) (h : HP) : Option (Int32 × HP) :=
  (pI h a0 7 0 0).bind fun h1 =>
  (gI h1 a0 7 2).bind fun v2 =>
  some (v2, h1)
set_option maxRecDepth 100000 in
set_option maxHeartbeats 4000000 in
theorem w_X7_readInto_b67 (X : CX RX7 cX7_readInto 3 (some .int) p s m args meth c G b) {out : Int32 × HP} (Z : ZI p l e RM_X7_readInto s m args below meth c cX7_readInto G b False 0 0 Q out)  : ∀ (a0 : Nat) (h : HP), f_X7_readInto_b67  a0 h = some out → ∀ (H : Heap) (locs : List Loc) (ls : Array Slot), ST G b False s h H locs → lv_has ls 3 [(0, .ref (b + a0))] → W p l e RM_X7_readInto s m args below meth c H locs 0 0 Q (F0 m 67 ls []) := by
  intro a0 h hf H locs ls S hl
  unfold f_X7_readInto_b67 at hf
  have hx := X.1
  have hb := X.2.1
  refine lv_aload_n hx hb dX7_readInto_67 rfl (lv_at hl 0 rfl) ?_
  refine lv_iconst (v := 0) hx hb dX7_readInto_68 (by decide) ?_
  obtain ⟨h1, e_h1, hf⟩ := ob hf
  refine r_put X S fp_X7_19 (fun h9 => by cases h9) rfl rfl rfl e_h1 dX7_readInto_69 (fun H locs S => ?_)
  refine lv_aload_n hx hb dX7_readInto_72 rfl (lv_at hl 0 rfl) ?_
  obtain ⟨v2, e_v2, hf⟩ := ob hf
  refine r_getI X S fl_X7_35 e_v2 dX7_readInto_73 ?_
  obtain rfl := Option.some.inj hf
  exact Z _ _ _ _ dX7_readInto_76 S
def f_X7_readInto_b34 (K34 : Nat → Nat → Int32 → HP → Option (Int32 × HP)) (a0 : Nat) (a1 : Nat) (x2 : Int32) (h : HP) : Option (Int32 × HP) :=
  if 240 ≤ x2 then
    f_X7_readInto_b67  a0 h
  else
    (gI h a0 7 2).bind fun v1 =>
    if v1 = 0 then
      (f_X7_peek a0 h).bind fun q2 =>
      if q2.1 = (-1) then
        f_X7_readInto_b67  a0 q2.2
      else
        (f_X7_readClause a0 a1 q2.2).bind fun h3 =>
        K34 a0 a1 (x2 + 1) h3
    else
      f_X7_readInto_b67  a0 h
set_option maxRecDepth 100000 in
set_option maxHeartbeats 4000000 in
theorem w_X7_readInto_b34 (X : CX RX7 cX7_readInto 3 (some .int) p s m args meth c G b) {out : Int32 × HP} (Z : ZI p l e RM_X7_readInto s m args below meth c cX7_readInto G b False 0 0 Q out) {K34 : Nat → Nat → Int32 → HP → Option (Int32 × HP)} (hK34 : ∀ (a0 : Nat) (a1 : Nat) (x2 : Int32) (h : HP), K34 a0 a1 x2 h = some out → ∀ (H : Heap) (locs : List Loc) (ls : Array Slot), ST G b False s h H locs → lv_has ls 3 [(0, .ref (b + a0)), (1, .ref (b + a1)), (2, .int x2)] → W p l e RM_X7_readInto s m args below meth c H locs 0 0 Q (F0 m 34 ls [])) : ∀ (a0 : Nat) (a1 : Nat) (x2 : Int32) (h : HP), f_X7_readInto_b34 K34 a0 a1 x2 h = some out → ∀ (H : Heap) (locs : List Loc) (ls : Array Slot), ST G b False s h H locs → lv_has ls 3 [(0, .ref (b + a0)), (1, .ref (b + a1)), (2, .int x2)] → W p l e RM_X7_readInto s m args below meth c H locs 0 0 Q (F0 m 34 ls []) := by
  intro a0 a1 x2 h hf H locs ls S hl
  unfold f_X7_readInto_b34 at hf
  have hx := X.1
  have hb := X.2.1
  refine lv_iload_n hx hb dX7_readInto_34 rfl (lv_at hl 2 rfl) ?_
  refine lv_sipush (v := 240) hx hb dX7_readInto_35 (by decide) ?_
  refine lv_icmp_ge (tgt := 67) hx hb dX7_readInto_38 (by decide) (fun hc => ?_) (fun hc => ?_)
  · replace hf := ip hf hc
    exact w_X7_readInto_b67 X Z  _ _ hf _ _ _ S (lv_sub hl [0] rfl)
  · replace hf := im hf hc
    refine lv_aload_n hx hb dX7_readInto_41 rfl (lv_at hl 0 rfl) ?_
    obtain ⟨v1, e_v1, hf⟩ := ob hf
    refine r_getI X S fl_X7_35 e_v1 dX7_readInto_42 ?_
    refine lv_if_ne (tgt := 67) hx hb dX7_readInto_45 (by decide) (fun hc => ?_) (fun hc => ?_)
    · replace hf := im hf hc
      exact w_X7_readInto_b67 X Z  _ _ hf _ _ _ S (lv_sub hl [0] rfl)
    · replace hf := ip hf hc
      refine lv_aload_n hx hb dX7_readInto_48 rfl (lv_at hl 0 rfl) ?_
      obtain ⟨q2, e_q2, hf⟩ := ob hf
      refine r_callV X S hl.1 (As := []) (rest := []) (c_X7_peek e_q2) my_X7_peek mv_X7_peek ml_X7_38 rfl (o_X7_peek e_q2) ⟨rfl, rfl, Nat.le_of_ble_eq_true rfl, Nat.le_of_ble_eq_true rfl⟩ rfl rfl (Nat.le_of_ble_eq_true rfl) dX7_readInto_49 ⟨Nat.le_of_ble_eq_true rfl, Nat.le_of_ble_eq_true rfl⟩ (fun H locs S => ?_)
      refine W.eq (g2 := F0 m 52 ls [.int q2.1]) rfl ?_
      refine lv_iconst (v := (-1)) hx hb dX7_readInto_52 (by decide) ?_
      refine lv_icmp_eq (tgt := 67) hx hb dX7_readInto_53 (by decide) (fun hc => ?_) (fun hc => ?_)
      · replace hf := ip hf hc
        exact w_X7_readInto_b67 X Z  _ _ hf _ _ _ S (lv_sub hl [0] rfl)
      · replace hf := im hf hc
        refine lv_aload_n hx hb dX7_readInto_56 rfl (lv_at hl 0 rfl) ?_
        refine lv_aload_n hx hb dX7_readInto_57 rfl (lv_at hl 1 rfl) ?_
        obtain ⟨h3, e_h3, hf⟩ := ob hf
        refine r_callV X S hl.1 (As := [.ref (b + a1)]) (rest := []) (c_X7_readClause e_h3) my_X7_readClause mv_X7_readClause ml_X7_46 rfl (o_X7_readClause e_h3) ⟨rfl, rfl, Nat.le_of_ble_eq_true rfl, Nat.le_of_ble_eq_true rfl⟩ rfl rfl (Nat.le_of_ble_eq_true rfl) dX7_readInto_58 ⟨Nat.le_of_ble_eq_true rfl, Nat.le_of_ble_eq_true rfl⟩ (fun H locs S => ?_)
        refine W.eq (g2 := F0 m 61 ls []) rfl ?_
        refine lv_iinc (v := x2 + 1) (lv' := [(2, .int (x2 + 1)), (0, .ref (b + a0)), (1, .ref (b + a1))]) hx hb dX7_readInto_61 hl (k := 2) rfl rfl (by decide) rfl (fun ls hl => ?_)
        refine lv_goto (tgt := 34) hx hb dX7_readInto_64 (by decide) ?_
        exact hK34 _ _ _ _ hf _ _ _ S (lv_sub hl [1, 2, 0] rfl)
def F_X7_readInto_34  : Nat → Nat → Nat → Int32 → HP → Option (Int32 × HP)
  | 0 => fun _ _ _ _ => none
  | n + 1 => fun a0 a1 x2 h => f_X7_readInto_b34 (F_X7_readInto_34  n) a0 a1 x2 h
theorem wl_X7_readInto_34 (X : CX RX7 cX7_readInto 3 (some .int) p s m args meth c G b) {out : Int32 × HP} (Z : ZI p l e RM_X7_readInto s m args below meth c cX7_readInto G b False 0 0 Q out)  : ∀ (n : Nat) (a0 : Nat) (a1 : Nat) (x2 : Int32) (h : HP), F_X7_readInto_34  n a0 a1 x2 h = some out → ∀ (H : Heap) (locs : List Loc) (ls : Array Slot), ST G b False s h H locs → lv_has ls 3 [(0, .ref (b + a0)), (1, .ref (b + a1)), (2, .int x2)] → W p l e RM_X7_readInto s m args below meth c H locs 0 0 Q (F0 m 34 ls []) := by
  intro n
  induction n with
  | zero => intro a0 a1 x2 h hf; exact nn hf
  | succ n ih => exact w_X7_readInto_b34 X Z ih
def f_X7_readInto_e  (a0 : Nat) (a1 : Nat) (h : HP) : Option (Int32 × HP) :=
  (f_X3_clear a1 h).bind fun h1 =>
  (pI h1 a0 7 3 0).bind fun h2 =>
  (pI h2 a0 7 2 0).bind fun h3 =>
  (pI h3 a0 7 1 (-1)).bind fun h4 =>
  (f_X7_peek a0 h4).bind fun q5 =>
  if q5.1 = (-1) then
    f_X7_readInto_b67  a0 q5.2
  else
    (f_X7_readRooms a0 a1 q5.2).bind fun h6 =>
    F_X7_readInto_34  FU a0 a1 0 h6
set_option maxRecDepth 100000 in
set_option maxHeartbeats 4000000 in
theorem w_X7_readInto_e (X : CX RX7 cX7_readInto 3 (some .int) p s m args meth c G b) {out : Int32 × HP} (Z : ZI p l e RM_X7_readInto s m args below meth c cX7_readInto G b False 0 0 Q out)  : ∀ (a0 : Nat) (a1 : Nat) (h : HP), f_X7_readInto_e  a0 a1 h = some out → ∀ (H : Heap) (locs : List Loc) (ls : Array Slot), ST G b False s h H locs → lv_has ls 3 [(0, .ref (b + a0)), (1, .ref (b + a1))] → W p l e RM_X7_readInto s m args below meth c H locs 0 0 Q (F0 m 0 ls []) := by
  intro a0 a1 h hf H locs ls S hl
  unfold f_X7_readInto_e at hf
  have hx := X.1
  have hb := X.2.1
  refine lv_aload_n hx hb dX7_readInto_0 rfl (lv_at hl 1 rfl) ?_
  obtain ⟨h1, e_h1, hf⟩ := ob hf
  refine r_callV X S hl.1 (As := []) (rest := []) (c_X3_clear e_h1) my_X3_clear mv_X3_clear ml_X7_27 rfl (o_X3_clear e_h1) ⟨rfl, rfl, Nat.le_of_ble_eq_true rfl, Nat.le_of_ble_eq_true rfl⟩ rfl rfl (Nat.le_of_ble_eq_true rfl) dX7_readInto_1 ⟨Nat.le_of_ble_eq_true rfl, Nat.le_of_ble_eq_true rfl⟩ (fun H locs S => ?_)
  refine W.eq (g2 := F0 m 4 ls []) rfl ?_
  refine lv_aload_n hx hb dX7_readInto_4 rfl (lv_at hl 0 rfl) ?_
  refine lv_iconst (v := 0) hx hb dX7_readInto_5 (by decide) ?_
  obtain ⟨h2, e_h2, hf⟩ := ob hf
  refine r_put X S fp_X7_32 (fun h9 => by cases h9) rfl rfl rfl e_h2 dX7_readInto_6 (fun H locs S => ?_)
  refine lv_aload_n hx hb dX7_readInto_9 rfl (lv_at hl 0 rfl) ?_
  refine lv_iconst (v := 0) hx hb dX7_readInto_10 (by decide) ?_
  obtain ⟨h3, e_h3, hf⟩ := ob hf
  refine r_put X S fp_X7_35 (fun h9 => by cases h9) rfl rfl rfl e_h3 dX7_readInto_11 (fun H locs S => ?_)
  refine lv_aload_n hx hb dX7_readInto_14 rfl (lv_at hl 0 rfl) ?_
  refine lv_iconst (v := (-1)) hx hb dX7_readInto_15 (by decide) ?_
  obtain ⟨h4, e_h4, hf⟩ := ob hf
  refine r_put X S fp_X7_9 (fun h9 => by cases h9) rfl rfl rfl e_h4 dX7_readInto_16 (fun H locs S => ?_)
  refine lv_aload_n hx hb dX7_readInto_19 rfl (lv_at hl 0 rfl) ?_
  obtain ⟨q5, e_q5, hf⟩ := ob hf
  refine r_callV X S hl.1 (As := []) (rest := []) (c_X7_peek e_q5) my_X7_peek mv_X7_peek ml_X7_38 rfl (o_X7_peek e_q5) ⟨rfl, rfl, Nat.le_of_ble_eq_true rfl, Nat.le_of_ble_eq_true rfl⟩ rfl rfl (Nat.le_of_ble_eq_true rfl) dX7_readInto_20 ⟨Nat.le_of_ble_eq_true rfl, Nat.le_of_ble_eq_true rfl⟩ (fun H locs S => ?_)
  refine W.eq (g2 := F0 m 23 ls [.int q5.1]) rfl ?_
  refine lv_iconst (v := (-1)) hx hb dX7_readInto_23 (by decide) ?_
  refine lv_icmp_eq (tgt := 67) hx hb dX7_readInto_24 (by decide) (fun hc => ?_) (fun hc => ?_)
  · replace hf := ip hf hc
    exact w_X7_readInto_b67 X Z  _ _ hf _ _ _ S (lv_sub hl [0] rfl)
  · replace hf := im hf hc
    refine lv_aload_n hx hb dX7_readInto_27 rfl (lv_at hl 0 rfl) ?_
    refine lv_aload_n hx hb dX7_readInto_28 rfl (lv_at hl 1 rfl) ?_
    obtain ⟨h6, e_h6, hf⟩ := ob hf
    refine r_callV X S hl.1 (As := [.ref (b + a1)]) (rest := []) (c_X7_readRooms e_h6) my_X7_readRooms mv_X7_readRooms ml_X7_42 rfl (o_X7_readRooms e_h6) ⟨rfl, rfl, Nat.le_of_ble_eq_true rfl, Nat.le_of_ble_eq_true rfl⟩ rfl rfl (Nat.le_of_ble_eq_true rfl) dX7_readInto_29 ⟨Nat.le_of_ble_eq_true rfl, Nat.le_of_ble_eq_true rfl⟩ (fun H locs S => ?_)
    refine W.eq (g2 := F0 m 32 ls []) rfl ?_
    refine lv_iconst (v := 0) hx hb dX7_readInto_32 (by decide) ?_
    refine lv_istore_n (lv' := [(2, .int 0), (0, .ref (b + a0)), (1, .ref (b + a1))]) hx hb dX7_readInto_33 rfl hl (by decide) rfl (fun ls hl => ?_)
    exact wl_X7_readInto_34 X Z  FU _ _ _ _ hf _ _ _ S (lv_sub hl [1, 2, 0] rfl)
def f_X7_readInto (a0 : Nat) (a1 : Nat) (h : HP) : Option (Int32 × HP) := ck h a0 7 (f_X7_readInto_e a0 a1 h)
theorem o_X7_readInto {a0 : Nat} {a1 : Nat} {h : HP} {out : Int32 × HP} (hf : f_X7_readInto a0 a1 h = some out) : ∃ fs, h[a0]? = some (.inl (7, fs)) := (ck_spec hf).1
set_option maxRecDepth 100000 in
theorem c_X7_readInto {l : Launch} {G : GT} {b : Nat} {a0 : Nat} {a1 : Nat} {h : HP} {out : Int32 × HP} (hf : f_X7_readInto a0 a1 h = some out) : MT l G b False False yX7_readInto cX7_readInto 3 (some .int) RM_X7_readInto [.ref (b + a0), .ref (b + a1)] h (some (.int out.1)) out.2 0 0 := by
  refine met_of (by decide) (Nat.le_of_ble_eq_true rfl) ?_
  intro p e s m below meth c ls X hnm S hl
  have hl : lv_has ls 3 [(0, .ref (b + a0)), (1, .ref (b + a1))] := hl
  replace hf := (ck_spec hf).2
  exact w_X7_readInto_e X (z_i X) _ _ _ hf _ _ _ S hl
/-! RoomRings.<init>()V -/
abbrev RM_X8_init : Room := { frames := 3, cells := 141, slots := 2110, locals := 53 }
def f_X8_init_e  (a0 : Nat) (h : HP) : Option (HP) :=
  (f_X7_init (List.length h) (hpush h (.inl (7, [.inl 0, .inl 0, .inl 0, .inl 0, .inl 0, .inr none])))).bind fun h1 =>
  (pR h1 a0 8 0 (List.length h)).bind fun h2 =>
  (f_X3_init (List.length h2) (hpush h2 (.inl (3, [.inl 0, .inl 0, .inr none, .inr none, .inr none, .inr none])))).bind fun h3 =>
  (pR h3 a0 8 1 (List.length h2)).bind fun h4 =>
  (f_X3_init (List.length h4) (hpush h4 (.inl (3, [.inl 0, .inl 0, .inr none, .inr none, .inr none, .inr none])))).bind fun h5 =>
  (pR h5 a0 8 2 (List.length h4)).bind fun h6 =>
  (f_X1_init (List.length h6) (hpush h6 (.inl (1, [.inl 0, .inl 0, .inl 0, .inr none, .inr none, .inr none, .inr none, .inr none])))).bind fun h7 =>
  (pR h7 a0 8 3 (List.length h6)).bind fun h8 =>
  (f_X0_init (List.length h8) (hpush h8 (.inl (0, [.inl 0, .inl 0, .inr none])))).bind fun h9 =>
  (pR h9 a0 8 4 (List.length h8)).bind fun h10 =>
  (f_X6_init (List.length h10) (hpush h10 (.inl (6, [.inl 0, .inr none])))).bind fun h11 =>
  (pR h11 a0 8 5 (List.length h10)).bind fun h12 =>
  (f_X5_init (List.length h12) (hpush h12 (.inl (5, [.inl 0, .inl 0, .inr none, .inr none, .inr none, .inr none])))).bind fun h13 =>
  (pR h13 a0 8 6 (List.length h12)).bind fun h14 =>
  (f_X2_init (List.length h14) (hpush h14 (.inl (2, [.inl 0])))).bind fun h15 =>
  (pR h15 a0 8 7 (List.length h14)).bind fun h16 =>
  (pR (hpush h16 (.inr (.inr (true, 2, fun _ => none)))) a0 8 8 (List.length h16)).bind fun h17 =>
  (gR h17 a0 8 8).bind fun r18 =>
  (alen h17 r18).bind fun v19 =>
  if v19 ≤ 0 then
    none
  else
    (gR h17 a0 8 8).bind fun r20 =>
    (f_X4_init (List.length h17) (hpush h17 (.inl (4, [.inl 0, .inl 0, .inr none])))).bind fun h21 =>
    (qst h21 r20 0 (List.length h17)).bind fun h22 =>
    (gR h22 a0 8 8).bind fun r23 =>
    (alen h22 r23).bind fun v24 =>
    if v24 ≤ 1 then
      none
    else
      (gR h22 a0 8 8).bind fun r25 =>
      (f_X4_init (List.length h22) (hpush h22 (.inl (4, [.inl 0, .inl 0, .inr none])))).bind fun h26 =>
      (qst h26 r25 1 (List.length h22)).bind fun h27 =>
      (gR h27 a0 8 8).bind fun r28 =>
      (alen h27 r28).bind fun v29 =>
      if v29 ≤ 2 then
        some h27
      else
        none
set_option maxRecDepth 100000 in
set_option maxHeartbeats 4000000 in
theorem w_X8_init_e (X : CX RX8 cX8_init 2 none p s m args meth c G b) (hnm : meth.name = "<init>") {out : HP} (Z : ZV p l e RM_X8_init s m args below meth c cX8_init G b True 141 2110 Q out)  : ∀ (a0 : Nat) (h : HP), f_X8_init_e  a0 h = some out → ∀ (H : Heap) (locs : List Loc) (ls : Array Slot), ST G b True s h H locs → lv_has ls 2 [(0, .ref (b + a0))] → W p l e RM_X8_init s m args below meth c H locs 0 0 Q (F0 m 0 ls []) := by
  intro a0 h hf H locs ls S hl
  unfold f_X8_init_e at hf
  have hx := X.1
  have hb := X.2.1
  refine lv_aload_n hx hb dX8_init_0 rfl (lv_at hl 0 rfl) ?_
  refine W.objInit hx hb X.2.2.2.1 (X.2.2.2.2.1 _ ml_X8_1) (X.2.2.2.2.1 _ oi_i) (X.2.2.2.2.1 _ oi_c) rfl (by rw [X.2.2.1]; exact hl.1) rfl dX8_init_1 (Nat.le_of_ble_eq_true rfl) (Nat.le_of_ble_eq_true rfl) ?_
  refine W.eq (g2 := F0 m 4 ls []) rfl ?_
  refine lv_aload_n hx hb dX8_init_4 rfl (lv_at hl 0 rfl) ?_
  refine r_new X S nw_X8_7 (Nat.le_of_ble_eq_true rfl) (Nat.le_of_ble_eq_true rfl) dX8_init_5 (fun H locs S => ?_)
  refine W.widen (k := 1) (n := 6) (Nat.le_of_ble_eq_true rfl) (Nat.le_of_ble_eq_true rfl) ?_
  refine lv_dup hx hb dX8_init_8 rfl ?_
  obtain ⟨h1, e_h1, hf⟩ := ob hf
  refine r_callIN X S hl.1 (As := []) (rest := [.ref (b + (List.length h)), .ref (b + a0)]) (c_X7_init e_h1) my_X7_init rfl mi_X7_init nl_X8_9 ⟨rfl, rfl, Nat.le_of_ble_eq_true rfl, Nat.le_of_ble_eq_true rfl⟩ rfl rfl (Nat.le_of_ble_eq_true rfl) dX8_init_9 ⟨Nat.le_of_ble_eq_true rfl, Nat.le_of_ble_eq_true rfl⟩ (fun H locs S => ?_)
  refine W.eq (g2 := F0 m 12 ls [.ref (b + (List.length h)), .ref (b + a0)]) rfl ?_
  refine W.widen (k := 2) (n := 246) (Nat.le_of_ble_eq_true rfl) (Nat.le_of_ble_eq_true rfl) ?_
  obtain ⟨h2, e_h2, hf⟩ := ob hf
  refine r_put X S fp_X8_10 (fun _ => hnm) rfl rfl rfl e_h2 dX8_init_12 (fun H locs S => ?_)
  refine lv_aload_n hx hb dX8_init_15 rfl (lv_at hl 0 rfl) ?_
  refine r_new X S nw_X8_16 (Nat.le_of_ble_eq_true rfl) (Nat.le_of_ble_eq_true rfl) dX8_init_16 (fun H locs S => ?_)
  refine W.widen (k := 3) (n := 252) (Nat.le_of_ble_eq_true rfl) (Nat.le_of_ble_eq_true rfl) ?_
  refine lv_dup hx hb dX8_init_19 rfl ?_
  obtain ⟨h3, e_h3, hf⟩ := ob hf
  refine r_callIN X S hl.1 (As := []) (rest := [.ref (b + (List.length h2)), .ref (b + a0)]) (c_X3_init e_h3) my_X3_init rfl mi_X3_init nl_X8_18 ⟨rfl, rfl, Nat.le_of_ble_eq_true rfl, Nat.le_of_ble_eq_true rfl⟩ rfl rfl (Nat.le_of_ble_eq_true rfl) dX8_init_20 ⟨Nat.le_of_ble_eq_true rfl, Nat.le_of_ble_eq_true rfl⟩ (fun H locs S => ?_)
  refine W.eq (g2 := F0 m 23 ls [.ref (b + (List.length h2)), .ref (b + a0)]) rfl ?_
  refine W.widen (k := 7) (n := 318) (Nat.le_of_ble_eq_true rfl) (Nat.le_of_ble_eq_true rfl) ?_
  obtain ⟨h4, e_h4, hf⟩ := ob hf
  refine r_put X S fp_X8_19 (fun _ => hnm) rfl rfl rfl e_h4 dX8_init_23 (fun H locs S => ?_)
  refine lv_aload_n hx hb dX8_init_26 rfl (lv_at hl 0 rfl) ?_
  refine r_new X S nw_X8_16 (Nat.le_of_ble_eq_true rfl) (Nat.le_of_ble_eq_true rfl) dX8_init_27 (fun H locs S => ?_)
  refine W.widen (k := 8) (n := 324) (Nat.le_of_ble_eq_true rfl) (Nat.le_of_ble_eq_true rfl) ?_
  refine lv_dup hx hb dX8_init_30 rfl ?_
  obtain ⟨h5, e_h5, hf⟩ := ob hf
  refine r_callIN X S hl.1 (As := []) (rest := [.ref (b + (List.length h4)), .ref (b + a0)]) (c_X3_init e_h5) my_X3_init rfl mi_X3_init nl_X8_18 ⟨rfl, rfl, Nat.le_of_ble_eq_true rfl, Nat.le_of_ble_eq_true rfl⟩ rfl rfl (Nat.le_of_ble_eq_true rfl) dX8_init_31 ⟨Nat.le_of_ble_eq_true rfl, Nat.le_of_ble_eq_true rfl⟩ (fun H locs S => ?_)
  refine W.eq (g2 := F0 m 34 ls [.ref (b + (List.length h4)), .ref (b + a0)]) rfl ?_
  refine W.widen (k := 12) (n := 390) (Nat.le_of_ble_eq_true rfl) (Nat.le_of_ble_eq_true rfl) ?_
  obtain ⟨h6, e_h6, hf⟩ := ob hf
  refine r_put X S fp_X8_23 (fun _ => hnm) rfl rfl rfl e_h6 dX8_init_34 (fun H locs S => ?_)
  refine lv_aload_n hx hb dX8_init_37 rfl (lv_at hl 0 rfl) ?_
  refine r_new X S nw_X8_26 (Nat.le_of_ble_eq_true rfl) (Nat.le_of_ble_eq_true rfl) dX8_init_38 (fun H locs S => ?_)
  refine W.widen (k := 13) (n := 398) (Nat.le_of_ble_eq_true rfl) (Nat.le_of_ble_eq_true rfl) ?_
  refine lv_dup hx hb dX8_init_41 rfl ?_
  obtain ⟨h7, e_h7, hf⟩ := ob hf
  refine r_callIN X S hl.1 (As := []) (rest := [.ref (b + (List.length h6)), .ref (b + a0)]) (c_X1_init e_h7) my_X1_init rfl mi_X1_init nl_X8_28 ⟨rfl, rfl, Nat.le_of_ble_eq_true rfl, Nat.le_of_ble_eq_true rfl⟩ rfl rfl (Nat.le_of_ble_eq_true rfl) dX8_init_42 ⟨Nat.le_of_ble_eq_true rfl, Nat.le_of_ble_eq_true rfl⟩ (fun H locs S => ?_)
  refine W.eq (g2 := F0 m 45 ls [.ref (b + (List.length h6)), .ref (b + a0)]) rfl ?_
  refine W.widen (k := 18) (n := 428) (Nat.le_of_ble_eq_true rfl) (Nat.le_of_ble_eq_true rfl) ?_
  obtain ⟨h8, e_h8, hf⟩ := ob hf
  refine r_put X S fp_X8_29 (fun _ => hnm) rfl rfl rfl e_h8 dX8_init_45 (fun H locs S => ?_)
  refine lv_aload_n hx hb dX8_init_48 rfl (lv_at hl 0 rfl) ?_
  refine r_new X S nw_X8_33 (Nat.le_of_ble_eq_true rfl) (Nat.le_of_ble_eq_true rfl) dX8_init_49 (fun H locs S => ?_)
  refine W.widen (k := 19) (n := 431) (Nat.le_of_ble_eq_true rfl) (Nat.le_of_ble_eq_true rfl) ?_
  refine lv_dup hx hb dX8_init_52 rfl ?_
  obtain ⟨h9, e_h9, hf⟩ := ob hf
  refine r_callIN X S hl.1 (As := []) (rest := [.ref (b + (List.length h8)), .ref (b + a0)]) (c_X0_init e_h9) my_X0_init rfl mi_X0_init nl_X8_35 ⟨rfl, rfl, Nat.le_of_ble_eq_true rfl, Nat.le_of_ble_eq_true rfl⟩ rfl rfl (Nat.le_of_ble_eq_true rfl) dX8_init_53 ⟨Nat.le_of_ble_eq_true rfl, Nat.le_of_ble_eq_true rfl⟩ (fun H locs S => ?_)
  refine W.eq (g2 := F0 m 56 ls [.ref (b + (List.length h8)), .ref (b + a0)]) rfl ?_
  refine W.widen (k := 20) (n := 437) (Nat.le_of_ble_eq_true rfl) (Nat.le_of_ble_eq_true rfl) ?_
  obtain ⟨h10, e_h10, hf⟩ := ob hf
  refine r_put X S fp_X8_36 (fun _ => hnm) rfl rfl rfl e_h10 dX8_init_56 (fun H locs S => ?_)
  refine lv_aload_n hx hb dX8_init_59 rfl (lv_at hl 0 rfl) ?_
  refine r_new X S nw_X8_40 (Nat.le_of_ble_eq_true rfl) (Nat.le_of_ble_eq_true rfl) dX8_init_60 (fun H locs S => ?_)
  refine W.widen (k := 21) (n := 439) (Nat.le_of_ble_eq_true rfl) (Nat.le_of_ble_eq_true rfl) ?_
  refine lv_dup hx hb dX8_init_63 rfl ?_
  obtain ⟨h11, e_h11, hf⟩ := ob hf
  refine r_callI X S hl.1 (As := []) (rest := [.ref (b + (List.length h10)), .ref (b + a0)]) (c_X6_init e_h11) my_X6_init rfl mi_X6_init ml_X8_42 ⟨rfl, rfl, Nat.le_of_ble_eq_true rfl, Nat.le_of_ble_eq_true rfl⟩ rfl rfl (Nat.le_of_ble_eq_true rfl) dX8_init_64 ⟨Nat.le_of_ble_eq_true rfl, Nat.le_of_ble_eq_true rfl⟩ (fun H locs S => ?_)
  refine W.eq (g2 := F0 m 67 ls [.ref (b + (List.length h10)), .ref (b + a0)]) rfl ?_
  refine W.widen (k := 122) (n := 1899) (Nat.le_of_ble_eq_true rfl) (Nat.le_of_ble_eq_true rfl) ?_
  obtain ⟨h12, e_h12, hf⟩ := ob hf
  refine r_put X S fp_X8_43 (fun _ => hnm) rfl rfl rfl e_h12 dX8_init_67 (fun H locs S => ?_)
  refine lv_aload_n hx hb dX8_init_70 rfl (lv_at hl 0 rfl) ?_
  refine r_new X S nw_X8_47 (Nat.le_of_ble_eq_true rfl) (Nat.le_of_ble_eq_true rfl) dX8_init_71 (fun H locs S => ?_)
  refine W.widen (k := 123) (n := 1905) (Nat.le_of_ble_eq_true rfl) (Nat.le_of_ble_eq_true rfl) ?_
  refine lv_dup hx hb dX8_init_74 rfl ?_
  obtain ⟨h13, e_h13, hf⟩ := ob hf
  refine r_callIN X S hl.1 (As := []) (rest := [.ref (b + (List.length h12)), .ref (b + a0)]) (c_X5_init e_h13) my_X5_init rfl mi_X5_init nl_X8_49 ⟨rfl, rfl, Nat.le_of_ble_eq_true rfl, Nat.le_of_ble_eq_true rfl⟩ rfl rfl (Nat.le_of_ble_eq_true rfl) dX8_init_75 ⟨Nat.le_of_ble_eq_true rfl, Nat.le_of_ble_eq_true rfl⟩ (fun H locs S => ?_)
  refine W.eq (g2 := F0 m 78 ls [.ref (b + (List.length h12)), .ref (b + a0)]) rfl ?_
  refine W.widen (k := 127) (n := 1957) (Nat.le_of_ble_eq_true rfl) (Nat.le_of_ble_eq_true rfl) ?_
  obtain ⟨h14, e_h14, hf⟩ := ob hf
  refine r_put X S fp_X8_50 (fun _ => hnm) rfl rfl rfl e_h14 dX8_init_78 (fun H locs S => ?_)
  refine lv_aload_n hx hb dX8_init_81 rfl (lv_at hl 0 rfl) ?_
  refine r_new X S nw_X8_54 (Nat.le_of_ble_eq_true rfl) (Nat.le_of_ble_eq_true rfl) dX8_init_82 (fun H locs S => ?_)
  refine W.widen (k := 128) (n := 1958) (Nat.le_of_ble_eq_true rfl) (Nat.le_of_ble_eq_true rfl) ?_
  refine lv_dup hx hb dX8_init_85 rfl ?_
  obtain ⟨h15, e_h15, hf⟩ := ob hf
  refine r_callIN X S hl.1 (As := []) (rest := [.ref (b + (List.length h14)), .ref (b + a0)]) (c_X2_init e_h15) my_X2_init rfl mi_X2_init nl_X8_56 ⟨rfl, rfl, Nat.le_of_ble_eq_true rfl, Nat.le_of_ble_eq_true rfl⟩ rfl rfl (Nat.le_of_ble_eq_true rfl) dX8_init_86 ⟨Nat.le_of_ble_eq_true rfl, Nat.le_of_ble_eq_true rfl⟩ (fun H locs S => ?_)
  refine W.eq (g2 := F0 m 89 ls [.ref (b + (List.length h14)), .ref (b + a0)]) rfl ?_
  refine W.widen (k := 128) (n := 1958) (Nat.le_of_ble_eq_true rfl) (Nat.le_of_ble_eq_true rfl) ?_
  obtain ⟨h16, e_h16, hf⟩ := ob hf
  refine r_put X S fp_X8_57 (fun _ => hnm) rfl rfl rfl e_h16 dX8_init_89 (fun H locs S => ?_)
  refine lv_aload_n hx hb dX8_init_92 rfl (lv_at hl 0 rfl) ?_
  refine lv_iconst (v := 2) hx hb dX8_init_93 (by decide) ?_
  refine r_newQ (N := 2) X S true kl_X8_61 (by decide) (by decide) (by decide) (Nat.le_of_ble_eq_true rfl) (Nat.le_of_ble_eq_true rfl) dX8_init_94 (fun H locs S => ?_)
  refine W.widen (k := 129) (n := 1960) (Nat.le_of_ble_eq_true rfl) (Nat.le_of_ble_eq_true rfl) ?_
  obtain ⟨h17, e_h17, hf⟩ := ob hf
  refine r_put X S fp_X8_63 (fun _ => hnm) rfl rfl rfl e_h17 dX8_init_97 (fun H locs S => ?_)
  refine lv_iconst (v := 0) hx hb dX8_init_100 (by decide) ?_
  refine lv_istore_n (lv' := [(1, .int 0), (0, .ref (b + a0))]) hx hb dX8_init_101 rfl hl (by decide) rfl (fun ls hl => ?_)
  refine lv_iload_n hx hb dX8_init_102 rfl (lv_at hl 0 rfl) ?_
  refine lv_aload_n hx hb dX8_init_103 rfl (lv_at hl 1 rfl) ?_
  obtain ⟨r18, e_r18, hf⟩ := ob hf
  refine r_getR X S fl_X8_63 e_r18 dX8_init_104 ?_
  obtain ⟨v19, e_v19, hf⟩ := ob hf
  refine r_alen X S e_v19 dX8_init_107 ?_
  refine lv_icmp_ge (tgt := 130) hx hb dX8_init_108 (by decide) (fun hc => ?_) (fun hc => ?_)
  · replace hf := ip hf hc
    exact nn hf
  · replace hf := im hf hc
    refine lv_aload_n hx hb dX8_init_111 rfl (lv_at hl 1 rfl) ?_
    obtain ⟨r20, e_r20, hf⟩ := ob hf
    refine r_getR X S fl_X8_63 e_r20 dX8_init_112 ?_
    refine lv_iload_n hx hb dX8_init_115 rfl (lv_at hl 0 rfl) ?_
    refine r_new X S nw_X8_61 (Nat.le_of_ble_eq_true rfl) (Nat.le_of_ble_eq_true rfl) dX8_init_116 (fun H locs S => ?_)
    refine W.widen (k := 130) (n := 1963) (Nat.le_of_ble_eq_true rfl) (Nat.le_of_ble_eq_true rfl) ?_
    refine lv_dup hx hb dX8_init_119 rfl ?_
    obtain ⟨h21, e_h21, hf⟩ := ob hf
    refine r_callIN X S hl.1 (As := []) (rest := [.ref (b + (List.length h17)), .int 0, .ref (b + r20)]) (c_X4_init e_h21) my_X4_init rfl mi_X4_init nl_X8_67 ⟨rfl, rfl, Nat.le_of_ble_eq_true rfl, Nat.le_of_ble_eq_true rfl⟩ rfl rfl (Nat.le_of_ble_eq_true rfl) dX8_init_120 ⟨Nat.le_of_ble_eq_true rfl, Nat.le_of_ble_eq_true rfl⟩ (fun H locs S => ?_)
    refine W.eq (g2 := F0 m 123 ls [.ref (b + (List.length h17)), .int 0, .ref (b + r20)]) rfl ?_
    refine W.widen (k := 135) (n := 2035) (Nat.le_of_ble_eq_true rfl) (Nat.le_of_ble_eq_true rfl) ?_
    obtain ⟨h22, e_h22, hf⟩ := ob hf
    refine r_qst X S e_h22 dX8_init_123 (fun H locs S => ?_)
    refine lv_iinc (v := 1) (lv' := [(1, .int 1), (0, .ref (b + a0))]) hx hb dX8_init_124 hl (k := 0) rfl rfl (by decide) rfl (fun ls hl => ?_)
    refine lv_goto (tgt := 102) hx hb dX8_init_127 (by decide) ?_
    refine lv_iload_n hx hb dX8_init_102 rfl (lv_at hl 0 rfl) ?_
    refine lv_aload_n hx hb dX8_init_103 rfl (lv_at hl 1 rfl) ?_
    obtain ⟨r23, e_r23, hf⟩ := ob hf
    refine r_getR X S fl_X8_63 e_r23 dX8_init_104 ?_
    obtain ⟨v24, e_v24, hf⟩ := ob hf
    refine r_alen X S e_v24 dX8_init_107 ?_
    refine lv_icmp_ge (tgt := 130) hx hb dX8_init_108 (by decide) (fun hc => ?_) (fun hc => ?_)
    · replace hf := ip hf hc
      exact nn hf
    · replace hf := im hf hc
      refine lv_aload_n hx hb dX8_init_111 rfl (lv_at hl 1 rfl) ?_
      obtain ⟨r25, e_r25, hf⟩ := ob hf
      refine r_getR X S fl_X8_63 e_r25 dX8_init_112 ?_
      refine lv_iload_n hx hb dX8_init_115 rfl (lv_at hl 0 rfl) ?_
      refine r_new X S nw_X8_61 (Nat.le_of_ble_eq_true rfl) (Nat.le_of_ble_eq_true rfl) dX8_init_116 (fun H locs S => ?_)
      refine W.widen (k := 136) (n := 2038) (Nat.le_of_ble_eq_true rfl) (Nat.le_of_ble_eq_true rfl) ?_
      refine lv_dup hx hb dX8_init_119 rfl ?_
      obtain ⟨h26, e_h26, hf⟩ := ob hf
      refine r_callIN X S hl.1 (As := []) (rest := [.ref (b + (List.length h22)), .int 1, .ref (b + r25)]) (c_X4_init e_h26) my_X4_init rfl mi_X4_init nl_X8_67 ⟨rfl, rfl, Nat.le_of_ble_eq_true rfl, Nat.le_of_ble_eq_true rfl⟩ rfl rfl (Nat.le_of_ble_eq_true rfl) dX8_init_120 ⟨Nat.le_of_ble_eq_true rfl, Nat.le_of_ble_eq_true rfl⟩ (fun H locs S => ?_)
      refine W.eq (g2 := F0 m 123 ls [.ref (b + (List.length h22)), .int 1, .ref (b + r25)]) rfl ?_
      refine W.widen (k := 141) (n := 2110) (Nat.le_of_ble_eq_true rfl) (Nat.le_of_ble_eq_true rfl) ?_
      obtain ⟨h27, e_h27, hf⟩ := ob hf
      refine r_qst X S e_h27 dX8_init_123 (fun H locs S => ?_)
      refine lv_iinc (v := 2) (lv' := [(1, .int 2), (0, .ref (b + a0))]) hx hb dX8_init_124 hl (k := 0) rfl rfl (by decide) rfl (fun ls hl => ?_)
      refine lv_goto (tgt := 102) hx hb dX8_init_127 (by decide) ?_
      refine lv_iload_n hx hb dX8_init_102 rfl (lv_at hl 0 rfl) ?_
      refine lv_aload_n hx hb dX8_init_103 rfl (lv_at hl 1 rfl) ?_
      obtain ⟨r28, e_r28, hf⟩ := ob hf
      refine r_getR X S fl_X8_63 e_r28 dX8_init_104 ?_
      obtain ⟨v29, e_v29, hf⟩ := ob hf
      refine r_alen X S e_v29 dX8_init_107 ?_
      refine lv_icmp_ge (tgt := 130) hx hb dX8_init_108 (by decide) (fun hc => ?_) (fun hc => ?_)
      · replace hf := ip hf hc
        obtain rfl := Option.some.inj hf
        exact Z _ _ _ _ dX8_init_130 S
      · replace hf := im hf hc
        exact nn hf
def f_X8_init (a0 : Nat) (h : HP) : Option (HP) := f_X8_init_e a0 h
set_option maxRecDepth 100000 in
theorem c_X8_init {l : Launch} {G : GT} {b : Nat} {a0 : Nat} {h : HP} {out : HP} (hf : f_X8_init a0 h = some out) : MT l G b True True yX8_init cX8_init 2 none RM_X8_init [.ref (b + a0)] h none out 141 2110 := by
  refine met_of (by decide) (Nat.le_of_ble_eq_true rfl) ?_
  intro p e s m below meth c ls X hnm S hl
  have hl : lv_has ls 2 [(0, .ref (b + a0))] := hl
  exact w_X8_init_e X hnm (z_v X) _ _ hf _ _ _ S hl
/-! RoomRings.feed(I)I -/
abbrev RM_X8_feed : Room := { frames := 2, cells := 0, slots := 0, locals := 43 }
def f_X8_feed_b11   (h : HP) : Option (Int32 × HP) :=
  some ((-1000000002), h)
set_option maxRecDepth 100000 in
set_option maxHeartbeats 4000000 in
theorem w_X8_feed_b11 (X : CX RX8 cX8_feed 2 (some .int) p s m args meth c G b) {out : Int32 × HP} (Z : ZI p l e RM_X8_feed s m args below meth c cX8_feed G b False 0 0 Q out)  : ∀  (h : HP), f_X8_feed_b11   h = some out → ∀ (H : Heap) (locs : List Loc) (ls : Array Slot), ST G b False s h H locs → lv_has ls 2 [] → W p l e RM_X8_feed s m args below meth c H locs 0 0 Q (F0 m 11 ls []) := by
  intro  h hf H locs ls S hl
  unfold f_X8_feed_b11 at hf
  have hx := X.1
  have hb := X.2.1
  refine lv_ldc (v := (-1000000002)) hx hb X.2.2.2.1 (X.2.2.2.2.1 _ cn_X8_68) dX8_feed_11 ?_
  obtain rfl := Option.some.inj hf
  exact Z _ _ _ _ dX8_feed_13 S
def f_X8_feed_e  (a0 : Nat) (x1 : Int32) (h : HP) : Option (Int32 × HP) :=
  if x1 < 0 then
    f_X8_feed_b11   h
  else
    if x1 ≤ 255 then
      (gR h a0 8 0).bind fun r1 =>
      (f_X7_add r1 x1 h).bind fun q2 =>
      some (q2.1, q2.2)
    else
      f_X8_feed_b11   h
set_option maxRecDepth 100000 in
set_option maxHeartbeats 4000000 in
theorem w_X8_feed_e (X : CX RX8 cX8_feed 2 (some .int) p s m args meth c G b) {out : Int32 × HP} (Z : ZI p l e RM_X8_feed s m args below meth c cX8_feed G b False 0 0 Q out)  : ∀ (a0 : Nat) (x1 : Int32) (h : HP), f_X8_feed_e  a0 x1 h = some out → ∀ (H : Heap) (locs : List Loc) (ls : Array Slot), ST G b False s h H locs → lv_has ls 2 [(0, .ref (b + a0)), (1, .int x1)] → W p l e RM_X8_feed s m args below meth c H locs 0 0 Q (F0 m 0 ls []) := by
  intro a0 x1 h hf H locs ls S hl
  unfold f_X8_feed_e at hf
  have hx := X.1
  have hb := X.2.1
  refine lv_iload_n hx hb dX8_feed_0 rfl (lv_at hl 1 rfl) ?_
  refine lv_if_lt (tgt := 11) hx hb dX8_feed_1 (by decide) (fun hc => ?_) (fun hc => ?_)
  · replace hf := ip hf hc
    exact w_X8_feed_b11 X Z  _ hf _ _ _ S (lv_sub hl [] rfl)
  · replace hf := im hf hc
    refine lv_iload_n hx hb dX8_feed_4 rfl (lv_at hl 1 rfl) ?_
    refine lv_sipush (v := 255) hx hb dX8_feed_5 (by decide) ?_
    refine lv_icmp_le (tgt := 14) hx hb dX8_feed_8 (by decide) (fun hc => ?_) (fun hc => ?_)
    · replace hf := ip hf hc
      refine lv_aload_n hx hb dX8_feed_14 rfl (lv_at hl 0 rfl) ?_
      obtain ⟨r1, e_r1, hf⟩ := ob hf
      refine r_getR X S fl_X8_10 e_r1 dX8_feed_15 ?_
      refine lv_iload_n hx hb dX8_feed_18 rfl (lv_at hl 1 rfl) ?_
      obtain ⟨q2, e_q2, hf⟩ := ob hf
      refine r_callV X S hl.1 (As := [.int x1]) (rest := []) (c_X7_add e_q2) my_X7_add mv_X7_add ml_X8_69 rfl (o_X7_add e_q2) ⟨rfl, rfl, Nat.le_of_ble_eq_true rfl, Nat.le_of_ble_eq_true rfl⟩ rfl rfl (Nat.le_of_ble_eq_true rfl) dX8_feed_19 ⟨Nat.le_of_ble_eq_true rfl, Nat.le_of_ble_eq_true rfl⟩ (fun H locs S => ?_)
      refine W.eq (g2 := F0 m 22 ls [.int q2.1]) rfl ?_
      obtain rfl := Option.some.inj hf
      exact Z _ _ _ _ dX8_feed_22 S
    · replace hf := im hf hc
      exact w_X8_feed_b11 X Z  _ hf _ _ _ S (lv_sub hl [] rfl)
def f_X8_feed (a0 : Nat) (x1 : Int32) (h : HP) : Option (Int32 × HP) := ck h a0 8 (f_X8_feed_e a0 x1 h)
theorem o_X8_feed {a0 : Nat} {x1 : Int32} {h : HP} {out : Int32 × HP} (hf : f_X8_feed a0 x1 h = some out) : ∃ fs, h[a0]? = some (.inl (8, fs)) := (ck_spec hf).1
set_option maxRecDepth 100000 in
theorem c_X8_feed {l : Launch} {G : GT} {b : Nat} {a0 : Nat} {x1 : Int32} {h : HP} {out : Int32 × HP} (hf : f_X8_feed a0 x1 h = some out) : MT l G b False False yX8_feed cX8_feed 2 (some .int) RM_X8_feed [.ref (b + a0), .int x1] h (some (.int out.1)) out.2 0 0 := by
  refine met_of (by decide) (Nat.le_of_ble_eq_true rfl) ?_
  intro p e s m below meth c ls X hnm S hl
  have hl : lv_has ls 2 [(0, .ref (b + a0)), (1, .int x1)] := hl
  replace hf := (ck_spec hf).2
  exact w_X8_feed_e X (z_i X) _ _ _ hf _ _ _ S hl
/-! RoomRings.hostel()I -/
abbrev RM_X8_hostel : Room := { frames := 6, cells := 0, slots := 0, locals := 135 }
def f_X8_hostel_b72 (K48 : Nat → Int32 → HP → Option (Int32 × HP)) (a0 : Nat) (x2 : Int32) (h : HP) : Option (Int32 × HP) :=
  K48 a0 (x2 + 1) h
set_option maxRecDepth 100000 in
set_option maxHeartbeats 4000000 in
theorem w_X8_hostel_b72 (X : CX RX8 cX8_hostel 4 (some .int) p s m args meth c G b) {out : Int32 × HP} (Z : ZI p l e RM_X8_hostel s m args below meth c cX8_hostel G b False 0 0 Q out) {K48 : Nat → Int32 → HP → Option (Int32 × HP)} (hK48 : ∀ (a0 : Nat) (x2 : Int32) (h : HP), K48 a0 x2 h = some out → ∀ (H : Heap) (locs : List Loc) (ls : Array Slot), ST G b False s h H locs → lv_has ls 4 [(0, .ref (b + a0)), (2, .int x2)] → W p l e RM_X8_hostel s m args below meth c H locs 0 0 Q (F0 m 48 ls [])) : ∀ (a0 : Nat) (x2 : Int32) (h : HP), f_X8_hostel_b72 K48 a0 x2 h = some out → ∀ (H : Heap) (locs : List Loc) (ls : Array Slot), ST G b False s h H locs → lv_has ls 4 [(0, .ref (b + a0)), (2, .int x2)] → W p l e RM_X8_hostel s m args below meth c H locs 0 0 Q (F0 m 72 ls []) := by
  intro a0 x2 h hf H locs ls S hl
  unfold f_X8_hostel_b72 at hf
  have hx := X.1
  have hb := X.2.1
  refine lv_iinc (v := x2 + 1) (lv' := [(2, .int (x2 + 1)), (0, .ref (b + a0))]) hx hb dX8_hostel_72 hl (k := 1) rfl rfl (by decide) rfl (fun ls hl => ?_)
  refine lv_goto (tgt := 48) hx hb dX8_hostel_75 (by decide) ?_
  exact hK48 _ _ _ hf _ _ _ S (lv_sub hl [1, 0] rfl)
def f_X8_hostel_b48 (K48 : Nat → Int32 → HP → Option (Int32 × HP)) (a0 : Nat) (x2 : Int32) (h : HP) : Option (Int32 × HP) :=
  (gR h a0 8 8).bind fun r1 =>
  (alen h r1).bind fun v2 =>
  if v2 ≤ x2 then
    (gR h a0 8 1).bind fun r3 =>
    (gI h r3 3 1).bind fun v4 =>
    some (v4, h)
  else
    (gR h a0 8 8).bind fun r5 =>
    (qld h r5 x2).bind fun r6 =>
    (f_X4_drop r6 h).bind fun h7 =>
    f_X8_hostel_b72 K48 a0 x2 h7
set_option maxRecDepth 100000 in
set_option maxHeartbeats 4000000 in
theorem w_X8_hostel_b48 (X : CX RX8 cX8_hostel 4 (some .int) p s m args meth c G b) {out : Int32 × HP} (Z : ZI p l e RM_X8_hostel s m args below meth c cX8_hostel G b False 0 0 Q out) {K48 : Nat → Int32 → HP → Option (Int32 × HP)} (hK48 : ∀ (a0 : Nat) (x2 : Int32) (h : HP), K48 a0 x2 h = some out → ∀ (H : Heap) (locs : List Loc) (ls : Array Slot), ST G b False s h H locs → lv_has ls 4 [(0, .ref (b + a0)), (2, .int x2)] → W p l e RM_X8_hostel s m args below meth c H locs 0 0 Q (F0 m 48 ls [])) : ∀ (a0 : Nat) (x2 : Int32) (h : HP), f_X8_hostel_b48 K48 a0 x2 h = some out → ∀ (H : Heap) (locs : List Loc) (ls : Array Slot), ST G b False s h H locs → lv_has ls 4 [(0, .ref (b + a0)), (2, .int x2)] → W p l e RM_X8_hostel s m args below meth c H locs 0 0 Q (F0 m 48 ls []) := by
  intro a0 x2 h hf H locs ls S hl
  unfold f_X8_hostel_b48 at hf
  have hx := X.1
  have hb := X.2.1
  refine lv_iload_n hx hb dX8_hostel_48 rfl (lv_at hl 1 rfl) ?_
  refine lv_aload_n hx hb dX8_hostel_49 rfl (lv_at hl 0 rfl) ?_
  obtain ⟨r1, e_r1, hf⟩ := ob hf
  refine r_getR X S fl_X8_63 e_r1 dX8_hostel_50 ?_
  obtain ⟨v2, e_v2, hf⟩ := ob hf
  refine r_alen X S e_v2 dX8_hostel_53 ?_
  refine lv_icmp_ge (tgt := 78) hx hb dX8_hostel_54 (by decide) (fun hc => ?_) (fun hc => ?_)
  · replace hf := ip hf hc
    refine lv_aload_n hx hb dX8_hostel_78 rfl (lv_at hl 0 rfl) ?_
    obtain ⟨r3, e_r3, hf⟩ := ob hf
    refine r_getR X S fl_X8_19 e_r3 dX8_hostel_79 ?_
    obtain ⟨v4, e_v4, hf⟩ := ob hf
    refine r_getI X S fl_X8_90 e_v4 dX8_hostel_82 ?_
    obtain rfl := Option.some.inj hf
    exact Z _ _ _ _ dX8_hostel_85 S
  · replace hf := im hf hc
    refine lv_aload_n hx hb dX8_hostel_57 rfl (lv_at hl 0 rfl) ?_
    obtain ⟨r5, e_r5, hf⟩ := ob hf
    refine r_getR X S fl_X8_63 e_r5 dX8_hostel_58 ?_
    refine lv_iload_n hx hb dX8_hostel_61 rfl (lv_at hl 1 rfl) ?_
    obtain ⟨r6, e_r6, hf⟩ := ob hf
    refine r_qld X S e_r6 dX8_hostel_62 ?_
    refine lv_astore_n (lv' := [(3, .ref (b + r6)), (0, .ref (b + a0)), (2, .int x2)]) hx hb dX8_hostel_63 rfl hl (by decide) rfl (fun ls hl => ?_)
    refine lv_aload_n hx hb dX8_hostel_64 rfl (lv_at hl 0 rfl) ?_
    refine lv_ifnull hx hb dX8_hostel_65 ?_
    refine lv_aload_n hx hb dX8_hostel_68 rfl (lv_at hl 0 rfl) ?_
    obtain ⟨h7, e_h7, hf⟩ := ob hf
    refine r_callV X S hl.1 (As := []) (rest := []) (c_X4_drop e_h7) my_X4_drop mv_X4_drop ml_X8_87 rfl (o_X4_drop e_h7) ⟨rfl, rfl, Nat.le_of_ble_eq_true rfl, Nat.le_of_ble_eq_true rfl⟩ rfl rfl (Nat.le_of_ble_eq_true rfl) dX8_hostel_69 ⟨Nat.le_of_ble_eq_true rfl, Nat.le_of_ble_eq_true rfl⟩ (fun H locs S => ?_)
    refine W.eq (g2 := F0 m 72 ls []) rfl ?_
    exact w_X8_hostel_b72 X Z hK48 _ _ _ hf _ _ _ S (lv_sub hl [1, 2] rfl)
def F_X8_hostel_48  : Nat → Nat → Int32 → HP → Option (Int32 × HP)
  | 0 => fun _ _ _ => none
  | n + 1 => fun a0 x2 h => f_X8_hostel_b48 (F_X8_hostel_48  n) a0 x2 h
theorem wl_X8_hostel_48 (X : CX RX8 cX8_hostel 4 (some .int) p s m args meth c G b) {out : Int32 × HP} (Z : ZI p l e RM_X8_hostel s m args below meth c cX8_hostel G b False 0 0 Q out)  : ∀ (n : Nat) (a0 : Nat) (x2 : Int32) (h : HP), F_X8_hostel_48  n a0 x2 h = some out → ∀ (H : Heap) (locs : List Loc) (ls : Array Slot), ST G b False s h H locs → lv_has ls 4 [(0, .ref (b + a0)), (2, .int x2)] → W p l e RM_X8_hostel s m args below meth c H locs 0 0 Q (F0 m 48 ls []) := by
  intro n
  induction n with
  | zero => intro a0 x2 h hf; exact nn hf
  | succ n ih => exact w_X8_hostel_b48 X Z ih
def f_X8_hostel_e  (a0 : Nat) (h : HP) : Option (Int32 × HP) :=
  (gR h a0 8 0).bind fun r1 =>
  (gR h a0 8 2).bind fun r2 =>
  (f_X7_readInto r1 r2 h).bind fun q3 =>
  if q3.1 = 0 then
    (gR q3.2 a0 8 1).bind fun r4 =>
    (gR q3.2 a0 8 2).bind fun r5 =>
    (f_X3_copy r4 r5 q3.2).bind fun h6 =>
    (gR h6 a0 8 5).bind fun r7 =>
    (f_X6_forget r7 h6).bind fun h8 =>
    (gR h8 a0 8 6).bind fun r9 =>
    (f_X5_clear r9 h8).bind fun h10 =>
    F_X8_hostel_48  FU a0 0 h10
  else
    some (((-10) - q3.1), q3.2)
set_option maxRecDepth 100000 in
set_option maxHeartbeats 4000000 in
theorem w_X8_hostel_e (X : CX RX8 cX8_hostel 4 (some .int) p s m args meth c G b) {out : Int32 × HP} (Z : ZI p l e RM_X8_hostel s m args below meth c cX8_hostel G b False 0 0 Q out)  : ∀ (a0 : Nat) (h : HP), f_X8_hostel_e  a0 h = some out → ∀ (H : Heap) (locs : List Loc) (ls : Array Slot), ST G b False s h H locs → lv_has ls 4 [(0, .ref (b + a0))] → W p l e RM_X8_hostel s m args below meth c H locs 0 0 Q (F0 m 0 ls []) := by
  intro a0 h hf H locs ls S hl
  unfold f_X8_hostel_e at hf
  have hx := X.1
  have hb := X.2.1
  refine lv_aload_n hx hb dX8_hostel_0 rfl (lv_at hl 0 rfl) ?_
  obtain ⟨r1, e_r1, hf⟩ := ob hf
  refine r_getR X S fl_X8_10 e_r1 dX8_hostel_1 ?_
  refine lv_aload_n hx hb dX8_hostel_4 rfl (lv_at hl 0 rfl) ?_
  obtain ⟨r2, e_r2, hf⟩ := ob hf
  refine r_getR X S fl_X8_23 e_r2 dX8_hostel_5 ?_
  obtain ⟨q3, e_q3, hf⟩ := ob hf
  refine r_callV X S hl.1 (As := [.ref (b + r2)]) (rest := []) (c_X7_readInto e_q3) my_X7_readInto mv_X7_readInto ml_X8_73 rfl (o_X7_readInto e_q3) ⟨rfl, rfl, Nat.le_of_ble_eq_true rfl, Nat.le_of_ble_eq_true rfl⟩ rfl rfl (Nat.le_of_ble_eq_true rfl) dX8_hostel_8 ⟨Nat.le_of_ble_eq_true rfl, Nat.le_of_ble_eq_true rfl⟩ (fun H locs S => ?_)
  refine W.eq (g2 := F0 m 11 ls [.int q3.1]) rfl ?_
  refine lv_istore_n (lv' := [(1, .int q3.1), (0, .ref (b + a0))]) hx hb dX8_hostel_11 rfl hl (by decide) rfl (fun ls hl => ?_)
  refine lv_iload_n hx hb dX8_hostel_12 rfl (lv_at hl 0 rfl) ?_
  refine lv_if_eq (tgt := 21) hx hb dX8_hostel_13 (by decide) (fun hc => ?_) (fun hc => ?_)
  · replace hf := ip hf hc
    refine lv_aload_n hx hb dX8_hostel_21 rfl (lv_at hl 1 rfl) ?_
    obtain ⟨r4, e_r4, hf⟩ := ob hf
    refine r_getR X S fl_X8_19 e_r4 dX8_hostel_22 ?_
    refine lv_aload_n hx hb dX8_hostel_25 rfl (lv_at hl 1 rfl) ?_
    obtain ⟨r5, e_r5, hf⟩ := ob hf
    refine r_getR X S fl_X8_23 e_r5 dX8_hostel_26 ?_
    obtain ⟨h6, e_h6, hf⟩ := ob hf
    refine r_callV X S hl.1 (As := [.ref (b + r5)]) (rest := []) (c_X3_copy e_h6) my_X3_copy mv_X3_copy ml_X8_77 rfl (o_X3_copy e_h6) ⟨rfl, rfl, Nat.le_of_ble_eq_true rfl, Nat.le_of_ble_eq_true rfl⟩ rfl rfl (Nat.le_of_ble_eq_true rfl) dX8_hostel_29 ⟨Nat.le_of_ble_eq_true rfl, Nat.le_of_ble_eq_true rfl⟩ (fun H locs S => ?_)
    refine W.eq (g2 := F0 m 32 ls []) rfl ?_
    refine lv_aload_n hx hb dX8_hostel_32 rfl (lv_at hl 1 rfl) ?_
    obtain ⟨r7, e_r7, hf⟩ := ob hf
    refine r_getR X S fl_X8_43 e_r7 dX8_hostel_33 ?_
    obtain ⟨h8, e_h8, hf⟩ := ob hf
    refine r_callV X S hl.1 (As := []) (rest := []) (c_X6_forget e_h8) my_X6_forget mv_X6_forget ml_X8_81 rfl (o_X6_forget e_h8) ⟨rfl, rfl, Nat.le_of_ble_eq_true rfl, Nat.le_of_ble_eq_true rfl⟩ rfl rfl (Nat.le_of_ble_eq_true rfl) dX8_hostel_36 ⟨Nat.le_of_ble_eq_true rfl, Nat.le_of_ble_eq_true rfl⟩ (fun H locs S => ?_)
    refine W.eq (g2 := F0 m 39 ls []) rfl ?_
    refine lv_aload_n hx hb dX8_hostel_39 rfl (lv_at hl 1 rfl) ?_
    obtain ⟨r9, e_r9, hf⟩ := ob hf
    refine r_getR X S fl_X8_50 e_r9 dX8_hostel_40 ?_
    obtain ⟨h10, e_h10, hf⟩ := ob hf
    refine r_callV X S hl.1 (As := []) (rest := []) (c_X5_clear e_h10) my_X5_clear mv_X5_clear ml_X8_84 rfl (o_X5_clear e_h10) ⟨rfl, rfl, Nat.le_of_ble_eq_true rfl, Nat.le_of_ble_eq_true rfl⟩ rfl rfl (Nat.le_of_ble_eq_true rfl) dX8_hostel_43 ⟨Nat.le_of_ble_eq_true rfl, Nat.le_of_ble_eq_true rfl⟩ (fun H locs S => ?_)
    refine W.eq (g2 := F0 m 46 ls []) rfl ?_
    refine lv_iconst (v := 0) hx hb dX8_hostel_46 (by decide) ?_
    refine lv_istore_n (lv' := [(2, .int 0), (1, .int q3.1), (0, .ref (b + a0))]) hx hb dX8_hostel_47 rfl hl (by decide) rfl (fun ls hl => ?_)
    exact wl_X8_hostel_48 X Z  FU _ _ _ hf _ _ _ S (lv_sub hl [2, 0] rfl)
  · replace hf := im hf hc
    refine lv_bipush (v := (-10)) hx hb dX8_hostel_16 (by decide) ?_
    refine lv_iload_n hx hb dX8_hostel_18 rfl (lv_at hl 0 rfl) ?_
    refine lv_isub hx hb dX8_hostel_19 ?_
    obtain rfl := Option.some.inj hf
    exact Z _ _ _ _ dX8_hostel_20 S
def f_X8_hostel (a0 : Nat) (h : HP) : Option (Int32 × HP) := ck h a0 8 (f_X8_hostel_e a0 h)
theorem o_X8_hostel {a0 : Nat} {h : HP} {out : Int32 × HP} (hf : f_X8_hostel a0 h = some out) : ∃ fs, h[a0]? = some (.inl (8, fs)) := (ck_spec hf).1
set_option maxRecDepth 100000 in
theorem c_X8_hostel {l : Launch} {G : GT} {b : Nat} {a0 : Nat} {h : HP} {out : Int32 × HP} (hf : f_X8_hostel a0 h = some out) : MT l G b False False yX8_hostel cX8_hostel 4 (some .int) RM_X8_hostel [.ref (b + a0)] h (some (.int out.1)) out.2 0 0 := by
  refine met_of (by decide) (Nat.le_of_ble_eq_true rfl) ?_
  intro p e s m below meth c ls X hnm S hl
  have hl : lv_has ls 4 [(0, .ref (b + a0))] := hl
  replace hf := (ck_spec hf).2
  exact w_X8_hostel_e X (z_i X) _ _ hf _ _ _ S hl
end M07
