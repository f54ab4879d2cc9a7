section M15
variable {p : Program} {l : Launch} {e : Env} {s : State} {m : MethodId} {args : Array Value} {below : List Frame} {meth : Method} {c : Code} {Q : State → Prop} {G : GT} {b : Nat}
/-! RoomRingsModel.roomsLeft(I)I -/
abbrev RM_X9_roomsLeft : Room := { frames := 1, cells := 0, slots := 0, locals := 24 }
def f_X9_roomsLeft_b67 (K4 : Nat → Int32 → Int32 → Int32 → HP → Option (Int32 × HP)) (a0 : Nat) (x1 : Int32) (x3 : Int32) (s0 : Int32) (s1 : Int32) (h : HP) : Option (Int32 × HP) :=
  K4 a0 x1 (s0 ||| s1) (x3 + 1) h
set_option maxRecDepth 100000 in
set_option maxHeartbeats 4000000 in
theorem w_X9_roomsLeft_b67 (X : CX RX9 cX9_roomsLeft 5 (some .int) p s m args meth c G b) {out : Int32 × HP} (Z : ZI p l e RM_X9_roomsLeft s m args below meth c cX9_roomsLeft G b False 0 0 Q out) {K4 : Nat → Int32 → Int32 → Int32 → HP → Option (Int32 × HP)} (hK4 : ∀ (a0 : Nat) (x1 : Int32) (x2 : Int32) (x3 : Int32) (h : HP), K4 a0 x1 x2 x3 h = some out → ∀ (H : Heap) (locs : List Loc) (ls : Array Slot), ST G b False s h H locs → lv_has ls 5 [(0, .ref (b + a0)), (1, .int x1), (2, .int x2), (3, .int x3)] → W p l e RM_X9_roomsLeft s m args below meth c H locs 0 0 Q (F0 m 4 ls [])) : ∀ (a0 : Nat) (x1 : Int32) (x3 : Int32) (s0 : Int32) (s1 : Int32) (h : HP), f_X9_roomsLeft_b67 K4 a0 x1 x3 s0 s1 h = some out → ∀ (H : Heap) (locs : List Loc) (ls : Array Slot), ST G b False s h H locs → lv_has ls 5 [(0, .ref (b + a0)), (1, .int x1), (3, .int x3)] → W p l e RM_X9_roomsLeft s m args below meth c H locs 0 0 Q (F0 m 67 ls [.int s1, .int s0]) := by
  intro a0 x1 x3 s0 s1 h hf H locs ls S hl
  unfold f_X9_roomsLeft_b67 at hf
  have hx := X.1
  have hb := X.2.1
  refine lv_ior hx hb dX9_roomsLeft_67 ?_
  refine lv_istore_n (lv' := [(2, .int (s0 ||| s1)), (0, .ref (b + a0)), (1, .int x1), (3, .int x3)]) hx hb dX9_roomsLeft_68 rfl hl (by decide) rfl (fun ls hl => ?_)
  refine lv_iinc (v := x3 + 1) (lv' := [(3, .int (x3 + 1)), (2, .int (s0 ||| s1)), (0, .ref (b + a0)), (1, .int x1)]) hx hb dX9_roomsLeft_69 hl (k := 3) rfl rfl (by decide) rfl (fun ls hl => ?_)
  refine lv_goto (tgt := 4) hx hb dX9_roomsLeft_72 (by decide) ?_
  exact hK4 _ _ _ _ _ hf _ _ _ S (lv_sub hl [2, 3, 1, 0] rfl)
def f_X9_roomsLeft_b52 (K4 : Nat → Int32 → Int32 → Int32 → HP → Option (Int32 × HP)) (a0 : Nat) (x1 : Int32) (x2 : Int32) (x3 : Int32) (s0 : Int32) (h : HP) : Option (Int32 × HP) :=
  if s0 = 0 then
    f_X9_roomsLeft_b67 K4 a0 x1 x3 x2 (1 <<< (x3 &&& 31)) h
  else
    f_X9_roomsLeft_b67 K4 a0 x1 x3 x2 0 h
set_option maxRecDepth 100000 in
set_option maxHeartbeats 4000000 in
theorem w_X9_roomsLeft_b52 (X : CX RX9 cX9_roomsLeft 5 (some .int) p s m args meth c G b) {out : Int32 × HP} (Z : ZI p l e RM_X9_roomsLeft s m args below meth c cX9_roomsLeft G b False 0 0 Q out) {K4 : Nat → Int32 → Int32 → Int32 → HP → Option (Int32 × HP)} (hK4 : ∀ (a0 : Nat) (x1 : Int32) (x2 : Int32) (x3 : Int32) (h : HP), K4 a0 x1 x2 x3 h = some out → ∀ (H : Heap) (locs : List Loc) (ls : Array Slot), ST G b False s h H locs → lv_has ls 5 [(0, .ref (b + a0)), (1, .int x1), (2, .int x2), (3, .int x3)] → W p l e RM_X9_roomsLeft s m args below meth c H locs 0 0 Q (F0 m 4 ls [])) : ∀ (a0 : Nat) (x1 : Int32) (x2 : Int32) (x3 : Int32) (s0 : Int32) (h : HP), f_X9_roomsLeft_b52 K4 a0 x1 x2 x3 s0 h = some out → ∀ (H : Heap) (locs : List Loc) (ls : Array Slot), ST G b False s h H locs → lv_has ls 5 [(0, .ref (b + a0)), (1, .int x1), (2, .int x2), (3, .int x3)] → W p l e RM_X9_roomsLeft s m args below meth c H locs 0 0 Q (F0 m 52 ls [.int s0]) := by
  intro a0 x1 x2 x3 s0 h hf H locs ls S hl
  unfold f_X9_roomsLeft_b52 at hf
  have hx := X.1
  have hb := X.2.1
  refine lv_istore (lv' := [(4, .int s0), (0, .ref (b + a0)), (1, .int x1), (2, .int x2), (3, .int x3)]) hx hb dX9_roomsLeft_52 hl (by decide) rfl (fun ls hl => ?_)
  refine lv_iload_n hx hb dX9_roomsLeft_54 rfl (lv_at hl 3 rfl) ?_
  refine lv_iload hx hb dX9_roomsLeft_55 (lv_at hl 0 rfl) ?_
  refine lv_if_eq (tgt := 64) hx hb dX9_roomsLeft_57 (by decide) (fun hc => ?_) (fun hc => ?_)
  · replace hf := ip hf hc
    refine lv_iconst (v := 1) hx hb dX9_roomsLeft_64 (by decide) ?_
    refine lv_iload_n hx hb dX9_roomsLeft_65 rfl (lv_at hl 4 rfl) ?_
    refine lv_ishl hx hb dX9_roomsLeft_66 ?_
    exact w_X9_roomsLeft_b67 X Z hK4 _ _ _ _ _ _ hf _ _ _ S (lv_sub hl [1, 2, 4] rfl)
  · replace hf := im hf hc
    refine lv_iconst (v := 0) hx hb dX9_roomsLeft_60 (by decide) ?_
    refine lv_goto (tgt := 67) hx hb dX9_roomsLeft_61 (by decide) ?_
    exact w_X9_roomsLeft_b67 X Z hK4 _ _ _ _ _ _ hf _ _ _ S (lv_sub hl [1, 2, 4] rfl)
def f_X9_roomsLeft_b4 (K4 : Nat → Int32 → Int32 → Int32 → HP → Option (Int32 × HP)) (a0 : Nat) (x1 : Int32) (x2 : Int32) (x3 : Int32) (h : HP) : Option (Int32 × HP) :=
  (gI h a0 9 1).bind fun v1 =>
  if v1 ≤ x3 then
    some (x2, h)
  else
    if x1 = 0 then
      (gI h a0 9 2).bind fun v2 =>
      (f_X9_sitterIn a0 0 v2 x3 h).bind fun q3 =>
      if q3.1 = (-1) then
        f_X9_roomsLeft_b52 K4 a0 x1 x2 x3 0 q3.2
      else
        f_X9_roomsLeft_b52 K4 a0 x1 x2 x3 1 q3.2
    else
      (f_X9_whoGets a0 x3 h).bind fun q4 =>
      if q4.1 = (-1) then
        f_X9_roomsLeft_b52 K4 a0 x1 x2 x3 0 q4.2
      else
        f_X9_roomsLeft_b52 K4 a0 x1 x2 x3 1 q4.2
set_option maxRecDepth 100000 in
set_option maxHeartbeats 4000000 in
theorem w_X9_roomsLeft_b4 (X : CX RX9 cX9_roomsLeft 5 (some .int) p s m args meth c G b) {out : Int32 × HP} (Z : ZI p l e RM_X9_roomsLeft s m args below meth c cX9_roomsLeft G b False 0 0 Q out) {K4 : Nat → Int32 → Int32 → Int32 → HP → Option (Int32 × HP)} (hK4 : ∀ (a0 : Nat) (x1 : Int32) (x2 : Int32) (x3 : Int32) (h : HP), K4 a0 x1 x2 x3 h = some out → ∀ (H : Heap) (locs : List Loc) (ls : Array Slot), ST G b False s h H locs → lv_has ls 5 [(0, .ref (b + a0)), (1, .int x1), (2, .int x2), (3, .int x3)] → W p l e RM_X9_roomsLeft s m args below meth c H locs 0 0 Q (F0 m 4 ls [])) : ∀ (a0 : Nat) (x1 : Int32) (x2 : Int32) (x3 : Int32) (h : HP), f_X9_roomsLeft_b4 K4 a0 x1 x2 x3 h = some out → ∀ (H : Heap) (locs : List Loc) (ls : Array Slot), ST G b False s h H locs → lv_has ls 5 [(0, .ref (b + a0)), (1, .int x1), (2, .int x2), (3, .int x3)] → W p l e RM_X9_roomsLeft s m args below meth c H locs 0 0 Q (F0 m 4 ls []) := by
  intro a0 x1 x2 x3 h hf H locs ls S hl
  unfold f_X9_roomsLeft_b4 at hf
  have hx := X.1
  have hb := X.2.1
  refine lv_iload_n hx hb dX9_roomsLeft_4 rfl (lv_at hl 3 rfl) ?_
  refine lv_aload_n hx hb dX9_roomsLeft_5 rfl (lv_at hl 0 rfl) ?_
  obtain ⟨v1, e_v1, hf⟩ := ob hf
  refine r_getI X S fl_X9_58 e_v1 dX9_roomsLeft_6 ?_
  refine lv_icmp_ge (tgt := 75) hx hb dX9_roomsLeft_9 (by decide) (fun hc => ?_) (fun hc => ?_)
  · replace hf := ip hf hc
    refine lv_iload_n hx hb dX9_roomsLeft_75 rfl (lv_at hl 2 rfl) ?_
    obtain rfl := Option.some.inj hf
    exact Z _ _ _ _ dX9_roomsLeft_76 S
  · replace hf := im hf hc
    refine lv_iload_n hx hb dX9_roomsLeft_12 rfl (lv_at hl 1 rfl) ?_
    refine lv_if_ne (tgt := 38) hx hb dX9_roomsLeft_13 (by decide) (fun hc => ?_) (fun hc => ?_)
    · replace hf := im hf hc
      refine lv_aload_n hx hb dX9_roomsLeft_38 rfl (lv_at hl 0 rfl) ?_
      refine lv_iload_n hx hb dX9_roomsLeft_39 rfl (lv_at hl 3 rfl) ?_
      obtain ⟨q4, e_q4, hf⟩ := ob hf
      refine r_callV X S hl.1 (As := [.int x3]) (rest := []) (c_X9_whoGets e_q4) my_X9_whoGets mv_X9_whoGets ml_X9_169 rfl (o_X9_whoGets e_q4) ⟨rfl, rfl, Nat.le_of_ble_eq_true rfl, Nat.le_of_ble_eq_true rfl⟩ rfl rfl (Nat.le_of_ble_eq_true rfl) dX9_roomsLeft_40 ⟨Nat.le_of_ble_eq_true rfl, Nat.le_of_ble_eq_true rfl⟩ (fun H locs S => ?_)
      refine W.eq (g2 := F0 m 43 ls [.int q4.1]) rfl ?_
      refine lv_iconst (v := (-1)) hx hb dX9_roomsLeft_43 (by decide) ?_
      refine lv_icmp_eq (tgt := 51) hx hb dX9_roomsLeft_44 (by decide) (fun hc => ?_) (fun hc => ?_)
      · replace hf := ip hf hc
        refine lv_iconst (v := 0) hx hb dX9_roomsLeft_51 (by decide) ?_
        exact w_X9_roomsLeft_b52 X Z hK4 _ _ _ _ _ _ hf _ _ _ S (lv_sub hl [0, 1, 2, 3] rfl)
      · replace hf := im hf hc
        refine lv_iconst (v := 1) hx hb dX9_roomsLeft_47 (by decide) ?_
        refine lv_goto (tgt := 52) hx hb dX9_roomsLeft_48 (by decide) ?_
        exact w_X9_roomsLeft_b52 X Z hK4 _ _ _ _ _ _ hf _ _ _ S (lv_sub hl [0, 1, 2, 3] rfl)
    · replace hf := ip hf hc
      refine lv_aload_n hx hb dX9_roomsLeft_16 rfl (lv_at hl 0 rfl) ?_
      refine lv_iconst (v := 0) hx hb dX9_roomsLeft_17 (by decide) ?_
      refine lv_aload_n hx hb dX9_roomsLeft_18 rfl (lv_at hl 0 rfl) ?_
      obtain ⟨v2, e_v2, hf⟩ := ob hf
      refine r_getI X S fl_X9_51 e_v2 dX9_roomsLeft_19 ?_
      refine lv_iload_n hx hb dX9_roomsLeft_22 rfl (lv_at hl 3 rfl) ?_
      obtain ⟨q3, e_q3, hf⟩ := ob hf
      refine r_callV X S hl.1 (As := [.int 0, .int v2, .int x3]) (rest := []) (c_X9_sitterIn e_q3) my_X9_sitterIn mv_X9_sitterIn ml_X9_104 rfl (o_X9_sitterIn e_q3) ⟨rfl, rfl, Nat.le_of_ble_eq_true rfl, Nat.le_of_ble_eq_true rfl⟩ rfl rfl (Nat.le_of_ble_eq_true rfl) dX9_roomsLeft_23 ⟨Nat.le_of_ble_eq_true rfl, Nat.le_of_ble_eq_true rfl⟩ (fun H locs S => ?_)
      refine W.eq (g2 := F0 m 26 ls [.int q3.1]) rfl ?_
      refine lv_iconst (v := (-1)) hx hb dX9_roomsLeft_26 (by decide) ?_
      refine lv_icmp_eq (tgt := 34) hx hb dX9_roomsLeft_27 (by decide) (fun hc => ?_) (fun hc => ?_)
      · replace hf := ip hf hc
        refine lv_iconst (v := 0) hx hb dX9_roomsLeft_34 (by decide) ?_
        refine lv_goto (tgt := 52) hx hb dX9_roomsLeft_35 (by decide) ?_
        exact w_X9_roomsLeft_b52 X Z hK4 _ _ _ _ _ _ hf _ _ _ S (lv_sub hl [0, 1, 2, 3] rfl)
      · replace hf := im hf hc
        refine lv_iconst (v := 1) hx hb dX9_roomsLeft_30 (by decide) ?_
        refine lv_goto (tgt := 52) hx hb dX9_roomsLeft_31 (by decide) ?_
        exact w_X9_roomsLeft_b52 X Z hK4 _ _ _ _ _ _ hf _ _ _ S (lv_sub hl [0, 1, 2, 3] rfl)
def F_X9_roomsLeft_4  : Nat → Nat → Int32 → Int32 → Int32 → HP → Option (Int32 × HP)
  | 0 => fun _ _ _ _ _ => none
  | n + 1 => fun a0 x1 x2 x3 h => f_X9_roomsLeft_b4 (F_X9_roomsLeft_4  n) a0 x1 x2 x3 h
theorem wl_X9_roomsLeft_4 (X : CX RX9 cX9_roomsLeft 5 (some .int) p s m args meth c G b) {out : Int32 × HP} (Z : ZI p l e RM_X9_roomsLeft s m args below meth c cX9_roomsLeft G b False 0 0 Q out)  : ∀ (n : Nat) (a0 : Nat) (x1 : Int32) (x2 : Int32) (x3 : Int32) (h : HP), F_X9_roomsLeft_4  n a0 x1 x2 x3 h = some out → ∀ (H : Heap) (locs : List Loc) (ls : Array Slot), ST G b False s h H locs → lv_has ls 5 [(0, .ref (b + a0)), (1, .int x1), (2, .int x2), (3, .int x3)] → W p l e RM_X9_roomsLeft s m args below meth c H locs 0 0 Q (F0 m 4 ls []) := by
  intro n
  induction n with
  | zero => intro a0 x1 x2 x3 h hf; exact nn hf
  | succ n ih => exact w_X9_roomsLeft_b4 X Z ih
def f_X9_roomsLeft_e  (a0 : Nat) (x1 : Int32) (h : HP) : Option (Int32 × HP) :=
  F_X9_roomsLeft_4  FU a0 x1 0 0 h
set_option maxRecDepth 100000 in
set_option maxHeartbeats 4000000 in
theorem w_X9_roomsLeft_e (X : CX RX9 cX9_roomsLeft 5 (some .int) p s m args meth c G b) {out : Int32 × HP} (Z : ZI p l e RM_X9_roomsLeft s m args below meth c cX9_roomsLeft G b False 0 0 Q out)  : ∀ (a0 : Nat) (x1 : Int32) (h : HP), f_X9_roomsLeft_e  a0 x1 h = some out → ∀ (H : Heap) (locs : List Loc) (ls : Array Slot), ST G b False s h H locs → lv_has ls 5 [(0, .ref (b + a0)), (1, .int x1)] → W p l e RM_X9_roomsLeft s m args below meth c H locs 0 0 Q (F0 m 0 ls []) := by
  intro a0 x1 h hf H locs ls S hl
  unfold f_X9_roomsLeft_e at hf
  have hx := X.1
  have hb := X.2.1
  refine lv_iconst (v := 0) hx hb dX9_roomsLeft_0 (by decide) ?_
  refine lv_istore_n (lv' := [(2, .int 0), (0, .ref (b + a0)), (1, .int x1)]) hx hb dX9_roomsLeft_1 rfl hl (by decide) rfl (fun ls hl => ?_)
  refine lv_iconst (v := 0) hx hb dX9_roomsLeft_2 (by decide) ?_
  refine lv_istore_n (lv' := [(3, .int 0), (2, .int 0), (0, .ref (b + a0)), (1, .int x1)]) hx hb dX9_roomsLeft_3 rfl hl (by decide) rfl (fun ls hl => ?_)
  exact wl_X9_roomsLeft_4 X Z  FU _ _ _ _ _ hf _ _ _ S (lv_sub hl [2, 3, 1, 0] rfl)
def f_X9_roomsLeft (a0 : Nat) (x1 : Int32) (h : HP) : Option (Int32 × HP) := ck h a0 9 (f_X9_roomsLeft_e a0 x1 h)
theorem o_X9_roomsLeft {a0 : Nat} {x1 : Int32} {h : HP} {out : Int32 × HP} (hf : f_X9_roomsLeft a0 x1 h = some out) : ∃ fs, h[a0]? = some (.inl (9, fs)) := (ck_spec hf).1
set_option maxRecDepth 100000 in
theorem c_X9_roomsLeft {l : Launch} {G : GT} {b : Nat} {a0 : Nat} {x1 : Int32} {h : HP} {out : Int32 × HP} (hf : f_X9_roomsLeft a0 x1 h = some out) : MT l G b False False yX9_roomsLeft cX9_roomsLeft 5 (some .int) RM_X9_roomsLeft [.ref (b + a0), .int x1] h (some (.int out.1)) out.2 0 0 := by
  refine met_of (by decide) (Nat.le_of_ble_eq_true rfl) ?_
  intro p e s m below meth c ls X hnm S hl
  have hl : lv_has ls 5 [(0, .ref (b + a0)), (1, .int x1)] := hl
  replace hf := (ck_spec hf).2
  exact w_X9_roomsLeft_e X (z_i X) _ _ _ hf _ _ _ S hl
/-! RoomRingsModel.personAt(II)I -/
abbrev RM_X9_personAt : Room := { frames := 1, cells := 0, slots := 0, locals := 21 }
def f_X9_personAt_b27 (K4 : Int32 → Int32 → Int32 → HP → Option (Int32 × HP)) (x0 : Int32) (x2 : Int32) (x3 : Int32) (h : HP) : Option (Int32 × HP) :=
  K4 x0 x2 (x3 + 1) h
set_option maxRecDepth 100000 in
set_option maxHeartbeats 4000000 in
theorem w_X9_personAt_b27 (X : CX RX9 cX9_personAt 4 (some .int) p s m args meth c G b) {out : Int32 × HP} (Z : ZI p l e RM_X9_personAt s m args below meth c cX9_personAt G b False 0 0 Q out) {K4 : Int32 → Int32 → Int32 → HP → Option (Int32 × HP)} (hK4 : ∀ (x0 : Int32) (x2 : Int32) (x3 : Int32) (h : HP), K4 x0 x2 x3 h = some out → ∀ (H : Heap) (locs : List Loc) (ls : Array Slot), ST G b False s h H locs → lv_has ls 4 [(0, .int x0), (2, .int x2), (3, .int x3)] → W p l e RM_X9_personAt s m args below meth c H locs 0 0 Q (F0 m 4 ls [])) : ∀ (x0 : Int32) (x2 : Int32) (x3 : Int32) (h : HP), f_X9_personAt_b27 K4 x0 x2 x3 h = some out → ∀ (H : Heap) (locs : List Loc) (ls : Array Slot), ST G b False s h H locs → lv_has ls 4 [(0, .int x0), (2, .int x2), (3, .int x3)] → W p l e RM_X9_personAt s m args below meth c H locs 0 0 Q (F0 m 27 ls []) := by
  intro x0 x2 x3 h hf H locs ls S hl
  unfold f_X9_personAt_b27 at hf
  have hx := X.1
  have hb := X.2.1
  refine lv_iinc (v := x3 + 1) (lv' := [(3, .int (x3 + 1)), (0, .int x0), (2, .int x2)]) hx hb dX9_personAt_27 hl (k := 2) rfl rfl (by decide) rfl (fun ls hl => ?_)
  refine lv_goto (tgt := 4) hx hb dX9_personAt_30 (by decide) ?_
  exact hK4 _ _ _ _ hf _ _ _ S (lv_sub hl [1, 2, 0] rfl)
def f_X9_personAt_b4 (K4 : Int32 → Int32 → Int32 → HP → Option (Int32 × HP)) (x0 : Int32) (x2 : Int32) (x3 : Int32) (h : HP) : Option (Int32 × HP) :=
  if 6 ≤ x3 then
    some ((-1), h)
  else
    (f_X9_has x0 x3 h).bind fun q1 =>
    if q1.1 = 0 then
      f_X9_personAt_b27 K4 x0 x2 x3 q1.2
    else
      if x2 = 0 then
        some (x3, q1.2)
      else
        f_X9_personAt_b27 K4 x0 (x2 + (-1)) x3 q1.2
set_option maxRecDepth 100000 in
set_option maxHeartbeats 4000000 in
theorem w_X9_personAt_b4 (X : CX RX9 cX9_personAt 4 (some .int) p s m args meth c G b) {out : Int32 × HP} (Z : ZI p l e RM_X9_personAt s m args below meth c cX9_personAt G b False 0 0 Q out) {K4 : Int32 → Int32 → Int32 → HP → Option (Int32 × HP)} (hK4 : ∀ (x0 : Int32) (x2 : Int32) (x3 : Int32) (h : HP), K4 x0 x2 x3 h = some out → ∀ (H : Heap) (locs : List Loc) (ls : Array Slot), ST G b False s h H locs → lv_has ls 4 [(0, .int x0), (2, .int x2), (3, .int x3)] → W p l e RM_X9_personAt s m args below meth c H locs 0 0 Q (F0 m 4 ls [])) : ∀ (x0 : Int32) (x2 : Int32) (x3 : Int32) (h : HP), f_X9_personAt_b4 K4 x0 x2 x3 h = some out → ∀ (H : Heap) (locs : List Loc) (ls : Array Slot), ST G b False s h H locs → lv_has ls 4 [(0, .int x0), (2, .int x2), (3, .int x3)] → W p l e RM_X9_personAt s m args below meth c H locs 0 0 Q (F0 m 4 ls []) := by
  intro x0 x2 x3 h hf H locs ls S hl
  unfold f_X9_personAt_b4 at hf
  have hx := X.1
  have hb := X.2.1
  refine lv_iload_n hx hb dX9_personAt_4 rfl (lv_at hl 2 rfl) ?_
  refine lv_bipush (v := 6) hx hb dX9_personAt_5 (by decide) ?_
  refine lv_icmp_ge (tgt := 33) hx hb dX9_personAt_7 (by decide) (fun hc => ?_) (fun hc => ?_)
  · replace hf := ip hf hc
    refine lv_iconst (v := (-1)) hx hb dX9_personAt_33 (by decide) ?_
    obtain rfl := Option.some.inj hf
    exact Z _ _ _ _ dX9_personAt_34 S
  · replace hf := im hf hc
    refine lv_iload_n hx hb dX9_personAt_10 rfl (lv_at hl 0 rfl) ?_
    refine lv_iload_n hx hb dX9_personAt_11 rfl (lv_at hl 2 rfl) ?_
    obtain ⟨q1, e_q1, hf⟩ := ob hf
    refine r_callS X S hl.1 (As := [.int x0, .int x3]) (rest := []) (c_X9_has e_q1) my_X9_has ms_X9_has ml_X9_134 ⟨rfl, rfl, Nat.le_of_ble_eq_true rfl, Nat.le_of_ble_eq_true rfl⟩ rfl rfl (Nat.le_of_ble_eq_true rfl) dX9_personAt_12 ⟨Nat.le_of_ble_eq_true rfl, Nat.le_of_ble_eq_true rfl⟩ (fun H locs S => ?_)
    refine W.eq (g2 := F0 m 15 ls [.int q1.1]) rfl ?_
    refine lv_if_eq (tgt := 27) hx hb dX9_personAt_15 (by decide) (fun hc => ?_) (fun hc => ?_)
    · replace hf := ip hf hc
      exact w_X9_personAt_b27 X Z hK4 _ _ _ _ hf _ _ _ S (lv_sub hl [0, 1, 2] rfl)
    · replace hf := im hf hc
      refine lv_iload_n hx hb dX9_personAt_18 rfl (lv_at hl 1 rfl) ?_
      refine lv_if_ne (tgt := 24) hx hb dX9_personAt_19 (by decide) (fun hc => ?_) (fun hc => ?_)
      · replace hf := im hf hc
        refine lv_iinc (v := x2 + (-1)) (lv' := [(2, .int (x2 + (-1))), (0, .int x0), (3, .int x3)]) hx hb dX9_personAt_24 hl (k := 1) rfl rfl (by decide) rfl (fun ls hl => ?_)
        exact w_X9_personAt_b27 X Z hK4 _ _ _ _ hf _ _ _ S (lv_sub hl [1, 0, 2] rfl)
      · replace hf := ip hf hc
        refine lv_iload_n hx hb dX9_personAt_22 rfl (lv_at hl 2 rfl) ?_
        obtain rfl := Option.some.inj hf
        exact Z _ _ _ _ dX9_personAt_23 S
def F_X9_personAt_4  : Nat → Int32 → Int32 → Int32 → HP → Option (Int32 × HP)
  | 0 => fun _ _ _ _ => none
  | n + 1 => fun x0 x2 x3 h => f_X9_personAt_b4 (F_X9_personAt_4  n) x0 x2 x3 h
theorem wl_X9_personAt_4 (X : CX RX9 cX9_personAt 4 (some .int) p s m args meth c G b) {out : Int32 × HP} (Z : ZI p l e RM_X9_personAt s m args below meth c cX9_personAt G b False 0 0 Q out)  : ∀ (n : Nat) (x0 : Int32) (x2 : Int32) (x3 : Int32) (h : HP), F_X9_personAt_4  n x0 x2 x3 h = some out → ∀ (H : Heap) (locs : List Loc) (ls : Array Slot), ST G b False s h H locs → lv_has ls 4 [(0, .int x0), (2, .int x2), (3, .int x3)] → W p l e RM_X9_personAt s m args below meth c H locs 0 0 Q (F0 m 4 ls []) := by
  intro n
  induction n with
  | zero => intro x0 x2 x3 h hf; exact nn hf
  | succ n ih => exact w_X9_personAt_b4 X Z ih
def f_X9_personAt_e  (x0 : Int32) (x1 : Int32) (h : HP) : Option (Int32 × HP) :=
  F_X9_personAt_4  FU x0 x1 0 h
set_option maxRecDepth 100000 in
set_option maxHeartbeats 4000000 in
theorem w_X9_personAt_e (X : CX RX9 cX9_personAt 4 (some .int) p s m args meth c G b) {out : Int32 × HP} (Z : ZI p l e RM_X9_personAt s m args below meth c cX9_personAt G b False 0 0 Q out)  : ∀ (x0 : Int32) (x1 : Int32) (h : HP), f_X9_personAt_e  x0 x1 h = some out → ∀ (H : Heap) (locs : List Loc) (ls : Array Slot), ST G b False s h H locs → lv_has ls 4 [(0, .int x0), (1, .int x1)] → W p l e RM_X9_personAt s m args below meth c H locs 0 0 Q (F0 m 0 ls []) := by
  intro x0 x1 h hf H locs ls S hl
  unfold f_X9_personAt_e at hf
  have hx := X.1
  have hb := X.2.1
  refine lv_iload_n hx hb dX9_personAt_0 rfl (lv_at hl 1 rfl) ?_
  refine lv_istore_n (lv' := [(2, .int x1), (0, .int x0), (1, .int x1)]) hx hb dX9_personAt_1 rfl hl (by decide) rfl (fun ls hl => ?_)
  refine lv_iconst (v := 0) hx hb dX9_personAt_2 (by decide) ?_
  refine lv_istore_n (lv' := [(3, .int 0), (2, .int x1), (0, .int x0), (1, .int x1)]) hx hb dX9_personAt_3 rfl hl (by decide) rfl (fun ls hl => ?_)
  exact wl_X9_personAt_4 X Z  FU _ _ _ _ hf _ _ _ S (lv_sub hl [2, 1, 0] rfl)
def f_X9_personAt (x0 : Int32) (x1 : Int32) (h : HP) : Option (Int32 × HP) := f_X9_personAt_e x0 x1 h
set_option maxRecDepth 100000 in
theorem c_X9_personAt {l : Launch} {G : GT} {b : Nat} {x0 : Int32} {x1 : Int32} {h : HP} {out : Int32 × HP} (hf : f_X9_personAt x0 x1 h = some out) : MT l G b False False yX9_personAt cX9_personAt 4 (some .int) RM_X9_personAt [.int x0, .int x1] h (some (.int out.1)) out.2 0 0 := by
  refine met_of (by decide) (Nat.le_of_ble_eq_true rfl) ?_
  intro p e s m below meth c ls X hnm S hl
  have hl : lv_has ls 4 [(0, .int x0), (1, .int x1)] := hl
  exact w_X9_personAt_e X (z_i X) _ _ _ hf _ _ _ S hl
/-! RoomRingsModel.partings(I)I -/
abbrev RM_X9_partings : Room := { frames := 2, cells := 0, slots := 0, locals := 51 }
def f_X9_partings_b166 (K48 : Nat → Int32 → Int32 → Int32 → Int32 → HP → Option (Int32 × HP)) (a0 : Nat) (x1 : Int32) (x2 : Int32) (x3 : Int32) (x4 : Int32) (s0 : Nat) (s1 : Int32) (s2 : Int32) (s3 : Int32) (h : HP) : Option (Int32 × HP) :=
  (ast h s0 s1 (s2 + s3)).bind fun h1 =>
  K48 a0 x1 x2 x3 (x4 + 1) h1
set_option maxRecDepth 100000 in
set_option maxHeartbeats 4000000 in
theorem w_X9_partings_b166 (X : CX RX9 cX9_partings 6 (some .int) p s m args meth c G b) {out : Int32 × HP} (Z : ZI p l e RM_X9_partings s m args below meth c cX9_partings G b False 0 0 Q out) {K48 : Nat → Int32 → Int32 → Int32 → Int32 → HP → Option (Int32 × HP)} (hK48 : ∀ (a0 : Nat) (x1 : Int32) (x2 : Int32) (x3 : Int32) (x4 : Int32) (h : HP), K48 a0 x1 x2 x3 x4 h = some out → ∀ (H : Heap) (locs : List Loc) (ls : Array Slot), ST G b False s h H locs → lv_has ls 6 [(0, .ref (b + a0)), (1, .int x1), (2, .int x2), (3, .int x3), (4, .int x4)] → W p l e RM_X9_partings s m args below meth c H locs 0 0 Q (F0 m 48 ls [])) : ∀ (a0 : Nat) (x1 : Int32) (x2 : Int32) (x3 : Int32) (x4 : Int32) (s0 : Nat) (s1 : Int32) (s2 : Int32) (s3 : Int32) (h : HP), f_X9_partings_b166 K48 a0 x1 x2 x3 x4 s0 s1 s2 s3 h = some out → ∀ (H : Heap) (locs : List Loc) (ls : Array Slot), ST G b False s h H locs → lv_has ls 6 [(0, .ref (b + a0)), (1, .int x1), (2, .int x2), (3, .int x3), (4, .int x4)] → W p l e RM_X9_partings s m args below meth c H locs 0 0 Q (F0 m 166 ls [.int s3, .int s2, .int s1, .ref (b + s0)]) := by
  intro a0 x1 x2 x3 x4 s0 s1 s2 s3 h hf H locs ls S hl
  unfold f_X9_partings_b166 at hf
  have hx := X.1
  have hb := X.2.1
  refine lv_iadd hx hb dX9_partings_166 ?_
  obtain ⟨h1, e_h1, hf⟩ := ob hf
  refine r_ast X S e_h1 dX9_partings_167 (fun H locs S => ?_)
  refine lv_iinc (v := x4 + 1) (lv' := [(4, .int (x4 + 1)), (0, .ref (b + a0)), (1, .int x1), (2, .int x2), (3, .int x3)]) hx hb dX9_partings_168 hl (k := 4) rfl rfl (by decide) rfl (fun ls hl => ?_)
  refine lv_goto (tgt := 48) hx hb dX9_partings_171 (by decide) ?_
  exact hK48 _ _ _ _ _ _ hf _ _ _ S (lv_sub hl [1, 2, 3, 4, 0] rfl)
def f_X9_partings_b149 (K48 : Nat → Int32 → Int32 → Int32 → Int32 → HP → Option (Int32 × HP)) (a0 : Nat) (x1 : Int32) (x2 : Int32) (x3 : Int32) (x4 : Int32) (x5 : Int32) (s0 : Nat) (s1 : Int32) (h : HP) : Option (Int32 × HP) :=
  (ald h s0 s1).bind fun v1 =>
  if x5 = 0 then
    f_X9_partings_b166 K48 a0 x1 x2 x3 x4 s0 s1 v1 0 h
  else
    (gR h a0 9 27).bind fun r2 =>
    (ald h r2 x2).bind fun v3 =>
    f_X9_partings_b166 K48 a0 x1 x2 x3 x4 s0 s1 v1 v3 h
set_option maxRecDepth 100000 in
set_option maxHeartbeats 4000000 in
theorem w_X9_partings_b149 (X : CX RX9 cX9_partings 6 (some .int) p s m args meth c G b) {out : Int32 × HP} (Z : ZI p l e RM_X9_partings s m args below meth c cX9_partings G b False 0 0 Q out) {K48 : Nat → Int32 → Int32 → Int32 → Int32 → HP → Option (Int32 × HP)} (hK48 : ∀ (a0 : Nat) (x1 : Int32) (x2 : Int32) (x3 : Int32) (x4 : Int32) (h : HP), K48 a0 x1 x2 x3 x4 h = some out → ∀ (H : Heap) (locs : List Loc) (ls : Array Slot), ST G b False s h H locs → lv_has ls 6 [(0, .ref (b + a0)), (1, .int x1), (2, .int x2), (3, .int x3), (4, .int x4)] → W p l e RM_X9_partings s m args below meth c H locs 0 0 Q (F0 m 48 ls [])) : ∀ (a0 : Nat) (x1 : Int32) (x2 : Int32) (x3 : Int32) (x4 : Int32) (x5 : Int32) (s0 : Nat) (s1 : Int32) (h : HP), f_X9_partings_b149 K48 a0 x1 x2 x3 x4 x5 s0 s1 h = some out → ∀ (H : Heap) (locs : List Loc) (ls : Array Slot), ST G b False s h H locs → lv_has ls 6 [(0, .ref (b + a0)), (1, .int x1), (2, .int x2), (3, .int x3), (4, .int x4), (5, .int x5)] → W p l e RM_X9_partings s m args below meth c H locs 0 0 Q (F0 m 149 ls [.int s1, .ref (b + s0)]) := by
  intro a0 x1 x2 x3 x4 x5 s0 s1 h hf H locs ls S hl
  unfold f_X9_partings_b149 at hf
  have hx := X.1
  have hb := X.2.1
  refine lv_dup2_11 hx hb dX9_partings_149 rfl rfl ?_
  obtain ⟨v1, e_v1, hf⟩ := ob hf
  refine r_ald X S e_v1 dX9_partings_150 ?_
  refine lv_iload hx hb dX9_partings_151 (lv_at hl 5 rfl) ?_
  refine lv_if_eq (tgt := 165) hx hb dX9_partings_153 (by decide) (fun hc => ?_) (fun hc => ?_)
  · replace hf := ip hf hc
    refine lv_iconst (v := 0) hx hb dX9_partings_165 (by decide) ?_
    exact w_X9_partings_b166 X Z hK48 _ _ _ _ _ _ _ _ _ _ hf _ _ _ S (lv_sub hl [0, 1, 2, 3, 4] rfl)
  · replace hf := im hf hc
    refine lv_aload_n hx hb dX9_partings_156 rfl (lv_at hl 0 rfl) ?_
    obtain ⟨r2, e_r2, hf⟩ := ob hf
    refine r_getR X S fl_X9_44 e_r2 dX9_partings_157 ?_
    refine lv_iload_n hx hb dX9_partings_160 rfl (lv_at hl 2 rfl) ?_
    obtain ⟨v3, e_v3, hf⟩ := ob hf
    refine r_ald X S e_v3 dX9_partings_161 ?_
    refine lv_goto (tgt := 166) hx hb dX9_partings_162 (by decide) ?_
    exact w_X9_partings_b166 X Z hK48 _ _ _ _ _ _ _ _ _ _ hf _ _ _ S (lv_sub hl [0, 1, 2, 3, 4] rfl)
def f_X9_partings_b128 (K48 : Nat → Int32 → Int32 → Int32 → Int32 → HP → Option (Int32 × HP)) (a0 : Nat) (x1 : Int32) (x2 : Int32) (x3 : Int32) (x4 : Int32) (s0 : Int32) (h : HP) : Option (Int32 × HP) :=
  (gR h a0 9 27).bind fun r1 =>
  if s0 = 0 then
    f_X9_partings_b149 K48 a0 x1 x2 x3 x4 s0 r1 0 h
  else
    f_X9_partings_b149 K48 a0 x1 x2 x3 x4 s0 r1 (x2 ||| (1 <<< (x4 &&& 31))) h
set_option maxRecDepth 100000 in
set_option maxHeartbeats 4000000 in
theorem w_X9_partings_b128 (X : CX RX9 cX9_partings 6 (some .int) p s m args meth c G b) {out : Int32 × HP} (Z : ZI p l e RM_X9_partings s m args below meth c cX9_partings G b False 0 0 Q out) {K48 : Nat → Int32 → Int32 → Int32 → Int32 → HP → Option (Int32 × HP)} (hK48 : ∀ (a0 : Nat) (x1 : Int32) (x2 : Int32) (x3 : Int32) (x4 : Int32) (h : HP), K48 a0 x1 x2 x3 x4 h = some out → ∀ (H : Heap) (locs : List Loc) (ls : Array Slot), ST G b False s h H locs → lv_has ls 6 [(0, .ref (b + a0)), (1, .int x1), (2, .int x2), (3, .int x3), (4, .int x4)] → W p l e RM_X9_partings s m args below meth c H locs 0 0 Q (F0 m 48 ls [])) : ∀ (a0 : Nat) (x1 : Int32) (x2 : Int32) (x3 : Int32) (x4 : Int32) (s0 : Int32) (h : HP), f_X9_partings_b128 K48 a0 x1 x2 x3 x4 s0 h = some out → ∀ (H : Heap) (locs : List Loc) (ls : Array Slot), ST G b False s h H locs → lv_has ls 6 [(0, .ref (b + a0)), (1, .int x1), (2, .int x2), (3, .int x3), (4, .int x4)] → W p l e RM_X9_partings s m args below meth c H locs 0 0 Q (F0 m 128 ls [.int s0]) := by
  intro a0 x1 x2 x3 x4 s0 h hf H locs ls S hl
  unfold f_X9_partings_b128 at hf
  have hx := X.1
  have hb := X.2.1
  refine lv_istore (lv' := [(5, .int s0), (0, .ref (b + a0)), (1, .int x1), (2, .int x2), (3, .int x3), (4, .int x4)]) hx hb dX9_partings_128 hl (by decide) rfl (fun ls hl => ?_)
  refine lv_aload_n hx hb dX9_partings_130 rfl (lv_at hl 1 rfl) ?_
  obtain ⟨r1, e_r1, hf⟩ := ob hf
  refine r_getR X S fl_X9_44 e_r1 dX9_partings_131 ?_
  refine lv_iload hx hb dX9_partings_134 (lv_at hl 0 rfl) ?_
  refine lv_if_eq (tgt := 148) hx hb dX9_partings_136 (by decide) (fun hc => ?_) (fun hc => ?_)
  · replace hf := ip hf hc
    refine lv_iconst (v := 0) hx hb dX9_partings_148 (by decide) ?_
    exact w_X9_partings_b149 X Z hK48 _ _ _ _ _ _ _ _ _ hf _ _ _ S (lv_sub hl [1, 2, 3, 4, 5, 0] rfl)
  · replace hf := im hf hc
    refine lv_iload_n hx hb dX9_partings_139 rfl (lv_at hl 3 rfl) ?_
    refine lv_iconst (v := 1) hx hb dX9_partings_140 (by decide) ?_
    refine lv_iload hx hb dX9_partings_141 (lv_at hl 5 rfl) ?_
    refine lv_ishl hx hb dX9_partings_143 ?_
    refine lv_ior hx hb dX9_partings_144 ?_
    refine lv_goto (tgt := 149) hx hb dX9_partings_145 (by decide) ?_
    exact w_X9_partings_b149 X Z hK48 _ _ _ _ _ _ _ _ _ hf _ _ _ S (lv_sub hl [1, 2, 3, 4, 5, 0] rfl)
def f_X9_partings_b127 (K48 : Nat → Int32 → Int32 → Int32 → Int32 → HP → Option (Int32 × HP)) (a0 : Nat) (x1 : Int32) (x2 : Int32) (x3 : Int32) (x4 : Int32) (h : HP) : Option (Int32 × HP) :=
  f_X9_partings_b128 K48 a0 x1 x2 x3 x4 0 h
set_option maxRecDepth 100000 in
set_option maxHeartbeats 4000000 in
theorem w_X9_partings_b127 (X : CX RX9 cX9_partings 6 (some .int) p s m args meth c G b) {out : Int32 × HP} (Z : ZI p l e RM_X9_partings s m args below meth c cX9_partings G b False 0 0 Q out) {K48 : Nat → Int32 → Int32 → Int32 → Int32 → HP → Option (Int32 × HP)} (hK48 : ∀ (a0 : Nat) (x1 : Int32) (x2 : Int32) (x3 : Int32) (x4 : Int32) (h : HP), K48 a0 x1 x2 x3 x4 h = some out → ∀ (H : Heap) (locs : List Loc) (ls : Array Slot), ST G b False s h H locs → lv_has ls 6 [(0, .ref (b + a0)), (1, .int x1), (2, .int x2), (3, .int x3), (4, .int x4)] → W p l e RM_X9_partings s m args below meth c H locs 0 0 Q (F0 m 48 ls [])) : ∀ (a0 : Nat) (x1 : Int32) (x2 : Int32) (x3 : Int32) (x4 : Int32) (h : HP), f_X9_partings_b127 K48 a0 x1 x2 x3 x4 h = some out → ∀ (H : Heap) (locs : List Loc) (ls : Array Slot), ST G b False s h H locs → lv_has ls 6 [(0, .ref (b + a0)), (1, .int x1), (2, .int x2), (3, .int x3), (4, .int x4)] → W p l e RM_X9_partings s m args below meth c H locs 0 0 Q (F0 m 127 ls []) := by
  intro a0 x1 x2 x3 x4 h hf H locs ls S hl
  unfold f_X9_partings_b127 at hf
  have hx := X.1
  have hb := X.2.1
  refine lv_iconst (v := 0) hx hb dX9_partings_127 (by decide) ?_
  exact w_X9_partings_b128 X Z hK48 _ _ _ _ _ _ _ hf _ _ _ S (lv_sub hl [0, 1, 2, 3, 4] rfl)
def f_X9_partings_b174 (K30 : Nat → Int32 → Int32 → HP → Option (Int32 × HP)) (a0 : Nat) (x1 : Int32) (x2 : Int32) (h : HP) : Option (Int32 × HP) :=
  K30 a0 x1 (x2 + 1) h
set_option maxRecDepth 100000 in
set_option maxHeartbeats 4000000 in
theorem w_X9_partings_b174 (X : CX RX9 cX9_partings 6 (some .int) p s m args meth c G b) {out : Int32 × HP} (Z : ZI p l e RM_X9_partings s m args below meth c cX9_partings G b False 0 0 Q out) {K30 : Nat → Int32 → Int32 → HP → Option (Int32 × HP)} (hK30 : ∀ (a0 : Nat) (x1 : Int32) (x2 : Int32) (h : HP), K30 a0 x1 x2 h = some out → ∀ (H : Heap) (locs : List Loc) (ls : Array Slot), ST G b False s h H locs → lv_has ls 6 [(0, .ref (b + a0)), (1, .int x1), (2, .int x2)] → W p l e RM_X9_partings s m args below meth c H locs 0 0 Q (F0 m 30 ls [])) : ∀ (a0 : Nat) (x1 : Int32) (x2 : Int32) (h : HP), f_X9_partings_b174 K30 a0 x1 x2 h = some out → ∀ (H : Heap) (locs : List Loc) (ls : Array Slot), ST G b False s h H locs → lv_has ls 6 [(0, .ref (b + a0)), (1, .int x1), (2, .int x2)] → W p l e RM_X9_partings s m args below meth c H locs 0 0 Q (F0 m 174 ls []) := by
  intro a0 x1 x2 h hf H locs ls S hl
  unfold f_X9_partings_b174 at hf
  have hx := X.1
  have hb := X.2.1
  refine lv_iinc (v := x2 + 1) (lv' := [(2, .int (x2 + 1)), (0, .ref (b + a0)), (1, .int x1)]) hx hb dX9_partings_174 hl (k := 2) rfl rfl (by decide) rfl (fun ls hl => ?_)
  refine lv_goto (tgt := 30) hx hb dX9_partings_177 (by decide) ?_
  exact hK30 _ _ _ _ hf _ _ _ S (lv_sub hl [1, 2, 0] rfl)
def f_X9_partings_b48 (K30 : Nat → Int32 → Int32 → HP → Option (Int32 × HP)) (K48 : Nat → Int32 → Int32 → Int32 → Int32 → HP → Option (Int32 × HP)) (a0 : Nat) (x1 : Int32) (x2 : Int32) (x3 : Int32) (x4 : Int32) (h : HP) : Option (Int32 × HP) :=
  (gI h a0 9 2).bind fun v1 =>
  if v1 ≤ x4 then
    f_X9_partings_b174 K30 a0 x1 x2 h
  else
    if x3 = (-1) then
      f_X9_partings_b174 K30 a0 x1 x2 h
    else
      (gR h a0 9 27).bind fun r2 =>
      (ald h r2 x2).bind fun v3 =>
      if v3 ≤ 0 then
        f_X9_partings_b174 K30 a0 x1 x2 h
      else
        (f_X9_has x1 x4 h).bind fun q4 =>
        if q4.1 = 0 then
          f_X9_partings_b127 K48 a0 x1 x2 x3 x4 q4.2
        else
          (f_X9_has x2 x4 q4.2).bind fun q5 =>
          if q5.1 = 0 then
            (gR q5.2 a0 9 0).bind fun r6 =>
            (ald q5.2 r6 (54 + x4)).bind fun v7 =>
            (f_X9_rankOf a0 0 x3 v7 q5.2).bind fun q8 =>
            (gR q8.2 a0 9 0).bind fun r9 =>
            (ald q8.2 r9 (54 + x3)).bind fun v10 =>
            (f_X9_rankOf a0 0 x3 v10 q8.2).bind fun q11 =>
            if q11.1 < q8.1 then
              f_X9_partings_b127 K48 a0 x1 x2 x3 x4 q11.2
            else
              f_X9_partings_b128 K48 a0 x1 x2 x3 x4 1 q11.2
          else
            f_X9_partings_b127 K48 a0 x1 x2 x3 x4 q5.2
set_option maxRecDepth 100000 in
set_option maxHeartbeats 4000000 in
theorem w_X9_partings_b48 (X : CX RX9 cX9_partings 6 (some .int) p s m args meth c G b) {out : Int32 × HP} (Z : ZI p l e RM_X9_partings s m args below meth c cX9_partings G b False 0 0 Q out) {K30 : Nat → Int32 → Int32 → HP → Option (Int32 × HP)} (hK30 : ∀ (a0 : Nat) (x1 : Int32) (x2 : Int32) (h : HP), K30 a0 x1 x2 h = some out → ∀ (H : Heap) (locs : List Loc) (ls : Array Slot), ST G b False s h H locs → lv_has ls 6 [(0, .ref (b + a0)), (1, .int x1), (2, .int x2)] → W p l e RM_X9_partings s m args below meth c H locs 0 0 Q (F0 m 30 ls [])) {K48 : Nat → Int32 → Int32 → Int32 → Int32 → HP → Option (Int32 × HP)} (hK48 : ∀ (a0 : Nat) (x1 : Int32) (x2 : Int32) (x3 : Int32) (x4 : Int32) (h : HP), K48 a0 x1 x2 x3 x4 h = some out → ∀ (H : Heap) (locs : List Loc) (ls : Array Slot), ST G b False s h H locs → lv_has ls 6 [(0, .ref (b + a0)), (1, .int x1), (2, .int x2), (3, .int x3), (4, .int x4)] → W p l e RM_X9_partings s m args below meth c H locs 0 0 Q (F0 m 48 ls [])) : ∀ (a0 : Nat) (x1 : Int32) (x2 : Int32) (x3 : Int32) (x4 : Int32) (h : HP), f_X9_partings_b48 K30 K48 a0 x1 x2 x3 x4 h = some out → ∀ (H : Heap) (locs : List Loc) (ls : Array Slot), ST G b False s h H locs → lv_has ls 6 [(0, .ref (b + a0)), (1, .int x1), (2, .int x2), (3, .int x3), (4, .int x4)] → W p l e RM_X9_partings s m args below meth c H locs 0 0 Q (F0 m 48 ls []) := by
  intro a0 x1 x2 x3 x4 h hf H locs ls S hl
  unfold f_X9_partings_b48 at hf
  have hx := X.1
  have hb := X.2.1
  refine lv_iload hx hb dX9_partings_48 (lv_at hl 4 rfl) ?_
  refine lv_aload_n hx hb dX9_partings_50 rfl (lv_at hl 0 rfl) ?_
  obtain ⟨v1, e_v1, hf⟩ := ob hf
  refine r_getI X S fl_X9_51 e_v1 dX9_partings_51 ?_
  refine lv_icmp_ge (tgt := 174) hx hb dX9_partings_54 (by decide) (fun hc => ?_) (fun hc => ?_)
  · replace hf := ip hf hc
    exact w_X9_partings_b174 X Z hK30 _ _ _ _ hf _ _ _ S (lv_sub hl [0, 1, 2] rfl)
  · replace hf := im hf hc
    refine lv_iload_n hx hb dX9_partings_57 rfl (lv_at hl 3 rfl) ?_
    refine lv_iconst (v := (-1)) hx hb dX9_partings_58 (by decide) ?_
    refine lv_icmp_eq (tgt := 174) hx hb dX9_partings_59 (by decide) (fun hc => ?_) (fun hc => ?_)
    · replace hf := ip hf hc
      exact w_X9_partings_b174 X Z hK30 _ _ _ _ hf _ _ _ S (lv_sub hl [0, 1, 2] rfl)
    · replace hf := im hf hc
      refine lv_aload_n hx hb dX9_partings_62 rfl (lv_at hl 0 rfl) ?_
      obtain ⟨r2, e_r2, hf⟩ := ob hf
      refine r_getR X S fl_X9_44 e_r2 dX9_partings_63 ?_
      refine lv_iload_n hx hb dX9_partings_66 rfl (lv_at hl 2 rfl) ?_
      obtain ⟨v3, e_v3, hf⟩ := ob hf
      refine r_ald X S e_v3 dX9_partings_67 ?_
      refine lv_if_le (tgt := 174) hx hb dX9_partings_68 (by decide) (fun hc => ?_) (fun hc => ?_)
      · replace hf := ip hf hc
        exact w_X9_partings_b174 X Z hK30 _ _ _ _ hf _ _ _ S (lv_sub hl [0, 1, 2] rfl)
      · replace hf := im hf hc
        refine lv_iload_n hx hb dX9_partings_71 rfl (lv_at hl 1 rfl) ?_
        refine lv_iload hx hb dX9_partings_72 (lv_at hl 4 rfl) ?_
        obtain ⟨q4, e_q4, hf⟩ := ob hf
        refine r_callS X S hl.1 (As := [.int x1, .int x4]) (rest := []) (c_X9_has e_q4) my_X9_has ms_X9_has ml_X9_134 ⟨rfl, rfl, Nat.le_of_ble_eq_true rfl, Nat.le_of_ble_eq_true rfl⟩ rfl rfl (Nat.le_of_ble_eq_true rfl) dX9_partings_74 ⟨Nat.le_of_ble_eq_true rfl, Nat.le_of_ble_eq_true rfl⟩ (fun H locs S => ?_)
        refine W.eq (g2 := F0 m 77 ls [.int q4.1]) rfl ?_
        refine lv_if_eq (tgt := 127) hx hb dX9_partings_77 (by decide) (fun hc => ?_) (fun hc => ?_)
        · replace hf := ip hf hc
          exact w_X9_partings_b127 X Z hK48 _ _ _ _ _ _ hf _ _ _ S (lv_sub hl [0, 1, 2, 3, 4] rfl)
        · replace hf := im hf hc
          refine lv_iload_n hx hb dX9_partings_80 rfl (lv_at hl 2 rfl) ?_
          refine lv_iload hx hb dX9_partings_81 (lv_at hl 4 rfl) ?_
          obtain ⟨q5, e_q5, hf⟩ := ob hf
          refine r_callS X S hl.1 (As := [.int x2, .int x4]) (rest := []) (c_X9_has e_q5) my_X9_has ms_X9_has ml_X9_134 ⟨rfl, rfl, Nat.le_of_ble_eq_true rfl, Nat.le_of_ble_eq_true rfl⟩ rfl rfl (Nat.le_of_ble_eq_true rfl) dX9_partings_83 ⟨Nat.le_of_ble_eq_true rfl, Nat.le_of_ble_eq_true rfl⟩ (fun H locs S => ?_)
          refine W.eq (g2 := F0 m 86 ls [.int q5.1]) rfl ?_
          refine lv_if_ne (tgt := 127) hx hb dX9_partings_86 (by decide) (fun hc => ?_) (fun hc => ?_)
          · replace hf := im hf hc
            exact w_X9_partings_b127 X Z hK48 _ _ _ _ _ _ hf _ _ _ S (lv_sub hl [0, 1, 2, 3, 4] rfl)
          · replace hf := ip hf hc
            refine lv_aload_n hx hb dX9_partings_89 rfl (lv_at hl 0 rfl) ?_
            refine lv_iconst (v := 0) hx hb dX9_partings_90 (by decide) ?_
            refine lv_iload_n hx hb dX9_partings_91 rfl (lv_at hl 3 rfl) ?_
            refine lv_aload_n hx hb dX9_partings_92 rfl (lv_at hl 0 rfl) ?_
            obtain ⟨r6, e_r6, hf⟩ := ob hf
            refine r_getR X S fl_X9_7 e_r6 dX9_partings_93 ?_
            refine lv_bipush (v := 54) hx hb dX9_partings_96 (by decide) ?_
            refine lv_iload hx hb dX9_partings_98 (lv_at hl 4 rfl) ?_
            refine lv_iadd hx hb dX9_partings_100 ?_
            obtain ⟨v7, e_v7, hf⟩ := ob hf
            refine r_ald X S e_v7 dX9_partings_101 ?_
            obtain ⟨q8, e_q8, hf⟩ := ob hf
            refine r_callV X S hl.1 (As := [.int 0, .int x3, .int v7]) (rest := []) (c_X9_rankOf e_q8) my_X9_rankOf mv_X9_rankOf ml_X9_178 rfl (o_X9_rankOf e_q8) ⟨rfl, rfl, Nat.le_of_ble_eq_true rfl, Nat.le_of_ble_eq_true rfl⟩ rfl rfl (Nat.le_of_ble_eq_true rfl) dX9_partings_102 ⟨Nat.le_of_ble_eq_true rfl, Nat.le_of_ble_eq_true rfl⟩ (fun H locs S => ?_)
            refine W.eq (g2 := F0 m 105 ls [.int q8.1]) rfl ?_
            refine lv_aload_n hx hb dX9_partings_105 rfl (lv_at hl 0 rfl) ?_
            refine lv_iconst (v := 0) hx hb dX9_partings_106 (by decide) ?_
            refine lv_iload_n hx hb dX9_partings_107 rfl (lv_at hl 3 rfl) ?_
            refine lv_aload_n hx hb dX9_partings_108 rfl (lv_at hl 0 rfl) ?_
            obtain ⟨r9, e_r9, hf⟩ := ob hf
            refine r_getR X S fl_X9_7 e_r9 dX9_partings_109 ?_
            refine lv_bipush (v := 54) hx hb dX9_partings_112 (by decide) ?_
            refine lv_iload_n hx hb dX9_partings_114 rfl (lv_at hl 3 rfl) ?_
            refine lv_iadd hx hb dX9_partings_115 ?_
            obtain ⟨v10, e_v10, hf⟩ := ob hf
            refine r_ald X S e_v10 dX9_partings_116 ?_
            obtain ⟨q11, e_q11, hf⟩ := ob hf
            refine r_callV X S hl.1 (As := [.int 0, .int x3, .int v10]) (rest := [.int q8.1]) (c_X9_rankOf e_q11) my_X9_rankOf mv_X9_rankOf ml_X9_178 rfl (o_X9_rankOf e_q11) ⟨rfl, rfl, Nat.le_of_ble_eq_true rfl, Nat.le_of_ble_eq_true rfl⟩ rfl rfl (Nat.le_of_ble_eq_true rfl) dX9_partings_117 ⟨Nat.le_of_ble_eq_true rfl, Nat.le_of_ble_eq_true rfl⟩ (fun H locs S => ?_)
            refine W.eq (g2 := F0 m 120 ls [.int q11.1, .int q8.1]) rfl ?_
            refine lv_icmp_gt (tgt := 127) hx hb dX9_partings_120 (by decide) (fun hc => ?_) (fun hc => ?_)
            · replace hf := ip hf hc
              exact w_X9_partings_b127 X Z hK48 _ _ _ _ _ _ hf _ _ _ S (lv_sub hl [0, 1, 2, 3, 4] rfl)
            · replace hf := im hf hc
              refine lv_iconst (v := 1) hx hb dX9_partings_123 (by decide) ?_
              refine lv_goto (tgt := 128) hx hb dX9_partings_124 (by decide) ?_
              exact w_X9_partings_b128 X Z hK48 _ _ _ _ _ _ _ hf _ _ _ S (lv_sub hl [0, 1, 2, 3, 4] rfl)
def F_X9_partings_48 (K30 : Nat → Int32 → Int32 → HP → Option (Int32 × HP)) : Nat → Nat → Int32 → Int32 → Int32 → Int32 → HP → Option (Int32 × HP)
  | 0 => fun _ _ _ _ _ _ => none
  | n + 1 => fun a0 x1 x2 x3 x4 h => f_X9_partings_b48 K30 (F_X9_partings_48 K30 n) a0 x1 x2 x3 x4 h
theorem wl_X9_partings_48 (X : CX RX9 cX9_partings 6 (some .int) p s m args meth c G b) {out : Int32 × HP} (Z : ZI p l e RM_X9_partings s m args below meth c cX9_partings G b False 0 0 Q out) {K30 : Nat → Int32 → Int32 → HP → Option (Int32 × HP)} (hK30 : ∀ (a0 : Nat) (x1 : Int32) (x2 : Int32) (h : HP), K30 a0 x1 x2 h = some out → ∀ (H : Heap) (locs : List Loc) (ls : Array Slot), ST G b False s h H locs → lv_has ls 6 [(0, .ref (b + a0)), (1, .int x1), (2, .int x2)] → W p l e RM_X9_partings s m args below meth c H locs 0 0 Q (F0 m 30 ls [])) : ∀ (n : Nat) (a0 : Nat) (x1 : Int32) (x2 : Int32) (x3 : Int32) (x4 : Int32) (h : HP), F_X9_partings_48 K30 n a0 x1 x2 x3 x4 h = some out → ∀ (H : Heap) (locs : List Loc) (ls : Array Slot), ST G b False s h H locs → lv_has ls 6 [(0, .ref (b + a0)), (1, .int x1), (2, .int x2), (3, .int x3), (4, .int x4)] → W p l e RM_X9_partings s m args below meth c H locs 0 0 Q (F0 m 48 ls []) := by
  intro n
  induction n with
  | zero => intro a0 x1 x2 x3 x4 h hf; exact nn hf
  | succ n ih => exact w_X9_partings_b48 X Z hK30 ih
def f_X9_partings_b30 (K30 : Nat → Int32 → Int32 → HP → Option (Int32 × HP)) (a0 : Nat) (x1 : Int32) (x2 : Int32) (h : HP) : Option (Int32 × HP) :=
  if 64 ≤ x2 then
    (gR h a0 9 27).bind fun r1 =>
    (ald h r1 x1).bind fun v2 =>
    some (v2, h)
  else
    (f_X9_bits x2 h).bind fun q3 =>
    (f_X9_personAt x1 q3.1 q3.2).bind fun q4 =>
    F_X9_partings_48 K30 FU a0 x1 x2 q4.1 0 q4.2
set_option maxRecDepth 100000 in
set_option maxHeartbeats 4000000 in
theorem w_X9_partings_b30 (X : CX RX9 cX9_partings 6 (some .int) p s m args meth c G b) {out : Int32 × HP} (Z : ZI p l e RM_X9_partings s m args below meth c cX9_partings G b False 0 0 Q out) {K30 : Nat → Int32 → Int32 → HP → Option (Int32 × HP)} (hK30 : ∀ (a0 : Nat) (x1 : Int32) (x2 : Int32) (h : HP), K30 a0 x1 x2 h = some out → ∀ (H : Heap) (locs : List Loc) (ls : Array Slot), ST G b False s h H locs → lv_has ls 6 [(0, .ref (b + a0)), (1, .int x1), (2, .int x2)] → W p l e RM_X9_partings s m args below meth c H locs 0 0 Q (F0 m 30 ls [])) : ∀ (a0 : Nat) (x1 : Int32) (x2 : Int32) (h : HP), f_X9_partings_b30 K30 a0 x1 x2 h = some out → ∀ (H : Heap) (locs : List Loc) (ls : Array Slot), ST G b False s h H locs → lv_has ls 6 [(0, .ref (b + a0)), (1, .int x1), (2, .int x2)] → W p l e RM_X9_partings s m args below meth c H locs 0 0 Q (F0 m 30 ls []) := by
  intro a0 x1 x2 h hf H locs ls S hl
  unfold f_X9_partings_b30 at hf
  have hx := X.1
  have hb := X.2.1
  refine lv_iload_n hx hb dX9_partings_30 rfl (lv_at hl 2 rfl) ?_
  refine lv_bipush (v := 64) hx hb dX9_partings_31 (by decide) ?_
  refine lv_icmp_ge (tgt := 180) hx hb dX9_partings_33 (by decide) (fun hc => ?_) (fun hc => ?_)
  · replace hf := ip hf hc
    refine lv_aload_n hx hb dX9_partings_180 rfl (lv_at hl 0 rfl) ?_
    obtain ⟨r1, e_r1, hf⟩ := ob hf
    refine r_getR X S fl_X9_44 e_r1 dX9_partings_181 ?_
    refine lv_iload_n hx hb dX9_partings_184 rfl (lv_at hl 1 rfl) ?_
    obtain ⟨v2, e_v2, hf⟩ := ob hf
    refine r_ald X S e_v2 dX9_partings_185 ?_
    obtain rfl := Option.some.inj hf
    exact Z _ _ _ _ dX9_partings_186 S
  · replace hf := im hf hc
    refine lv_iload_n hx hb dX9_partings_36 rfl (lv_at hl 1 rfl) ?_
    refine lv_iload_n hx hb dX9_partings_37 rfl (lv_at hl 2 rfl) ?_
    obtain ⟨q3, e_q3, hf⟩ := ob hf
    refine r_callS X S hl.1 (As := [.int x2]) (rest := [.int x1]) (c_X9_bits e_q3) my_X9_bits ms_X9_bits ml_X9_172 ⟨rfl, rfl, Nat.le_of_ble_eq_true rfl, Nat.le_of_ble_eq_true rfl⟩ rfl rfl (Nat.le_of_ble_eq_true rfl) dX9_partings_38 ⟨Nat.le_of_ble_eq_true rfl, Nat.le_of_ble_eq_true rfl⟩ (fun H locs S => ?_)
    refine W.eq (g2 := F0 m 41 ls [.int q3.1, .int x1]) rfl ?_
    obtain ⟨q4, e_q4, hf⟩ := ob hf
    refine r_callS X S hl.1 (As := [.int x1, .int q3.1]) (rest := []) (c_X9_personAt e_q4) my_X9_personAt ms_X9_personAt ml_X9_175 ⟨rfl, rfl, Nat.le_of_ble_eq_true rfl, Nat.le_of_ble_eq_true rfl⟩ rfl rfl (Nat.le_of_ble_eq_true rfl) dX9_partings_41 ⟨Nat.le_of_ble_eq_true rfl, Nat.le_of_ble_eq_true rfl⟩ (fun H locs S => ?_)
    refine W.eq (g2 := F0 m 44 ls [.int q4.1]) rfl ?_
    refine lv_istore_n (lv' := [(3, .int q4.1), (0, .ref (b + a0)), (1, .int x1), (2, .int x2)]) hx hb dX9_partings_44 rfl hl (by decide) rfl (fun ls hl => ?_)
    refine lv_iconst (v := 0) hx hb dX9_partings_45 (by decide) ?_
    refine lv_istore (lv' := [(4, .int 0), (3, .int q4.1), (0, .ref (b + a0)), (1, .int x1), (2, .int x2)]) hx hb dX9_partings_46 hl (by decide) rfl (fun ls hl => ?_)
    exact wl_X9_partings_48 X Z hK30 FU _ _ _ _ _ _ hf _ _ _ S (lv_sub hl [2, 3, 4, 1, 0] rfl)
def F_X9_partings_30  : Nat → Nat → Int32 → Int32 → HP → Option (Int32 × HP)
  | 0 => fun _ _ _ _ => none
  | n + 1 => fun a0 x1 x2 h => f_X9_partings_b30 (F_X9_partings_30  n) a0 x1 x2 h
theorem wl_X9_partings_30 (X : CX RX9 cX9_partings 6 (some .int) p s m args meth c G b) {out : Int32 × HP} (Z : ZI p l e RM_X9_partings s m args below meth c cX9_partings G b False 0 0 Q out)  : ∀ (n : Nat) (a0 : Nat) (x1 : Int32) (x2 : Int32) (h : HP), F_X9_partings_30  n a0 x1 x2 h = some out → ∀ (H : Heap) (locs : List Loc) (ls : Array Slot), ST G b False s h H locs → lv_has ls 6 [(0, .ref (b + a0)), (1, .int x1), (2, .int x2)] → W p l e RM_X9_partings s m args below meth c H locs 0 0 Q (F0 m 30 ls []) := by
  intro n
  induction n with
  | zero => intro a0 x1 x2 h hf; exact nn hf
  | succ n ih => exact w_X9_partings_b30 X Z ih
def f_X9_partings_b2 (K2 : Nat → Int32 → Int32 → HP → Option (Int32 × HP)) (a0 : Nat) (x1 : Int32) (x2 : Int32) (h : HP) : Option (Int32 × HP) :=
  if 64 ≤ x2 then
    (gR h a0 9 27).bind fun r1 =>
    (ast h r1 0 1).bind fun h2 =>
    F_X9_partings_30  FU a0 x1 0 h2
  else
    (gR h a0 9 27).bind fun r3 =>
    (ast h r3 x2 0).bind fun h4 =>
    K2 a0 x1 (x2 + 1) h4
set_option maxRecDepth 100000 in
set_option maxHeartbeats 4000000 in
theorem w_X9_partings_b2 (X : CX RX9 cX9_partings 6 (some .int) p s m args meth c G b) {out : Int32 × HP} (Z : ZI p l e RM_X9_partings s m args below meth c cX9_partings G b False 0 0 Q out) {K2 : Nat → Int32 → Int32 → HP → Option (Int32 × HP)} (hK2 : ∀ (a0 : Nat) (x1 : Int32) (x2 : Int32) (h : HP), K2 a0 x1 x2 h = some out → ∀ (H : Heap) (locs : List Loc) (ls : Array Slot), ST G b False s h H locs → lv_has ls 6 [(0, .ref (b + a0)), (1, .int x1), (2, .int x2)] → W p l e RM_X9_partings s m args below meth c H locs 0 0 Q (F0 m 2 ls [])) : ∀ (a0 : Nat) (x1 : Int32) (x2 : Int32) (h : HP), f_X9_partings_b2 K2 a0 x1 x2 h = some out → ∀ (H : Heap) (locs : List Loc) (ls : Array Slot), ST G b False s h H locs → lv_has ls 6 [(0, .ref (b + a0)), (1, .int x1), (2, .int x2)] → W p l e RM_X9_partings s m args below meth c H locs 0 0 Q (F0 m 2 ls []) := by
  intro a0 x1 x2 h hf H locs ls S hl
  unfold f_X9_partings_b2 at hf
  have hx := X.1
  have hb := X.2.1
  refine lv_iload_n hx hb dX9_partings_2 rfl (lv_at hl 2 rfl) ?_
  refine lv_bipush (v := 64) hx hb dX9_partings_3 (by decide) ?_
  refine lv_icmp_ge (tgt := 21) hx hb dX9_partings_5 (by decide) (fun hc => ?_) (fun hc => ?_)
  · replace hf := ip hf hc
    refine lv_aload_n hx hb dX9_partings_21 rfl (lv_at hl 0 rfl) ?_
    obtain ⟨r1, e_r1, hf⟩ := ob hf
    refine r_getR X S fl_X9_44 e_r1 dX9_partings_22 ?_
    refine lv_iconst (v := 0) hx hb dX9_partings_25 (by decide) ?_
    refine lv_iconst (v := 1) hx hb dX9_partings_26 (by decide) ?_
    obtain ⟨h2, e_h2, hf⟩ := ob hf
    refine r_ast X S e_h2 dX9_partings_27 (fun H locs S => ?_)
    refine lv_iconst (v := 0) hx hb dX9_partings_28 (by decide) ?_
    refine lv_istore_n (lv' := [(2, .int 0), (0, .ref (b + a0)), (1, .int x1)]) hx hb dX9_partings_29 rfl hl (by decide) rfl (fun ls hl => ?_)
    exact wl_X9_partings_30 X Z  FU _ _ _ _ hf _ _ _ S (lv_sub hl [1, 2, 0] rfl)
  · replace hf := im hf hc
    refine lv_aload_n hx hb dX9_partings_8 rfl (lv_at hl 0 rfl) ?_
    obtain ⟨r3, e_r3, hf⟩ := ob hf
    refine r_getR X S fl_X9_44 e_r3 dX9_partings_9 ?_
    refine lv_iload_n hx hb dX9_partings_12 rfl (lv_at hl 2 rfl) ?_
    refine lv_iconst (v := 0) hx hb dX9_partings_13 (by decide) ?_
    obtain ⟨h4, e_h4, hf⟩ := ob hf
    refine r_ast X S e_h4 dX9_partings_14 (fun H locs S => ?_)
    refine lv_iinc (v := x2 + 1) (lv' := [(2, .int (x2 + 1)), (0, .ref (b + a0)), (1, .int x1)]) hx hb dX9_partings_15 hl (k := 2) rfl rfl (by decide) rfl (fun ls hl => ?_)
    refine lv_goto (tgt := 2) hx hb dX9_partings_18 (by decide) ?_
    exact hK2 _ _ _ _ hf _ _ _ S (lv_sub hl [1, 2, 0] rfl)
def F_X9_partings_2  : Nat → Nat → Int32 → Int32 → HP → Option (Int32 × HP)
  | 0 => fun _ _ _ _ => none
  | n + 1 => fun a0 x1 x2 h => f_X9_partings_b2 (F_X9_partings_2  n) a0 x1 x2 h
theorem wl_X9_partings_2 (X : CX RX9 cX9_partings 6 (some .int) p s m args meth c G b) {out : Int32 × HP} (Z : ZI p l e RM_X9_partings s m args below meth c cX9_partings G b False 0 0 Q out)  : ∀ (n : Nat) (a0 : Nat) (x1 : Int32) (x2 : Int32) (h : HP), F_X9_partings_2  n a0 x1 x2 h = some out → ∀ (H : Heap) (locs : List Loc) (ls : Array Slot), ST G b False s h H locs → lv_has ls 6 [(0, .ref (b + a0)), (1, .int x1), (2, .int x2)] → W p l e RM_X9_partings s m args below meth c H locs 0 0 Q (F0 m 2 ls []) := by
  intro n
  induction n with
  | zero => intro a0 x1 x2 h hf; exact nn hf
  | succ n ih => exact w_X9_partings_b2 X Z ih
def f_X9_partings_e  (a0 : Nat) (x1 : Int32) (h : HP) : Option (Int32 × HP) :=
  F_X9_partings_2  FU a0 x1 0 h
set_option maxRecDepth 100000 in
set_option maxHeartbeats 4000000 in
theorem w_X9_partings_e (X : CX RX9 cX9_partings 6 (some .int) p s m args meth c G b) {out : Int32 × HP} (Z : ZI p l e RM_X9_partings s m args below meth c cX9_partings G b False 0 0 Q out)  : ∀ (a0 : Nat) (x1 : Int32) (h : HP), f_X9_partings_e  a0 x1 h = some out → ∀ (H : Heap) (locs : List Loc) (ls : Array Slot), ST G b False s h H locs → lv_has ls 6 [(0, .ref (b + a0)), (1, .int x1)] → W p l e RM_X9_partings s m args below meth c H locs 0 0 Q (F0 m 0 ls []) := by
  intro a0 x1 h hf H locs ls S hl
  unfold f_X9_partings_e at hf
  have hx := X.1
  have hb := X.2.1
  refine lv_iconst (v := 0) hx hb dX9_partings_0 (by decide) ?_
  refine lv_istore_n (lv' := [(2, .int 0), (0, .ref (b + a0)), (1, .int x1)]) hx hb dX9_partings_1 rfl hl (by decide) rfl (fun ls hl => ?_)
  exact wl_X9_partings_2 X Z  FU _ _ _ _ hf _ _ _ S (lv_sub hl [1, 2, 0] rfl)
def f_X9_partings (a0 : Nat) (x1 : Int32) (h : HP) : Option (Int32 × HP) := ck h a0 9 (f_X9_partings_e a0 x1 h)
theorem o_X9_partings {a0 : Nat} {x1 : Int32} {h : HP} {out : Int32 × HP} (hf : f_X9_partings a0 x1 h = some out) : ∃ fs, h[a0]? = some (.inl (9, fs)) := (ck_spec hf).1
set_option maxRecDepth 100000 in
theorem c_X9_partings {l : Launch} {G : GT} {b : Nat} {a0 : Nat} {x1 : Int32} {h : HP} {out : Int32 × HP} (hf : f_X9_partings a0 x1 h = some out) : MT l G b False False yX9_partings cX9_partings 6 (some .int) RM_X9_partings [.ref (b + a0), .int x1] h (some (.int out.1)) out.2 0 0 := by
  refine met_of (by decide) (Nat.le_of_ble_eq_true rfl) ?_
  intro p e s m below meth c ls X hnm S hl
  have hl : lv_has ls 6 [(0, .ref (b + a0)), (1, .int x1)] := hl
  replace hf := (ck_spec hf).2
  exact w_X9_partings_e X (z_i X) _ _ _ hf _ _ _ S hl
/-! RoomRingsModel.sitters()I -/
abbrev RM_X9_sitters : Room := { frames := 0, cells := 0, slots := 0, locals := 0 }
def f_X9_sitters_b33 (K4 : Nat → Int32 → Int32 → HP → Option (Int32 × HP)) (a0 : Nat) (x2 : Int32) (s0 : Int32) (s1 : Int32) (h : HP) : Option (Int32 × HP) :=
  K4 a0 (s0 ||| s1) (x2 + 1) h
set_option maxRecDepth 100000 in
set_option maxHeartbeats 4000000 in
theorem w_X9_sitters_b33 (X : CX RX9 cX9_sitters 3 (some .int) p s m args meth c G b) {out : Int32 × HP} (Z : ZI p l e RM_X9_sitters s m args below meth c cX9_sitters G b False 0 0 Q out) {K4 : Nat → Int32 → Int32 → HP → Option (Int32 × HP)} (hK4 : ∀ (a0 : Nat) (x1 : Int32) (x2 : Int32) (h : HP), K4 a0 x1 x2 h = some out → ∀ (H : Heap) (locs : List Loc) (ls : Array Slot), ST G b False s h H locs → lv_has ls 3 [(0, .ref (b + a0)), (1, .int x1), (2, .int x2)] → W p l e RM_X9_sitters s m args below meth c H locs 0 0 Q (F0 m 4 ls [])) : ∀ (a0 : Nat) (x2 : Int32) (s0 : Int32) (s1 : Int32) (h : HP), f_X9_sitters_b33 K4 a0 x2 s0 s1 h = some out → ∀ (H : Heap) (locs : List Loc) (ls : Array Slot), ST G b False s h H locs → lv_has ls 3 [(0, .ref (b + a0)), (2, .int x2)] → W p l e RM_X9_sitters s m args below meth c H locs 0 0 Q (F0 m 33 ls [.int s1, .int s0]) := by
  intro a0 x2 s0 s1 h hf H locs ls S hl
  unfold f_X9_sitters_b33 at hf
  have hx := X.1
  have hb := X.2.1
  refine lv_ior hx hb dX9_sitters_33 ?_
  refine lv_istore_n (lv' := [(1, .int (s0 ||| s1)), (0, .ref (b + a0)), (2, .int x2)]) hx hb dX9_sitters_34 rfl hl (by decide) rfl (fun ls hl => ?_)
  refine lv_iinc (v := x2 + 1) (lv' := [(2, .int (x2 + 1)), (1, .int (s0 ||| s1)), (0, .ref (b + a0))]) hx hb dX9_sitters_35 hl (k := 2) rfl rfl (by decide) rfl (fun ls hl => ?_)
  refine lv_goto (tgt := 4) hx hb dX9_sitters_38 (by decide) ?_
  exact hK4 _ _ _ _ hf _ _ _ S (lv_sub hl [2, 1, 0] rfl)
def f_X9_sitters_b4 (K4 : Nat → Int32 → Int32 → HP → Option (Int32 × HP)) (a0 : Nat) (x1 : Int32) (x2 : Int32) (h : HP) : Option (Int32 × HP) :=
  (gI h a0 9 2).bind fun v1 =>
  if v1 ≤ x2 then
    some (x1, h)
  else
    (gR h a0 9 0).bind fun r2 =>
    (ald h r2 (54 + x2)).bind fun v3 =>
    if v3 = (-1) then
      f_X9_sitters_b33 K4 a0 x2 x1 0 h
    else
      f_X9_sitters_b33 K4 a0 x2 x1 (1 <<< (x2 &&& 31)) h
set_option maxRecDepth 100000 in
set_option maxHeartbeats 4000000 in
theorem w_X9_sitters_b4 (X : CX RX9 cX9_sitters 3 (some .int) p s m args meth c G b) {out : Int32 × HP} (Z : ZI p l e RM_X9_sitters s m args below meth c cX9_sitters G b False 0 0 Q out) {K4 : Nat → Int32 → Int32 → HP → Option (Int32 × HP)} (hK4 : ∀ (a0 : Nat) (x1 : Int32) (x2 : Int32) (h : HP), K4 a0 x1 x2 h = some out → ∀ (H : Heap) (locs : List Loc) (ls : Array Slot), ST G b False s h H locs → lv_has ls 3 [(0, .ref (b + a0)), (1, .int x1), (2, .int x2)] → W p l e RM_X9_sitters s m args below meth c H locs 0 0 Q (F0 m 4 ls [])) : ∀ (a0 : Nat) (x1 : Int32) (x2 : Int32) (h : HP), f_X9_sitters_b4 K4 a0 x1 x2 h = some out → ∀ (H : Heap) (locs : List Loc) (ls : Array Slot), ST G b False s h H locs → lv_has ls 3 [(0, .ref (b + a0)), (1, .int x1), (2, .int x2)] → W p l e RM_X9_sitters s m args below meth c H locs 0 0 Q (F0 m 4 ls []) := by
  intro a0 x1 x2 h hf H locs ls S hl
  unfold f_X9_sitters_b4 at hf
  have hx := X.1
  have hb := X.2.1
  refine lv_iload_n hx hb dX9_sitters_4 rfl (lv_at hl 2 rfl) ?_
  refine lv_aload_n hx hb dX9_sitters_5 rfl (lv_at hl 0 rfl) ?_
  obtain ⟨v1, e_v1, hf⟩ := ob hf
  refine r_getI X S fl_X9_51 e_v1 dX9_sitters_6 ?_
  refine lv_icmp_ge (tgt := 41) hx hb dX9_sitters_9 (by decide) (fun hc => ?_) (fun hc => ?_)
  · replace hf := ip hf hc
    refine lv_iload_n hx hb dX9_sitters_41 rfl (lv_at hl 1 rfl) ?_
    obtain rfl := Option.some.inj hf
    exact Z _ _ _ _ dX9_sitters_42 S
  · replace hf := im hf hc
    refine lv_iload_n hx hb dX9_sitters_12 rfl (lv_at hl 1 rfl) ?_
    refine lv_aload_n hx hb dX9_sitters_13 rfl (lv_at hl 0 rfl) ?_
    obtain ⟨r2, e_r2, hf⟩ := ob hf
    refine r_getR X S fl_X9_7 e_r2 dX9_sitters_14 ?_
    refine lv_bipush (v := 54) hx hb dX9_sitters_17 (by decide) ?_
    refine lv_iload_n hx hb dX9_sitters_19 rfl (lv_at hl 2 rfl) ?_
    refine lv_iadd hx hb dX9_sitters_20 ?_
    obtain ⟨v3, e_v3, hf⟩ := ob hf
    refine r_ald X S e_v3 dX9_sitters_21 ?_
    refine lv_iconst (v := (-1)) hx hb dX9_sitters_22 (by decide) ?_
    refine lv_icmp_ne (tgt := 30) hx hb dX9_sitters_23 (by decide) (fun hc => ?_) (fun hc => ?_)
    · replace hf := im hf hc
      refine lv_iconst (v := 1) hx hb dX9_sitters_30 (by decide) ?_
      refine lv_iload_n hx hb dX9_sitters_31 rfl (lv_at hl 2 rfl) ?_
      refine lv_ishl hx hb dX9_sitters_32 ?_
      exact w_X9_sitters_b33 X Z hK4 _ _ _ _ _ hf _ _ _ S (lv_sub hl [0, 2] rfl)
    · replace hf := ip hf hc
      refine lv_iconst (v := 0) hx hb dX9_sitters_26 (by decide) ?_
      refine lv_goto (tgt := 33) hx hb dX9_sitters_27 (by decide) ?_
      exact w_X9_sitters_b33 X Z hK4 _ _ _ _ _ hf _ _ _ S (lv_sub hl [0, 2] rfl)
def F_X9_sitters_4  : Nat → Nat → Int32 → Int32 → HP → Option (Int32 × HP)
  | 0 => fun _ _ _ _ => none
  | n + 1 => fun a0 x1 x2 h => f_X9_sitters_b4 (F_X9_sitters_4  n) a0 x1 x2 h
theorem wl_X9_sitters_4 (X : CX RX9 cX9_sitters 3 (some .int) p s m args meth c G b) {out : Int32 × HP} (Z : ZI p l e RM_X9_sitters s m args below meth c cX9_sitters G b False 0 0 Q out)  : ∀ (n : Nat) (a0 : Nat) (x1 : Int32) (x2 : Int32) (h : HP), F_X9_sitters_4  n a0 x1 x2 h = some out → ∀ (H : Heap) (locs : List Loc) (ls : Array Slot), ST G b False s h H locs → lv_has ls 3 [(0, .ref (b + a0)), (1, .int x1), (2, .int x2)] → W p l e RM_X9_sitters s m args below meth c H locs 0 0 Q (F0 m 4 ls []) := by
  intro n
  induction n with
  | zero => intro a0 x1 x2 h hf; exact nn hf
  | succ n ih => exact w_X9_sitters_b4 X Z ih
def f_X9_sitters_e  (a0 : Nat) (h : HP) : Option (Int32 × HP) :=
  F_X9_sitters_4  FU a0 0 0 h
set_option maxRecDepth 100000 in
set_option maxHeartbeats 4000000 in
theorem w_X9_sitters_e (X : CX RX9 cX9_sitters 3 (some .int) p s m args meth c G b) {out : Int32 × HP} (Z : ZI p l e RM_X9_sitters s m args below meth c cX9_sitters G b False 0 0 Q out)  : ∀ (a0 : Nat) (h : HP), f_X9_sitters_e  a0 h = some out → ∀ (H : Heap) (locs : List Loc) (ls : Array Slot), ST G b False s h H locs → lv_has ls 3 [(0, .ref (b + a0))] → W p l e RM_X9_sitters s m args below meth c H locs 0 0 Q (F0 m 0 ls []) := by
  intro a0 h hf H locs ls S hl
  unfold f_X9_sitters_e at hf
  have hx := X.1
  have hb := X.2.1
  refine lv_iconst (v := 0) hx hb dX9_sitters_0 (by decide) ?_
  refine lv_istore_n (lv' := [(1, .int 0), (0, .ref (b + a0))]) hx hb dX9_sitters_1 rfl hl (by decide) rfl (fun ls hl => ?_)
  refine lv_iconst (v := 0) hx hb dX9_sitters_2 (by decide) ?_
  refine lv_istore_n (lv' := [(2, .int 0), (1, .int 0), (0, .ref (b + a0))]) hx hb dX9_sitters_3 rfl hl (by decide) rfl (fun ls hl => ?_)
  exact wl_X9_sitters_4 X Z  FU _ _ _ _ hf _ _ _ S (lv_sub hl [2, 1, 0] rfl)
def f_X9_sitters (a0 : Nat) (h : HP) : Option (Int32 × HP) := ck h a0 9 (f_X9_sitters_e a0 h)
theorem o_X9_sitters {a0 : Nat} {h : HP} {out : Int32 × HP} (hf : f_X9_sitters a0 h = some out) : ∃ fs, h[a0]? = some (.inl (9, fs)) := (ck_spec hf).1
set_option maxRecDepth 100000 in
theorem c_X9_sitters {l : Launch} {G : GT} {b : Nat} {a0 : Nat} {h : HP} {out : Int32 × HP} (hf : f_X9_sitters a0 h = some out) : MT l G b False False yX9_sitters cX9_sitters 3 (some .int) RM_X9_sitters [.ref (b + a0)] h (some (.int out.1)) out.2 0 0 := by
  refine met_of (by decide) (Nat.le_of_ble_eq_true rfl) ?_
  intro p e s m below meth c ls X hnm S hl
  have hl : lv_has ls 3 [(0, .ref (b + a0))] := hl
  replace hf := (ck_spec hf).2
  exact w_X9_sitters_e X (z_i X) _ _ hf _ _ _ S hl
/-! RoomRingsModel.groups(Z)I -/
abbrev RM_X9_groups : Room := { frames := 3, cells := 0, slots := 0, locals := 76 }
def f_X9_groups_b67 (K7 : Nat → Int32 → Int32 → Int32 → Int32 → HP → Option (Int32 × HP)) (a0 : Nat) (x1 : Int32) (x2 : Int32) (x3 : Int32) (x4 : Int32) (h : HP) : Option (Int32 × HP) :=
  K7 a0 x1 x2 x3 (x4 + 1) h
set_option maxRecDepth 100000 in
set_option maxHeartbeats 4000000 in
theorem w_X9_groups_b67 (X : CX RX9 cX9_groups 5 (some .int) p s m args meth c G b) {out : Int32 × HP} (Z : ZI p l e RM_X9_groups s m args below meth c cX9_groups G b False 0 0 Q out) {K7 : Nat → Int32 → Int32 → Int32 → Int32 → HP → Option (Int32 × HP)} (hK7 : ∀ (a0 : Nat) (x1 : Int32) (x2 : Int32) (x3 : Int32) (x4 : Int32) (h : HP), K7 a0 x1 x2 x3 x4 h = some out → ∀ (H : Heap) (locs : List Loc) (ls : Array Slot), ST G b False s h H locs → lv_has ls 5 [(0, .ref (b + a0)), (1, .int x1), (2, .int x2), (3, .int x3), (4, .int x4)] → W p l e RM_X9_groups s m args below meth c H locs 0 0 Q (F0 m 7 ls [])) : ∀ (a0 : Nat) (x1 : Int32) (x2 : Int32) (x3 : Int32) (x4 : Int32) (h : HP), f_X9_groups_b67 K7 a0 x1 x2 x3 x4 h = some out → ∀ (H : Heap) (locs : List Loc) (ls : Array Slot), ST G b False s h H locs → lv_has ls 5 [(0, .ref (b + a0)), (1, .int x1), (2, .int x2), (3, .int x3), (4, .int x4)] → W p l e RM_X9_groups s m args below meth c H locs 0 0 Q (F0 m 67 ls []) := by
  intro a0 x1 x2 x3 x4 h hf H locs ls S hl
  unfold f_X9_groups_b67 at hf
  have hx := X.1
  have hb := X.2.1
  refine lv_iinc (v := x4 + 1) (lv' := [(4, .int (x4 + 1)), (0, .ref (b + a0)), (1, .int x1), (2, .int x2), (3, .int x3)]) hx hb dX9_groups_67 hl (k := 4) rfl rfl (by decide) rfl (fun ls hl => ?_)
  refine lv_goto (tgt := 7) hx hb dX9_groups_70 (by decide) ?_
  exact hK7 _ _ _ _ _ _ hf _ _ _ S (lv_sub hl [1, 2, 3, 4, 0] rfl)
def f_X9_groups_b66 (K7 : Nat → Int32 → Int32 → Int32 → Int32 → HP → Option (Int32 × HP)) (a0 : Nat) (x1 : Int32) (x3 : Int32) (x4 : Int32) (s0 : Int32) (h : HP) : Option (Int32 × HP) :=
  f_X9_groups_b67 K7 a0 x1 s0 x3 x4 h
set_option maxRecDepth 100000 in
set_option maxHeartbeats 4000000 in
theorem w_X9_groups_b66 (X : CX RX9 cX9_groups 5 (some .int) p s m args meth c G b) {out : Int32 × HP} (Z : ZI p l e RM_X9_groups s m args below meth c cX9_groups G b False 0 0 Q out) {K7 : Nat → Int32 → Int32 → Int32 → Int32 → HP → Option (Int32 × HP)} (hK7 : ∀ (a0 : Nat) (x1 : Int32) (x2 : Int32) (x3 : Int32) (x4 : Int32) (h : HP), K7 a0 x1 x2 x3 x4 h = some out → ∀ (H : Heap) (locs : List Loc) (ls : Array Slot), ST G b False s h H locs → lv_has ls 5 [(0, .ref (b + a0)), (1, .int x1), (2, .int x2), (3, .int x3), (4, .int x4)] → W p l e RM_X9_groups s m args below meth c H locs 0 0 Q (F0 m 7 ls [])) : ∀ (a0 : Nat) (x1 : Int32) (x3 : Int32) (x4 : Int32) (s0 : Int32) (h : HP), f_X9_groups_b66 K7 a0 x1 x3 x4 s0 h = some out → ∀ (H : Heap) (locs : List Loc) (ls : Array Slot), ST G b False s h H locs → lv_has ls 5 [(0, .ref (b + a0)), (1, .int x1), (3, .int x3), (4, .int x4)] → W p l e RM_X9_groups s m args below meth c H locs 0 0 Q (F0 m 66 ls [.int s0]) := by
  intro a0 x1 x3 x4 s0 h hf H locs ls S hl
  unfold f_X9_groups_b66 at hf
  have hx := X.1
  have hb := X.2.1
  refine lv_istore_n (lv' := [(2, .int s0), (0, .ref (b + a0)), (1, .int x1), (3, .int x3), (4, .int x4)]) hx hb dX9_groups_66 rfl hl (by decide) rfl (fun ls hl => ?_)
  exact w_X9_groups_b67 X Z hK7 _ _ _ _ _ _ hf _ _ _ S (lv_sub hl [1, 2, 0, 3, 4] rfl)
def f_X9_groups_b60 (K7 : Nat → Int32 → Int32 → Int32 → Int32 → HP → Option (Int32 × HP)) (a0 : Nat) (x1 : Int32) (x3 : Int32) (x4 : Int32) (h : HP) : Option (Int32 × HP) :=
  f_X9_groups_b66 K7 a0 x1 x3 x4 x4 h
set_option maxRecDepth 100000 in
set_option maxHeartbeats 4000000 in
theorem w_X9_groups_b60 (X : CX RX9 cX9_groups 5 (some .int) p s m args meth c G b) {out : Int32 × HP} (Z : ZI p l e RM_X9_groups s m args below meth c cX9_groups G b False 0 0 Q out) {K7 : Nat → Int32 → Int32 → Int32 → Int32 → HP → Option (Int32 × HP)} (hK7 : ∀ (a0 : Nat) (x1 : Int32) (x2 : Int32) (x3 : Int32) (x4 : Int32) (h : HP), K7 a0 x1 x2 x3 x4 h = some out → ∀ (H : Heap) (locs : List Loc) (ls : Array Slot), ST G b False s h H locs → lv_has ls 5 [(0, .ref (b + a0)), (1, .int x1), (2, .int x2), (3, .int x3), (4, .int x4)] → W p l e RM_X9_groups s m args below meth c H locs 0 0 Q (F0 m 7 ls [])) : ∀ (a0 : Nat) (x1 : Int32) (x3 : Int32) (x4 : Int32) (h : HP), f_X9_groups_b60 K7 a0 x1 x3 x4 h = some out → ∀ (H : Heap) (locs : List Loc) (ls : Array Slot), ST G b False s h H locs → lv_has ls 5 [(0, .ref (b + a0)), (1, .int x1), (3, .int x3), (4, .int x4)] → W p l e RM_X9_groups s m args below meth c H locs 0 0 Q (F0 m 60 ls []) := by
  intro a0 x1 x3 x4 h hf H locs ls S hl
  unfold f_X9_groups_b60 at hf
  have hx := X.1
  have hb := X.2.1
  refine lv_iload hx hb dX9_groups_60 (lv_at hl 3 rfl) ?_
  refine lv_goto (tgt := 66) hx hb dX9_groups_62 (by decide) ?_
  exact w_X9_groups_b66 X Z hK7 _ _ _ _ _ _ hf _ _ _ S (lv_sub hl [0, 1, 2, 3] rfl)
def f_X9_groups_b82  (s0 : Int32) (h : HP) : Option (Int32 × HP) :=
  some (s0, h)
set_option maxRecDepth 100000 in
set_option maxHeartbeats 4000000 in
theorem w_X9_groups_b82 (X : CX RX9 cX9_groups 5 (some .int) p s m args meth c G b) {out : Int32 × HP} (Z : ZI p l e RM_X9_groups s m args below meth c cX9_groups G b False 0 0 Q out)  : ∀ (s0 : Int32) (h : HP), f_X9_groups_b82  s0 h = some out → ∀ (H : Heap) (locs : List Loc) (ls : Array Slot), ST G b False s h H locs → lv_has ls 5 [] → W p l e RM_X9_groups s m args below meth c H locs 0 0 Q (F0 m 82 ls [.int s0]) := by
  intro s0 h hf H locs ls S hl
  unfold f_X9_groups_b82 at hf
  have hx := X.1
  have hb := X.2.1
  obtain rfl := Option.some.inj hf
  exact Z _ _ _ _ dX9_groups_82 S
def f_X9_groups_b7 (K7 : Nat → Int32 → Int32 → Int32 → Int32 → HP → Option (Int32 × HP)) (a0 : Nat) (x1 : Int32) (x2 : Int32) (x3 : Int32) (x4 : Int32) (h : HP) : Option (Int32 × HP) :=
  (gI h a0 9 2).bind fun v1 =>
  if (1 <<< (v1 &&& 31)) ≤ x4 then
    if x1 = 0 then
      f_X9_groups_b82  x2 h
    else
      f_X9_groups_b82  x3 h
  else
    (f_X9_sitters a0 h).bind fun q2 =>
    if (x4 &&& (q2.1 ^^^ (-1))) = 0 then
      (f_X9_partings a0 x4 q2.2).bind fun q3 =>
      if q3.1 ≤ 1 then
        f_X9_groups_b67 K7 a0 x1 x2 x3 x4 q3.2
      else
        if x2 = (-1) then
          f_X9_groups_b60 K7 a0 x1 (x3 + 1) x4 q3.2
        else
          (f_X9_bits x4 q3.2).bind fun q4 =>
          (f_X9_bits x2 q4.2).bind fun q5 =>
          if q5.1 ≤ q4.1 then
            f_X9_groups_b66 K7 a0 x1 (x3 + 1) x4 x2 q5.2
          else
            f_X9_groups_b60 K7 a0 x1 (x3 + 1) x4 q5.2
    else
      f_X9_groups_b67 K7 a0 x1 x2 x3 x4 q2.2
set_option maxRecDepth 100000 in
set_option maxHeartbeats 4000000 in
theorem w_X9_groups_b7 (X : CX RX9 cX9_groups 5 (some .int) p s m args meth c G b) {out : Int32 × HP} (Z : ZI p l e RM_X9_groups s m args below meth c cX9_groups G b False 0 0 Q out) {K7 : Nat → Int32 → Int32 → Int32 → Int32 → HP → Option (Int32 × HP)} (hK7 : ∀ (a0 : Nat) (x1 : Int32) (x2 : Int32) (x3 : Int32) (x4 : Int32) (h : HP), K7 a0 x1 x2 x3 x4 h = some out → ∀ (H : Heap) (locs : List Loc) (ls : Array Slot), ST G b False s h H locs → lv_has ls 5 [(0, .ref (b + a0)), (1, .int x1), (2, .int x2), (3, .int x3), (4, .int x4)] → W p l e RM_X9_groups s m args below meth c H locs 0 0 Q (F0 m 7 ls [])) : ∀ (a0 : Nat) (x1 : Int32) (x2 : Int32) (x3 : Int32) (x4 : Int32) (h : HP), f_X9_groups_b7 K7 a0 x1 x2 x3 x4 h = some out → ∀ (H : Heap) (locs : List Loc) (ls : Array Slot), ST G b False s h H locs → lv_has ls 5 [(0, .ref (b + a0)), (1, .int x1), (2, .int x2), (3, .int x3), (4, .int x4)] → W p l e RM_X9_groups s m args below meth c H locs 0 0 Q (F0 m 7 ls []) := by
  intro a0 x1 x2 x3 x4 h hf H locs ls S hl
  unfold f_X9_groups_b7 at hf
  have hx := X.1
  have hb := X.2.1
  refine lv_iload hx hb dX9_groups_7 (lv_at hl 4 rfl) ?_
  refine lv_iconst (v := 1) hx hb dX9_groups_9 (by decide) ?_
  refine lv_aload_n hx hb dX9_groups_10 rfl (lv_at hl 0 rfl) ?_
  obtain ⟨v1, e_v1, hf⟩ := ob hf
  refine r_getI X S fl_X9_51 e_v1 dX9_groups_11 ?_
  refine lv_ishl hx hb dX9_groups_14 ?_
  refine lv_icmp_ge (tgt := 73) hx hb dX9_groups_15 (by decide) (fun hc => ?_) (fun hc => ?_)
  · replace hf := ip hf hc
    refine lv_iload_n hx hb dX9_groups_73 rfl (lv_at hl 1 rfl) ?_
    refine lv_if_eq (tgt := 81) hx hb dX9_groups_74 (by decide) (fun hc => ?_) (fun hc => ?_)
    · replace hf := ip hf hc
      refine lv_iload_n hx hb dX9_groups_81 rfl (lv_at hl 2 rfl) ?_
      exact w_X9_groups_b82 X Z  _ _ hf _ _ _ S (lv_sub hl [] rfl)
    · replace hf := im hf hc
      refine lv_iload_n hx hb dX9_groups_77 rfl (lv_at hl 3 rfl) ?_
      refine lv_goto (tgt := 82) hx hb dX9_groups_78 (by decide) ?_
      exact w_X9_groups_b82 X Z  _ _ hf _ _ _ S (lv_sub hl [] rfl)
  · replace hf := im hf hc
    refine lv_iload hx hb dX9_groups_18 (lv_at hl 4 rfl) ?_
    refine lv_aload_n hx hb dX9_groups_20 rfl (lv_at hl 0 rfl) ?_
    obtain ⟨q2, e_q2, hf⟩ := ob hf
    refine r_callV X S hl.1 (As := []) (rest := [.int x4]) (c_X9_sitters e_q2) my_X9_sitters mv_X9_sitters ml_X9_181 rfl (o_X9_sitters e_q2) ⟨rfl, rfl, Nat.le_of_ble_eq_true rfl, Nat.le_of_ble_eq_true rfl⟩ rfl rfl (Nat.le_of_ble_eq_true rfl) dX9_groups_21 ⟨Nat.le_of_ble_eq_true rfl, Nat.le_of_ble_eq_true rfl⟩ (fun H locs S => ?_)
    refine W.eq (g2 := F0 m 24 ls [.int q2.1, .int x4]) rfl ?_
    refine lv_iconst (v := (-1)) hx hb dX9_groups_24 (by decide) ?_
    refine lv_ixor hx hb dX9_groups_25 ?_
    refine lv_iand hx hb dX9_groups_26 ?_
    refine lv_if_ne (tgt := 67) hx hb dX9_groups_27 (by decide) (fun hc => ?_) (fun hc => ?_)
    · replace hf := im hf hc
      exact w_X9_groups_b67 X Z hK7 _ _ _ _ _ _ hf _ _ _ S (lv_sub hl [0, 1, 2, 3, 4] rfl)
    · replace hf := ip hf hc
      refine lv_aload_n hx hb dX9_groups_30 rfl (lv_at hl 0 rfl) ?_
      refine lv_iload hx hb dX9_groups_31 (lv_at hl 4 rfl) ?_
      obtain ⟨q3, e_q3, hf⟩ := ob hf
      refine r_callV X S hl.1 (As := [.int x4]) (rest := []) (c_X9_partings e_q3) my_X9_partings mv_X9_partings ml_X9_184 rfl (o_X9_partings e_q3) ⟨rfl, rfl, Nat.le_of_ble_eq_true rfl, Nat.le_of_ble_eq_true rfl⟩ rfl rfl (Nat.le_of_ble_eq_true rfl) dX9_groups_33 ⟨Nat.le_of_ble_eq_true rfl, Nat.le_of_ble_eq_true rfl⟩ (fun H locs S => ?_)
      refine W.eq (g2 := F0 m 36 ls [.int q3.1]) rfl ?_
      refine lv_iconst (v := 1) hx hb dX9_groups_36 (by decide) ?_
      refine lv_icmp_le (tgt := 67) hx hb dX9_groups_37 (by decide) (fun hc => ?_) (fun hc => ?_)
      · replace hf := ip hf hc
        exact w_X9_groups_b67 X Z hK7 _ _ _ _ _ _ hf _ _ _ S (lv_sub hl [0, 1, 2, 3, 4] rfl)
      · replace hf := im hf hc
        refine lv_iinc (v := x3 + 1) (lv' := [(3, .int (x3 + 1)), (0, .ref (b + a0)), (1, .int x1), (2, .int x2), (4, .int x4)]) hx hb dX9_groups_40 hl (k := 3) rfl rfl (by decide) rfl (fun ls hl => ?_)
        refine lv_iload_n hx hb dX9_groups_43 rfl (lv_at hl 3 rfl) ?_
        refine lv_iconst (v := (-1)) hx hb dX9_groups_44 (by decide) ?_
        refine lv_icmp_eq (tgt := 60) hx hb dX9_groups_45 (by decide) (fun hc => ?_) (fun hc => ?_)
        · replace hf := ip hf hc
          exact w_X9_groups_b60 X Z hK7 _ _ _ _ _ hf _ _ _ S (lv_sub hl [1, 2, 0, 4] rfl)
        · replace hf := im hf hc
          refine lv_iload hx hb dX9_groups_48 (lv_at hl 4 rfl) ?_
          obtain ⟨q4, e_q4, hf⟩ := ob hf
          refine r_callS X S hl.1 (As := [.int x4]) (rest := []) (c_X9_bits e_q4) my_X9_bits ms_X9_bits ml_X9_172 ⟨rfl, rfl, Nat.le_of_ble_eq_true rfl, Nat.le_of_ble_eq_true rfl⟩ rfl rfl (Nat.le_of_ble_eq_true rfl) dX9_groups_50 ⟨Nat.le_of_ble_eq_true rfl, Nat.le_of_ble_eq_true rfl⟩ (fun H locs S => ?_)
          refine W.eq (g2 := F0 m 53 ls [.int q4.1]) rfl ?_
          refine lv_iload_n hx hb dX9_groups_53 rfl (lv_at hl 3 rfl) ?_
          obtain ⟨q5, e_q5, hf⟩ := ob hf
          refine r_callS X S hl.1 (As := [.int x2]) (rest := [.int q4.1]) (c_X9_bits e_q5) my_X9_bits ms_X9_bits ml_X9_172 ⟨rfl, rfl, Nat.le_of_ble_eq_true rfl, Nat.le_of_ble_eq_true rfl⟩ rfl rfl (Nat.le_of_ble_eq_true rfl) dX9_groups_54 ⟨Nat.le_of_ble_eq_true rfl, Nat.le_of_ble_eq_true rfl⟩ (fun H locs S => ?_)
          refine W.eq (g2 := F0 m 57 ls [.int q5.1, .int q4.1]) rfl ?_
          refine lv_icmp_ge (tgt := 65) hx hb dX9_groups_57 (by decide) (fun hc => ?_) (fun hc => ?_)
          · replace hf := ip hf hc
            refine lv_iload_n hx hb dX9_groups_65 rfl (lv_at hl 3 rfl) ?_
            exact w_X9_groups_b66 X Z hK7 _ _ _ _ _ _ hf _ _ _ S (lv_sub hl [1, 2, 0, 4] rfl)
          · replace hf := im hf hc
            exact w_X9_groups_b60 X Z hK7 _ _ _ _ _ hf _ _ _ S (lv_sub hl [1, 2, 0, 4] rfl)
def F_X9_groups_7  : Nat → Nat → Int32 → Int32 → Int32 → Int32 → HP → Option (Int32 × HP)
  | 0 => fun _ _ _ _ _ _ => none
  | n + 1 => fun a0 x1 x2 x3 x4 h => f_X9_groups_b7 (F_X9_groups_7  n) a0 x1 x2 x3 x4 h
theorem wl_X9_groups_7 (X : CX RX9 cX9_groups 5 (some .int) p s m args meth c G b) {out : Int32 × HP} (Z : ZI p l e RM_X9_groups s m args below meth c cX9_groups G b False 0 0 Q out)  : ∀ (n : Nat) (a0 : Nat) (x1 : Int32) (x2 : Int32) (x3 : Int32) (x4 : Int32) (h : HP), F_X9_groups_7  n a0 x1 x2 x3 x4 h = some out → ∀ (H : Heap) (locs : List Loc) (ls : Array Slot), ST G b False s h H locs → lv_has ls 5 [(0, .ref (b + a0)), (1, .int x1), (2, .int x2), (3, .int x3), (4, .int x4)] → W p l e RM_X9_groups s m args below meth c H locs 0 0 Q (F0 m 7 ls []) := by
  intro n
  induction n with
  | zero => intro a0 x1 x2 x3 x4 h hf; exact nn hf
  | succ n ih => exact w_X9_groups_b7 X Z ih
def f_X9_groups_e  (a0 : Nat) (x1 : Int32) (h : HP) : Option (Int32 × HP) :=
  F_X9_groups_7  FU a0 x1 (-1) 0 1 h
set_option maxRecDepth 100000 in
set_option maxHeartbeats 4000000 in
theorem w_X9_groups_e (X : CX RX9 cX9_groups 5 (some .int) p s m args meth c G b) {out : Int32 × HP} (Z : ZI p l e RM_X9_groups s m args below meth c cX9_groups G b False 0 0 Q out)  : ∀ (a0 : Nat) (x1 : Int32) (h : HP), f_X9_groups_e  a0 x1 h = some out → ∀ (H : Heap) (locs : List Loc) (ls : Array Slot), ST G b False s h H locs → lv_has ls 5 [(0, .ref (b + a0)), (1, .int x1)] → W p l e RM_X9_groups s m args below meth c H locs 0 0 Q (F0 m 0 ls []) := by
  intro a0 x1 h hf H locs ls S hl
  unfold f_X9_groups_e at hf
  have hx := X.1
  have hb := X.2.1
  refine lv_iconst (v := (-1)) hx hb dX9_groups_0 (by decide) ?_
  refine lv_istore_n (lv' := [(2, .int (-1)), (0, .ref (b + a0)), (1, .int x1)]) hx hb dX9_groups_1 rfl hl (by decide) rfl (fun ls hl => ?_)
  refine lv_iconst (v := 0) hx hb dX9_groups_2 (by decide) ?_
  refine lv_istore_n (lv' := [(3, .int 0), (2, .int (-1)), (0, .ref (b + a0)), (1, .int x1)]) hx hb dX9_groups_3 rfl hl (by decide) rfl (fun ls hl => ?_)
  refine lv_iconst (v := 1) hx hb dX9_groups_4 (by decide) ?_
  refine lv_istore (lv' := [(4, .int 1), (3, .int 0), (2, .int (-1)), (0, .ref (b + a0)), (1, .int x1)]) hx hb dX9_groups_5 hl (by decide) rfl (fun ls hl => ?_)
  exact wl_X9_groups_7 X Z  FU _ _ _ _ _ _ hf _ _ _ S (lv_sub hl [3, 4, 2, 1, 0] rfl)
def f_X9_groups (a0 : Nat) (x1 : Int32) (h : HP) : Option (Int32 × HP) := ck h a0 9 (f_X9_groups_e a0 x1 h)
theorem o_X9_groups {a0 : Nat} {x1 : Int32} {h : HP} {out : Int32 × HP} (hf : f_X9_groups a0 x1 h = some out) : ∃ fs, h[a0]? = some (.inl (9, fs)) := (ck_spec hf).1
set_option maxRecDepth 100000 in
theorem c_X9_groups {l : Launch} {G : GT} {b : Nat} {a0 : Nat} {x1 : Int32} {h : HP} {out : Int32 × HP} (hf : f_X9_groups a0 x1 h = some out) : MT l G b False False yX9_groups cX9_groups 5 (some .int) RM_X9_groups [.ref (b + a0), .int x1] h (some (.int out.1)) out.2 0 0 := by
  refine met_of (by decide) (Nat.le_of_ble_eq_true rfl) ?_
  intro p e s m below meth c ls X hnm S hl
  have hl : lv_has ls 5 [(0, .ref (b + a0)), (1, .int x1)] := hl
  replace hf := (ck_spec hf).2
  exact w_X9_groups_e X (z_i X) _ _ _ hf _ _ _ S hl
/-! RoomRingsModel.told(I)I -/
abbrev RM_X9_told : Room := { frames := 7, cells := 0, slots := 0, locals := 159 }
def f_X9_told_e  (a0 : Nat) (x1 : Int32) (h : HP) : Option (Int32 × HP) :=
  (f_X9_giveOut a0 0 h).bind fun h1 =>
  if x1 = nI 0 then
    (gI h1 a0 9 1).bind fun v2 =>
    some (v2, h1)
  else
    if x1 = nI 1 then
      (gI h1 a0 9 2).bind fun v3 =>
      some (v3, h1)
    else
      if x1 = nI 2 then
        (gI h1 a0 9 6).bind fun v4 =>
        some (v4, h1)
      else
        if x1 = nI 3 then
          (gI h1 a0 9 11).bind fun v5 =>
          some (v5, h1)
        else
          if x1 = nI 4 then
            (f_X9_without a0 h1).bind fun q6 =>
            some (q6.1, q6.2)
          else
            if x1 = nI 5 then
              (f_X9_roomsLeft a0 1 h1).bind fun q7 =>
              some (q7.1, q7.2)
            else
              if x1 = nI 6 then
                (f_X9_roomsLeft a0 0 h1).bind fun q8 =>
                some (q8.1, q8.2)
              else
                if x1 = nI 7 then
                  (f_X9_groups a0 0 h1).bind fun q9 =>
                  some (q9.1, q9.2)
                else
                  if x1 = nI 8 then
                    (f_X9_groups a0 1 h1).bind fun q10 =>
                    some (q10.1, q10.2)
                  else
                    if x1 = nI 9 then
                      (gI h1 a0 9 15).bind fun v11 =>
                      some (v11, h1)
                    else
                      if x1 = nI 10 then
                        (gI h1 a0 9 18).bind fun v12 =>
                        some (v12, h1)
                      else
                        if x1 = nI 11 then
                          (gI h1 a0 9 3).bind fun v13 =>
                          some (v13, h1)
                        else
                          some ((-1000000002), h1)
set_option maxRecDepth 100000 in
set_option maxHeartbeats 4000000 in
theorem w_X9_told_e (X : CX RX9 cX9_told 2 (some .int) p s m args meth c G b) {out : Int32 × HP} (Z : ZI p l e RM_X9_told s m args below meth c cX9_told G b False 0 0 Q out)  : ∀ (a0 : Nat) (x1 : Int32) (h : HP), f_X9_told_e  a0 x1 h = some out → ∀ (H : Heap) (locs : List Loc) (ls : Array Slot), ST G b False s h H locs → lv_has ls 2 [(0, .ref (b + a0)), (1, .int x1)] → W p l e RM_X9_told s m args below meth c H locs 0 0 Q (F0 m 0 ls []) := by
  intro a0 x1 h hf H locs ls S hl
  unfold f_X9_told_e at hf
  have hx := X.1
  have hb := X.2.1
  refine lv_aload_n hx hb dX9_told_0 rfl (lv_at hl 0 rfl) ?_
  refine lv_iconst (v := 0) hx hb dX9_told_1 (by decide) ?_
  obtain ⟨h1, e_h1, hf⟩ := ob hf
  refine r_callV X S hl.1 (As := [.int 0]) (rest := []) (c_X9_giveOut e_h1) my_X9_giveOut mv_X9_giveOut ml_X9_187 rfl (o_X9_giveOut e_h1) ⟨rfl, rfl, Nat.le_of_ble_eq_true rfl, Nat.le_of_ble_eq_true rfl⟩ rfl rfl (Nat.le_of_ble_eq_true rfl) dX9_told_2 ⟨Nat.le_of_ble_eq_true rfl, Nat.le_of_ble_eq_true rfl⟩ (fun H locs S => ?_)
  refine W.eq (g2 := F0 m 5 ls []) rfl ?_
  refine lv_iload_n hx hb dX9_told_5 rfl (lv_at hl 1 rfl) ?_
  by_cases hs6_0 : x1 = nI 0
  · replace hf := ip hf hs6_0
    refine lv_tableIn (off := 62) (tgt := 68) hx hb dX9_told_6 (by rw [hs6_0]; decide) (by rw [hs6_0]; decide) (by rw [hs6_0]; decide) (by decide) ?_
    refine lv_aload_n hx hb dX9_told_68 rfl (lv_at hl 0 rfl) ?_
    obtain ⟨v2, e_v2, hf⟩ := ob hf
    refine r_getI X S fl_X9_58 e_v2 dX9_told_69 ?_
    obtain rfl := Option.some.inj hf
    exact Z _ _ _ _ dX9_told_72 S
  · replace hf := im hf hs6_0
    by_cases hs6_1 : x1 = nI 1
    · replace hf := ip hf hs6_1
      refine lv_tableIn (off := 67) (tgt := 73) hx hb dX9_told_6 (by rw [hs6_1]; decide) (by rw [hs6_1]; decide) (by rw [hs6_1]; decide) (by decide) ?_
      refine lv_aload_n hx hb dX9_told_73 rfl (lv_at hl 0 rfl) ?_
      obtain ⟨v3, e_v3, hf⟩ := ob hf
      refine r_getI X S fl_X9_51 e_v3 dX9_told_74 ?_
      obtain rfl := Option.some.inj hf
      exact Z _ _ _ _ dX9_told_77 S
    · replace hf := im hf hs6_1
      by_cases hs6_2 : x1 = nI 2
      · replace hf := ip hf hs6_2
        refine lv_tableIn (off := 72) (tgt := 78) hx hb dX9_told_6 (by rw [hs6_2]; decide) (by rw [hs6_2]; decide) (by rw [hs6_2]; decide) (by decide) ?_
        refine lv_aload_n hx hb dX9_told_78 rfl (lv_at hl 0 rfl) ?_
        obtain ⟨v4, e_v4, hf⟩ := ob hf
        refine r_getI X S fl_X9_62 e_v4 dX9_told_79 ?_
        obtain rfl := Option.some.inj hf
        exact Z _ _ _ _ dX9_told_82 S
      · replace hf := im hf hs6_2
        by_cases hs6_3 : x1 = nI 3
        · replace hf := ip hf hs6_3
          refine lv_tableIn (off := 77) (tgt := 83) hx hb dX9_told_6 (by rw [hs6_3]; decide) (by rw [hs6_3]; decide) (by rw [hs6_3]; decide) (by decide) ?_
          refine lv_aload_n hx hb dX9_told_83 rfl (lv_at hl 0 rfl) ?_
          obtain ⟨v5, e_v5, hf⟩ := ob hf
          refine r_getI X S fl_X9_154 e_v5 dX9_told_84 ?_
          obtain rfl := Option.some.inj hf
          exact Z _ _ _ _ dX9_told_87 S
        · replace hf := im hf hs6_3
          by_cases hs6_4 : x1 = nI 4
          · replace hf := ip hf hs6_4
            refine lv_tableIn (off := 82) (tgt := 88) hx hb dX9_told_6 (by rw [hs6_4]; decide) (by rw [hs6_4]; decide) (by rw [hs6_4]; decide) (by decide) ?_
            refine lv_aload_n hx hb dX9_told_88 rfl (lv_at hl 0 rfl) ?_
            obtain ⟨q6, e_q6, hf⟩ := ob hf
            refine r_callV X S hl.1 (As := []) (rest := []) (c_X9_without e_q6) my_X9_without mv_X9_without ml_X9_190 rfl (o_X9_without e_q6) ⟨rfl, rfl, Nat.le_of_ble_eq_true rfl, Nat.le_of_ble_eq_true rfl⟩ rfl rfl (Nat.le_of_ble_eq_true rfl) dX9_told_89 ⟨Nat.le_of_ble_eq_true rfl, Nat.le_of_ble_eq_true rfl⟩ (fun H locs S => ?_)
            refine W.eq (g2 := F0 m 92 ls [.int q6.1]) rfl ?_
            obtain rfl := Option.some.inj hf
            exact Z _ _ _ _ dX9_told_92 S
          · replace hf := im hf hs6_4
            by_cases hs6_5 : x1 = nI 5
            · replace hf := ip hf hs6_5
              refine lv_tableIn (off := 87) (tgt := 93) hx hb dX9_told_6 (by rw [hs6_5]; decide) (by rw [hs6_5]; decide) (by rw [hs6_5]; decide) (by decide) ?_
              refine lv_aload_n hx hb dX9_told_93 rfl (lv_at hl 0 rfl) ?_
              refine lv_iconst (v := 1) hx hb dX9_told_94 (by decide) ?_
              obtain ⟨q7, e_q7, hf⟩ := ob hf
              refine r_callV X S hl.1 (As := [.int 1]) (rest := []) (c_X9_roomsLeft e_q7) my_X9_roomsLeft mv_X9_roomsLeft ml_X9_193 rfl (o_X9_roomsLeft e_q7) ⟨rfl, rfl, Nat.le_of_ble_eq_true rfl, Nat.le_of_ble_eq_true rfl⟩ rfl rfl (Nat.le_of_ble_eq_true rfl) dX9_told_95 ⟨Nat.le_of_ble_eq_true rfl, Nat.le_of_ble_eq_true rfl⟩ (fun H locs S => ?_)
              refine W.eq (g2 := F0 m 98 ls [.int q7.1]) rfl ?_
              obtain rfl := Option.some.inj hf
              exact Z _ _ _ _ dX9_told_98 S
            · replace hf := im hf hs6_5
              by_cases hs6_6 : x1 = nI 6
              · replace hf := ip hf hs6_6
                refine lv_tableIn (off := 93) (tgt := 99) hx hb dX9_told_6 (by rw [hs6_6]; decide) (by rw [hs6_6]; decide) (by rw [hs6_6]; decide) (by decide) ?_
                refine lv_aload_n hx hb dX9_told_99 rfl (lv_at hl 0 rfl) ?_
                refine lv_iconst (v := 0) hx hb dX9_told_100 (by decide) ?_
                obtain ⟨q8, e_q8, hf⟩ := ob hf
                refine r_callV X S hl.1 (As := [.int 0]) (rest := []) (c_X9_roomsLeft e_q8) my_X9_roomsLeft mv_X9_roomsLeft ml_X9_193 rfl (o_X9_roomsLeft e_q8) ⟨rfl, rfl, Nat.le_of_ble_eq_true rfl, Nat.le_of_ble_eq_true rfl⟩ rfl rfl (Nat.le_of_ble_eq_true rfl) dX9_told_101 ⟨Nat.le_of_ble_eq_true rfl, Nat.le_of_ble_eq_true rfl⟩ (fun H locs S => ?_)
                refine W.eq (g2 := F0 m 104 ls [.int q8.1]) rfl ?_
                obtain rfl := Option.some.inj hf
                exact Z _ _ _ _ dX9_told_104 S
              · replace hf := im hf hs6_6
                by_cases hs6_7 : x1 = nI 7
                · replace hf := ip hf hs6_7
                  refine lv_tableIn (off := 99) (tgt := 105) hx hb dX9_told_6 (by rw [hs6_7]; decide) (by rw [hs6_7]; decide) (by rw [hs6_7]; decide) (by decide) ?_
                  refine lv_aload_n hx hb dX9_told_105 rfl (lv_at hl 0 rfl) ?_
                  refine lv_iconst (v := 0) hx hb dX9_told_106 (by decide) ?_
                  obtain ⟨q9, e_q9, hf⟩ := ob hf
                  refine r_callV X S hl.1 (As := [.int 0]) (rest := []) (c_X9_groups e_q9) my_X9_groups mv_X9_groups ml_X9_196 rfl (o_X9_groups e_q9) ⟨rfl, rfl, Nat.le_of_ble_eq_true rfl, Nat.le_of_ble_eq_true rfl⟩ rfl rfl (Nat.le_of_ble_eq_true rfl) dX9_told_107 ⟨Nat.le_of_ble_eq_true rfl, Nat.le_of_ble_eq_true rfl⟩ (fun H locs S => ?_)
                  refine W.eq (g2 := F0 m 110 ls [.int q9.1]) rfl ?_
                  obtain rfl := Option.some.inj hf
                  exact Z _ _ _ _ dX9_told_110 S
                · replace hf := im hf hs6_7
                  by_cases hs6_8 : x1 = nI 8
                  · replace hf := ip hf hs6_8
                    refine lv_tableIn (off := 105) (tgt := 111) hx hb dX9_told_6 (by rw [hs6_8]; decide) (by rw [hs6_8]; decide) (by rw [hs6_8]; decide) (by decide) ?_
                    refine lv_aload_n hx hb dX9_told_111 rfl (lv_at hl 0 rfl) ?_
                    refine lv_iconst (v := 1) hx hb dX9_told_112 (by decide) ?_
                    obtain ⟨q10, e_q10, hf⟩ := ob hf
                    refine r_callV X S hl.1 (As := [.int 1]) (rest := []) (c_X9_groups e_q10) my_X9_groups mv_X9_groups ml_X9_196 rfl (o_X9_groups e_q10) ⟨rfl, rfl, Nat.le_of_ble_eq_true rfl, Nat.le_of_ble_eq_true rfl⟩ rfl rfl (Nat.le_of_ble_eq_true rfl) dX9_told_113 ⟨Nat.le_of_ble_eq_true rfl, Nat.le_of_ble_eq_true rfl⟩ (fun H locs S => ?_)
                    refine W.eq (g2 := F0 m 116 ls [.int q10.1]) rfl ?_
                    obtain rfl := Option.some.inj hf
                    exact Z _ _ _ _ dX9_told_116 S
                  · replace hf := im hf hs6_8
                    by_cases hs6_9 : x1 = nI 9
                    · replace hf := ip hf hs6_9
                      refine lv_tableIn (off := 111) (tgt := 117) hx hb dX9_told_6 (by rw [hs6_9]; decide) (by rw [hs6_9]; decide) (by rw [hs6_9]; decide) (by decide) ?_
                      refine lv_aload_n hx hb dX9_told_117 rfl (lv_at hl 0 rfl) ?_
                      obtain ⟨v11, e_v11, hf⟩ := ob hf
                      refine r_getI X S fl_X9_125 e_v11 dX9_told_118 ?_
                      obtain rfl := Option.some.inj hf
                      exact Z _ _ _ _ dX9_told_121 S
                    · replace hf := im hf hs6_9
                      by_cases hs6_10 : x1 = nI 10
                      · replace hf := ip hf hs6_10
                        refine lv_tableIn (off := 116) (tgt := 122) hx hb dX9_told_6 (by rw [hs6_10]; decide) (by rw [hs6_10]; decide) (by rw [hs6_10]; decide) (by decide) ?_
                        refine lv_aload_n hx hb dX9_told_122 rfl (lv_at hl 0 rfl) ?_
                        obtain ⟨v12, e_v12, hf⟩ := ob hf
                        refine r_getI X S fl_X9_128 e_v12 dX9_told_123 ?_
                        obtain rfl := Option.some.inj hf
                        exact Z _ _ _ _ dX9_told_126 S
                      · replace hf := im hf hs6_10
                        by_cases hs6_11 : x1 = nI 11
                        · replace hf := ip hf hs6_11
                          refine lv_tableIn (off := 121) (tgt := 127) hx hb dX9_told_6 (by rw [hs6_11]; decide) (by rw [hs6_11]; decide) (by rw [hs6_11]; decide) (by decide) ?_
                          refine lv_aload_n hx hb dX9_told_127 rfl (lv_at hl 0 rfl) ?_
                          obtain ⟨v13, e_v13, hf⟩ := ob hf
                          refine r_getI X S fl_X9_119 e_v13 dX9_told_128 ?_
                          obtain rfl := Option.some.inj hf
                          exact Z _ _ _ _ dX9_told_131 S
                        · replace hf := im hf hs6_11
                          refine lv_tableOut (tgt := 132) hx hb dX9_told_6 (sw_out (n := 12) (by decide) (lt_s (lt_s (lt_s (lt_s (lt_s (lt_s (lt_s (lt_s (lt_s (lt_s (lt_s (lt_s (lt_0) hs6_0) hs6_1) hs6_2) hs6_3) hs6_4) hs6_5) hs6_6) hs6_7) hs6_8) hs6_9) hs6_10) hs6_11)) (by decide) ?_
                          refine lv_ldc (v := (-1000000002)) hx hb X.2.2.2.1 (X.2.2.2.2.1 _ cn_X9_61) dX9_told_132 ?_
                          obtain rfl := Option.some.inj hf
                          exact Z _ _ _ _ dX9_told_134 S
def f_X9_told (a0 : Nat) (x1 : Int32) (h : HP) : Option (Int32 × HP) := ck h a0 9 (f_X9_told_e a0 x1 h)
theorem o_X9_told {a0 : Nat} {x1 : Int32} {h : HP} {out : Int32 × HP} (hf : f_X9_told a0 x1 h = some out) : ∃ fs, h[a0]? = some (.inl (9, fs)) := (ck_spec hf).1
set_option maxRecDepth 100000 in
theorem c_X9_told {l : Launch} {G : GT} {b : Nat} {a0 : Nat} {x1 : Int32} {h : HP} {out : Int32 × HP} (hf : f_X9_told a0 x1 h = some out) : MT l G b False False yX9_told cX9_told 2 (some .int) RM_X9_told [.ref (b + a0), .int x1] h (some (.int out.1)) out.2 0 0 := by
  refine met_of (by decide) (Nat.le_of_ble_eq_true rfl) ?_
  intro p e s m below meth c ls X hnm S hl
  have hl : lv_has ls 2 [(0, .ref (b + a0)), (1, .int x1)] := hl
  replace hf := (ck_spec hf).2
  exact w_X9_told_e X (z_i X) _ _ _ hf _ _ _ S hl
end M15
