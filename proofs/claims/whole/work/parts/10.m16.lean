section M16
variable {p : Program} {l : Launch} {e : Env} {s : State} {m : MethodId} {args : Array Value} {below : List Frame} {meth : Method} {c : Code} {Q : State → Prop} {G : GT} {b : Nat}
/-! RoomRingsModel.kept(I)I -/
abbrev RM_X9_kept : Room := { frames := 1, cells := 0, slots := 0, locals := 21 }
def f_X9_kept_b49 (K4 : Nat → Int32 → Int32 → Int32 → HP → Option (Int32 × HP)) (a0 : Nat) (x1 : Int32) (x3 : Int32) (s0 : Int32) (s1 : Int32) (h : HP) : Option (Int32 × HP) :=
  K4 a0 x1 (s0 ||| s1) (x3 + 1) h
set_option maxRecDepth 100000 in
set_option maxHeartbeats 4000000 in
theorem w_X9_kept_b49 (X : CX RX9 cX9_kept 4 (some .int) p s m args meth c G b) {out : Int32 × HP} (Z : ZI p l e RM_X9_kept s m args below meth c cX9_kept G b False 0 0 Q out) {K4 : Nat → Int32 → Int32 → Int32 → HP → Option (Int32 × HP)} (hK4 : ∀ (a0 : Nat) (x1 : Int32) (x2 : Int32) (x3 : Int32) (h : HP), K4 a0 x1 x2 x3 h = some out → ∀ (H : Heap) (locs : List Loc) (ls : Array Slot), ST G b False s h H locs → lv_has ls 4 [(0, .ref (b + a0)), (1, .int x1), (2, .int x2), (3, .int x3)] → W p l e RM_X9_kept s m args below meth c H locs 0 0 Q (F0 m 4 ls [])) : ∀ (a0 : Nat) (x1 : Int32) (x3 : Int32) (s0 : Int32) (s1 : Int32) (h : HP), f_X9_kept_b49 K4 a0 x1 x3 s0 s1 h = some out → ∀ (H : Heap) (locs : List Loc) (ls : Array Slot), ST G b False s h H locs → lv_has ls 4 [(0, .ref (b + a0)), (1, .int x1), (3, .int x3)] → W p l e RM_X9_kept s m args below meth c H locs 0 0 Q (F0 m 49 ls [.int s1, .int s0]) := by
  intro a0 x1 x3 s0 s1 h hf H locs ls S hl
  unfold f_X9_kept_b49 at hf
  have hx := X.1
  have hb := X.2.1
  refine lv_ior hx hb dX9_kept_49 ?_
  refine lv_istore_n (lv' := [(2, .int (s0 ||| s1)), (0, .ref (b + a0)), (1, .int x1), (3, .int x3)]) hx hb dX9_kept_50 rfl hl (by decide) rfl (fun ls hl => ?_)
  refine lv_iinc (v := x3 + 1) (lv' := [(3, .int (x3 + 1)), (2, .int (s0 ||| s1)), (0, .ref (b + a0)), (1, .int x1)]) hx hb dX9_kept_51 hl (k := 3) rfl rfl (by decide) rfl (fun ls hl => ?_)
  refine lv_goto (tgt := 4) hx hb dX9_kept_54 (by decide) ?_
  exact hK4 _ _ _ _ _ hf _ _ _ S (lv_sub hl [2, 3, 1, 0] rfl)
def f_X9_kept_b48 (K4 : Nat → Int32 → Int32 → Int32 → HP → Option (Int32 × HP)) (a0 : Nat) (x1 : Int32) (x3 : Int32) (s0 : Int32) (h : HP) : Option (Int32 × HP) :=
  f_X9_kept_b49 K4 a0 x1 x3 s0 0 h
set_option maxRecDepth 100000 in
set_option maxHeartbeats 4000000 in
theorem w_X9_kept_b48 (X : CX RX9 cX9_kept 4 (some .int) p s m args meth c G b) {out : Int32 × HP} (Z : ZI p l e RM_X9_kept s m args below meth c cX9_kept G b False 0 0 Q out) {K4 : Nat → Int32 → Int32 → Int32 → HP → Option (Int32 × HP)} (hK4 : ∀ (a0 : Nat) (x1 : Int32) (x2 : Int32) (x3 : Int32) (h : HP), K4 a0 x1 x2 x3 h = some out → ∀ (H : Heap) (locs : List Loc) (ls : Array Slot), ST G b False s h H locs → lv_has ls 4 [(0, .ref (b + a0)), (1, .int x1), (2, .int x2), (3, .int x3)] → W p l e RM_X9_kept s m args below meth c H locs 0 0 Q (F0 m 4 ls [])) : ∀ (a0 : Nat) (x1 : Int32) (x3 : Int32) (s0 : Int32) (h : HP), f_X9_kept_b48 K4 a0 x1 x3 s0 h = some out → ∀ (H : Heap) (locs : List Loc) (ls : Array Slot), ST G b False s h H locs → lv_has ls 4 [(0, .ref (b + a0)), (1, .int x1), (3, .int x3)] → W p l e RM_X9_kept s m args below meth c H locs 0 0 Q (F0 m 48 ls [.int s0]) := by
  intro a0 x1 x3 s0 h hf H locs ls S hl
  unfold f_X9_kept_b48 at hf
  have hx := X.1
  have hb := X.2.1
  refine lv_iconst (v := 0) hx hb dX9_kept_48 (by decide) ?_
  exact w_X9_kept_b49 X Z hK4 _ _ _ _ _ _ hf _ _ _ S (lv_sub hl [0, 1, 2] rfl)
def f_X9_kept_b4 (K4 : Nat → Int32 → Int32 → Int32 → HP → Option (Int32 × HP)) (a0 : Nat) (x1 : Int32) (x2 : Int32) (x3 : Int32) (h : HP) : Option (Int32 × HP) :=
  (gI h a0 9 2).bind fun v1 =>
  if v1 ≤ x3 then
    some (x2, h)
  else
    (f_X9_has x1 x3 h).bind fun q2 =>
    if q2.1 = 0 then
      (gR q2.2 a0 9 0).bind fun r3 =>
      (ald q2.2 r3 (54 + x3)).bind fun v4 =>
      if v4 = (-1) then
        f_X9_kept_b48 K4 a0 x1 x3 x2 q2.2
      else
        (gR q2.2 a0 9 0).bind fun r5 =>
        (ald q2.2 r5 (54 + x3)).bind fun v6 =>
        f_X9_kept_b49 K4 a0 x1 x3 x2 (1 <<< (v6 &&& 31)) q2.2
    else
      f_X9_kept_b48 K4 a0 x1 x3 x2 q2.2
set_option maxRecDepth 100000 in
set_option maxHeartbeats 4000000 in
theorem w_X9_kept_b4 (X : CX RX9 cX9_kept 4 (some .int) p s m args meth c G b) {out : Int32 × HP} (Z : ZI p l e RM_X9_kept s m args below meth c cX9_kept G b False 0 0 Q out) {K4 : Nat → Int32 → Int32 → Int32 → HP → Option (Int32 × HP)} (hK4 : ∀ (a0 : Nat) (x1 : Int32) (x2 : Int32) (x3 : Int32) (h : HP), K4 a0 x1 x2 x3 h = some out → ∀ (H : Heap) (locs : List Loc) (ls : Array Slot), ST G b False s h H locs → lv_has ls 4 [(0, .ref (b + a0)), (1, .int x1), (2, .int x2), (3, .int x3)] → W p l e RM_X9_kept s m args below meth c H locs 0 0 Q (F0 m 4 ls [])) : ∀ (a0 : Nat) (x1 : Int32) (x2 : Int32) (x3 : Int32) (h : HP), f_X9_kept_b4 K4 a0 x1 x2 x3 h = some out → ∀ (H : Heap) (locs : List Loc) (ls : Array Slot), ST G b False s h H locs → lv_has ls 4 [(0, .ref (b + a0)), (1, .int x1), (2, .int x2), (3, .int x3)] → W p l e RM_X9_kept s m args below meth c H locs 0 0 Q (F0 m 4 ls []) := by
  intro a0 x1 x2 x3 h hf H locs ls S hl
  unfold f_X9_kept_b4 at hf
  have hx := X.1
  have hb := X.2.1
  refine lv_iload_n hx hb dX9_kept_4 rfl (lv_at hl 3 rfl) ?_
  refine lv_aload_n hx hb dX9_kept_5 rfl (lv_at hl 0 rfl) ?_
  obtain ⟨v1, e_v1, hf⟩ := ob hf
  refine r_getI X S fl_X9_51 e_v1 dX9_kept_6 ?_
  refine lv_icmp_ge (tgt := 57) hx hb dX9_kept_9 (by decide) (fun hc => ?_) (fun hc => ?_)
  · replace hf := ip hf hc
    refine lv_iload_n hx hb dX9_kept_57 rfl (lv_at hl 2 rfl) ?_
    obtain rfl := Option.some.inj hf
    exact Z _ _ _ _ dX9_kept_58 S
  · replace hf := im hf hc
    refine lv_iload_n hx hb dX9_kept_12 rfl (lv_at hl 2 rfl) ?_
    refine lv_iload_n hx hb dX9_kept_13 rfl (lv_at hl 1 rfl) ?_
    refine lv_iload_n hx hb dX9_kept_14 rfl (lv_at hl 3 rfl) ?_
    obtain ⟨q2, e_q2, hf⟩ := ob hf
    refine r_callS X S hl.1 (As := [.int x1, .int x3]) (rest := [.int x2]) (c_X9_has e_q2) my_X9_has ms_X9_has ml_X9_134 ⟨rfl, rfl, Nat.le_of_ble_eq_true rfl, Nat.le_of_ble_eq_true rfl⟩ rfl rfl (Nat.le_of_ble_eq_true rfl) dX9_kept_15 ⟨Nat.le_of_ble_eq_true rfl, Nat.le_of_ble_eq_true rfl⟩ (fun H locs S => ?_)
    refine W.eq (g2 := F0 m 18 ls [.int q2.1, .int x2]) rfl ?_
    refine lv_if_ne (tgt := 48) hx hb dX9_kept_18 (by decide) (fun hc => ?_) (fun hc => ?_)
    · replace hf := im hf hc
      exact w_X9_kept_b48 X Z hK4 _ _ _ _ _ hf _ _ _ S (lv_sub hl [0, 1, 3] rfl)
    · replace hf := ip hf hc
      refine lv_aload_n hx hb dX9_kept_21 rfl (lv_at hl 0 rfl) ?_
      obtain ⟨r3, e_r3, hf⟩ := ob hf
      refine r_getR X S fl_X9_7 e_r3 dX9_kept_22 ?_
      refine lv_bipush (v := 54) hx hb dX9_kept_25 (by decide) ?_
      refine lv_iload_n hx hb dX9_kept_27 rfl (lv_at hl 3 rfl) ?_
      refine lv_iadd hx hb dX9_kept_28 ?_
      obtain ⟨v4, e_v4, hf⟩ := ob hf
      refine r_ald X S e_v4 dX9_kept_29 ?_
      refine lv_iconst (v := (-1)) hx hb dX9_kept_30 (by decide) ?_
      refine lv_icmp_eq (tgt := 48) hx hb dX9_kept_31 (by decide) (fun hc => ?_) (fun hc => ?_)
      · replace hf := ip hf hc
        exact w_X9_kept_b48 X Z hK4 _ _ _ _ _ hf _ _ _ S (lv_sub hl [0, 1, 3] rfl)
      · replace hf := im hf hc
        refine lv_iconst (v := 1) hx hb dX9_kept_34 (by decide) ?_
        refine lv_aload_n hx hb dX9_kept_35 rfl (lv_at hl 0 rfl) ?_
        obtain ⟨r5, e_r5, hf⟩ := ob hf
        refine r_getR X S fl_X9_7 e_r5 dX9_kept_36 ?_
        refine lv_bipush (v := 54) hx hb dX9_kept_39 (by decide) ?_
        refine lv_iload_n hx hb dX9_kept_41 rfl (lv_at hl 3 rfl) ?_
        refine lv_iadd hx hb dX9_kept_42 ?_
        obtain ⟨v6, e_v6, hf⟩ := ob hf
        refine r_ald X S e_v6 dX9_kept_43 ?_
        refine lv_ishl hx hb dX9_kept_44 ?_
        refine lv_goto (tgt := 49) hx hb dX9_kept_45 (by decide) ?_
        exact w_X9_kept_b49 X Z hK4 _ _ _ _ _ _ hf _ _ _ S (lv_sub hl [0, 1, 3] rfl)
def F_X9_kept_4  : Nat → Nat → Int32 → Int32 → Int32 → HP → Option (Int32 × HP)
  | 0 => fun _ _ _ _ _ => none
  | n + 1 => fun a0 x1 x2 x3 h => f_X9_kept_b4 (F_X9_kept_4  n) a0 x1 x2 x3 h
theorem wl_X9_kept_4 (X : CX RX9 cX9_kept 4 (some .int) p s m args meth c G b) {out : Int32 × HP} (Z : ZI p l e RM_X9_kept s m args below meth c cX9_kept G b False 0 0 Q out)  : ∀ (n : Nat) (a0 : Nat) (x1 : Int32) (x2 : Int32) (x3 : Int32) (h : HP), F_X9_kept_4  n a0 x1 x2 x3 h = some out → ∀ (H : Heap) (locs : List Loc) (ls : Array Slot), ST G b False s h H locs → lv_has ls 4 [(0, .ref (b + a0)), (1, .int x1), (2, .int x2), (3, .int x3)] → W p l e RM_X9_kept s m args below meth c H locs 0 0 Q (F0 m 4 ls []) := by
  intro n
  induction n with
  | zero => intro a0 x1 x2 x3 h hf; exact nn hf
  | succ n ih => exact w_X9_kept_b4 X Z ih
def f_X9_kept_e  (a0 : Nat) (x1 : Int32) (h : HP) : Option (Int32 × HP) :=
  F_X9_kept_4  FU a0 x1 0 0 h
set_option maxRecDepth 100000 in
set_option maxHeartbeats 4000000 in
theorem w_X9_kept_e (X : CX RX9 cX9_kept 4 (some .int) p s m args meth c G b) {out : Int32 × HP} (Z : ZI p l e RM_X9_kept s m args below meth c cX9_kept G b False 0 0 Q out)  : ∀ (a0 : Nat) (x1 : Int32) (h : HP), f_X9_kept_e  a0 x1 h = some out → ∀ (H : Heap) (locs : List Loc) (ls : Array Slot), ST G b False s h H locs → lv_has ls 4 [(0, .ref (b + a0)), (1, .int x1)] → W p l e RM_X9_kept s m args below meth c H locs 0 0 Q (F0 m 0 ls []) := by
  intro a0 x1 h hf H locs ls S hl
  unfold f_X9_kept_e at hf
  have hx := X.1
  have hb := X.2.1
  refine lv_iconst (v := 0) hx hb dX9_kept_0 (by decide) ?_
  refine lv_istore_n (lv' := [(2, .int 0), (0, .ref (b + a0)), (1, .int x1)]) hx hb dX9_kept_1 rfl hl (by decide) rfl (fun ls hl => ?_)
  refine lv_iconst (v := 0) hx hb dX9_kept_2 (by decide) ?_
  refine lv_istore_n (lv' := [(3, .int 0), (2, .int 0), (0, .ref (b + a0)), (1, .int x1)]) hx hb dX9_kept_3 rfl hl (by decide) rfl (fun ls hl => ?_)
  exact wl_X9_kept_4 X Z  FU _ _ _ _ _ hf _ _ _ S (lv_sub hl [2, 3, 1, 0] rfl)
def f_X9_kept (a0 : Nat) (x1 : Int32) (h : HP) : Option (Int32 × HP) := ck h a0 9 (f_X9_kept_e a0 x1 h)
theorem o_X9_kept {a0 : Nat} {x1 : Int32} {h : HP} {out : Int32 × HP} (hf : f_X9_kept a0 x1 h = some out) : ∃ fs, h[a0]? = some (.inl (9, fs)) := (ck_spec hf).1
set_option maxRecDepth 100000 in
theorem c_X9_kept {l : Launch} {G : GT} {b : Nat} {a0 : Nat} {x1 : Int32} {h : HP} {out : Int32 × HP} (hf : f_X9_kept a0 x1 h = some out) : MT l G b False False yX9_kept cX9_kept 4 (some .int) RM_X9_kept [.ref (b + a0), .int x1] h (some (.int out.1)) out.2 0 0 := by
  refine met_of (by decide) (Nat.le_of_ble_eq_true rfl) ?_
  intro p e s m below meth c ls X hnm S hl
  have hl : lv_has ls 4 [(0, .ref (b + a0)), (1, .int x1)] := hl
  replace hf := (ck_spec hf).2
  exact w_X9_kept_e X (z_i X) _ _ _ hf _ _ _ S hl
/-! RoomRingsModel.byLot(I)I -/
abbrev RM_X9_byLot : Room := { frames := 2, cells := 0, slots := 0, locals := 51 }
def f_X9_byLot_b77 (K14 : Nat → Int32 → Int32 → Int32 → Int32 → HP → Option (Int32 × HP)) (a0 : Nat) (x1 : Int32) (x3 : Int32) (x4 : Int32) (x5 : Int32) (x6 : Int32) (s0 : Int32) (s1 : Int32) (h : HP) : Option (Int32 × HP) :=
  if x5 = x1 then
    some (x6, h)
  else
    K14 a0 x1 (s0 &&& s1) x3 (x4 + 1) h
set_option maxRecDepth 100000 in
set_option maxHeartbeats 4000000 in
theorem w_X9_byLot_b77 (X : CX RX9 cX9_byLot 7 (some .int) p s m args meth c G b) {out : Int32 × HP} (Z : ZI p l e RM_X9_byLot s m args below meth c cX9_byLot G b False 0 0 Q out) {K14 : Nat → Int32 → Int32 → Int32 → Int32 → HP → Option (Int32 × HP)} (hK14 : ∀ (a0 : Nat) (x1 : Int32) (x2 : Int32) (x3 : Int32) (x4 : Int32) (h : HP), K14 a0 x1 x2 x3 x4 h = some out → ∀ (H : Heap) (locs : List Loc) (ls : Array Slot), ST G b False s h H locs → lv_has ls 7 [(0, .ref (b + a0)), (1, .int x1), (2, .int x2), (3, .int x3), (4, .int x4)] → W p l e RM_X9_byLot s m args below meth c H locs 0 0 Q (F0 m 14 ls [])) : ∀ (a0 : Nat) (x1 : Int32) (x3 : Int32) (x4 : Int32) (x5 : Int32) (x6 : Int32) (s0 : Int32) (s1 : Int32) (h : HP), f_X9_byLot_b77 K14 a0 x1 x3 x4 x5 x6 s0 s1 h = some out → ∀ (H : Heap) (locs : List Loc) (ls : Array Slot), ST G b False s h H locs → lv_has ls 7 [(0, .ref (b + a0)), (1, .int x1), (3, .int x3), (4, .int x4), (5, .int x5), (6, .int x6)] → W p l e RM_X9_byLot s m args below meth c H locs 0 0 Q (F0 m 77 ls [.int s1, .int s0]) := by
  intro a0 x1 x3 x4 x5 x6 s0 s1 h hf H locs ls S hl
  unfold f_X9_byLot_b77 at hf
  have hx := X.1
  have hb := X.2.1
  refine lv_iand hx hb dX9_byLot_77 ?_
  refine lv_istore_n (lv' := [(2, .int (s0 &&& s1)), (0, .ref (b + a0)), (1, .int x1), (3, .int x3), (4, .int x4), (5, .int x5), (6, .int x6)]) hx hb dX9_byLot_78 rfl hl (by decide) rfl (fun ls hl => ?_)
  refine lv_iload hx hb dX9_byLot_79 (lv_at hl 5 rfl) ?_
  refine lv_iload_n hx hb dX9_byLot_81 rfl (lv_at hl 2 rfl) ?_
  refine lv_icmp_ne (tgt := 88) hx hb dX9_byLot_82 (by decide) (fun hc => ?_) (fun hc => ?_)
  · replace hf := im hf hc
    refine lv_iinc (v := x4 + 1) (lv' := [(4, .int (x4 + 1)), (2, .int (s0 &&& s1)), (0, .ref (b + a0)), (1, .int x1), (3, .int x3), (5, .int x5), (6, .int x6)]) hx hb dX9_byLot_88 hl (k := 4) rfl rfl (by decide) rfl (fun ls hl => ?_)
    refine lv_goto (tgt := 14) hx hb dX9_byLot_91 (by decide) ?_
    exact hK14 _ _ _ _ _ _ hf _ _ _ S (lv_sub hl [2, 3, 1, 4, 0] rfl)
  · replace hf := ip hf hc
    refine lv_iload hx hb dX9_byLot_85 (lv_at hl 6 rfl) ?_
    obtain rfl := Option.some.inj hf
    exact Z _ _ _ _ dX9_byLot_87 S
def f_X9_byLot_b14 (K14 : Nat → Int32 → Int32 → Int32 → Int32 → HP → Option (Int32 × HP)) (a0 : Nat) (x1 : Int32) (x2 : Int32) (x3 : Int32) (x4 : Int32) (h : HP) : Option (Int32 × HP) :=
  (gI h a0 9 2).bind fun v1 =>
  if v1 ≤ x4 then
    some ((-1), h)
  else
    (gR h a0 9 0).bind fun r2 =>
    (ald h r2 (60 + x4)).bind fun v3 =>
    (f_X9_kept a0 (x3 ||| (1 <<< (v3 &&& 31))) h).bind fun q4 =>
    (f_X9_mostOf a0 0 v3 (x2 &&& (q4.1 ^^^ (-1))) q4.2).bind fun q5 =>
    if q5.1 = (-1) then
      f_X9_byLot_b77 K14 a0 x1 (x3 ||| (1 <<< (v3 &&& 31))) x4 v3 q5.1 x2 x2 q5.2
    else
      f_X9_byLot_b77 K14 a0 x1 (x3 ||| (1 <<< (v3 &&& 31))) x4 v3 q5.1 x2 ((1 <<< (q5.1 &&& 31)) ^^^ (-1)) q5.2
set_option maxRecDepth 100000 in
set_option maxHeartbeats 4000000 in
theorem w_X9_byLot_b14 (X : CX RX9 cX9_byLot 7 (some .int) p s m args meth c G b) {out : Int32 × HP} (Z : ZI p l e RM_X9_byLot s m args below meth c cX9_byLot G b False 0 0 Q out) {K14 : Nat → Int32 → Int32 → Int32 → Int32 → HP → Option (Int32 × HP)} (hK14 : ∀ (a0 : Nat) (x1 : Int32) (x2 : Int32) (x3 : Int32) (x4 : Int32) (h : HP), K14 a0 x1 x2 x3 x4 h = some out → ∀ (H : Heap) (locs : List Loc) (ls : Array Slot), ST G b False s h H locs → lv_has ls 7 [(0, .ref (b + a0)), (1, .int x1), (2, .int x2), (3, .int x3), (4, .int x4)] → W p l e RM_X9_byLot s m args below meth c H locs 0 0 Q (F0 m 14 ls [])) : ∀ (a0 : Nat) (x1 : Int32) (x2 : Int32) (x3 : Int32) (x4 : Int32) (h : HP), f_X9_byLot_b14 K14 a0 x1 x2 x3 x4 h = some out → ∀ (H : Heap) (locs : List Loc) (ls : Array Slot), ST G b False s h H locs → lv_has ls 7 [(0, .ref (b + a0)), (1, .int x1), (2, .int x2), (3, .int x3), (4, .int x4)] → W p l e RM_X9_byLot s m args below meth c H locs 0 0 Q (F0 m 14 ls []) := by
  intro a0 x1 x2 x3 x4 h hf H locs ls S hl
  unfold f_X9_byLot_b14 at hf
  have hx := X.1
  have hb := X.2.1
  refine lv_iload hx hb dX9_byLot_14 (lv_at hl 4 rfl) ?_
  refine lv_aload_n hx hb dX9_byLot_16 rfl (lv_at hl 0 rfl) ?_
  obtain ⟨v1, e_v1, hf⟩ := ob hf
  refine r_getI X S fl_X9_51 e_v1 dX9_byLot_17 ?_
  refine lv_icmp_ge (tgt := 94) hx hb dX9_byLot_20 (by decide) (fun hc => ?_) (fun hc => ?_)
  · replace hf := ip hf hc
    refine lv_iconst (v := (-1)) hx hb dX9_byLot_94 (by decide) ?_
    obtain rfl := Option.some.inj hf
    exact Z _ _ _ _ dX9_byLot_95 S
  · replace hf := im hf hc
    refine lv_aload_n hx hb dX9_byLot_23 rfl (lv_at hl 0 rfl) ?_
    obtain ⟨r2, e_r2, hf⟩ := ob hf
    refine r_getR X S fl_X9_7 e_r2 dX9_byLot_24 ?_
    refine lv_bipush (v := 60) hx hb dX9_byLot_27 (by decide) ?_
    refine lv_iload hx hb dX9_byLot_29 (lv_at hl 4 rfl) ?_
    refine lv_iadd hx hb dX9_byLot_31 ?_
    obtain ⟨v3, e_v3, hf⟩ := ob hf
    refine r_ald X S e_v3 dX9_byLot_32 ?_
    refine lv_istore (lv' := [(5, .int v3), (0, .ref (b + a0)), (1, .int x1), (2, .int x2), (3, .int x3), (4, .int x4)]) hx hb dX9_byLot_33 hl (by decide) rfl (fun ls hl => ?_)
    refine lv_iload_n hx hb dX9_byLot_35 rfl (lv_at hl 4 rfl) ?_
    refine lv_iconst (v := 1) hx hb dX9_byLot_36 (by decide) ?_
    refine lv_iload hx hb dX9_byLot_37 (lv_at hl 0 rfl) ?_
    refine lv_ishl hx hb dX9_byLot_39 ?_
    refine lv_ior hx hb dX9_byLot_40 ?_
    refine lv_istore_n (lv' := [(3, .int (x3 ||| (1 <<< (v3 &&& 31)))), (5, .int v3), (0, .ref (b + a0)), (1, .int x1), (2, .int x2), (4, .int x4)]) hx hb dX9_byLot_41 rfl hl (by decide) rfl (fun ls hl => ?_)
    refine lv_aload_n hx hb dX9_byLot_42 rfl (lv_at hl 2 rfl) ?_
    refine lv_iconst (v := 0) hx hb dX9_byLot_43 (by decide) ?_
    refine lv_iload hx hb dX9_byLot_44 (lv_at hl 1 rfl) ?_
    refine lv_iload_n hx hb dX9_byLot_46 rfl (lv_at hl 4 rfl) ?_
    refine lv_aload_n hx hb dX9_byLot_47 rfl (lv_at hl 2 rfl) ?_
    refine lv_iload_n hx hb dX9_byLot_48 rfl (lv_at hl 0 rfl) ?_
    obtain ⟨q4, e_q4, hf⟩ := ob hf
    refine r_callV X S hl.1 (As := [.int (x3 ||| (1 <<< (v3 &&& 31)))]) (rest := [.int x2, .int v3, .int 0, .ref (b + a0)]) (c_X9_kept e_q4) my_X9_kept mv_X9_kept ml_X9_200 rfl (o_X9_kept e_q4) ⟨rfl, rfl, Nat.le_of_ble_eq_true rfl, Nat.le_of_ble_eq_true rfl⟩ rfl rfl (Nat.le_of_ble_eq_true rfl) dX9_byLot_49 ⟨Nat.le_of_ble_eq_true rfl, Nat.le_of_ble_eq_true rfl⟩ (fun H locs S => ?_)
    refine W.eq (g2 := F0 m 52 ls [.int q4.1, .int x2, .int v3, .int 0, .ref (b + a0)]) rfl ?_
    refine lv_iconst (v := (-1)) hx hb dX9_byLot_52 (by decide) ?_
    refine lv_ixor hx hb dX9_byLot_53 ?_
    refine lv_iand hx hb dX9_byLot_54 ?_
    obtain ⟨q5, e_q5, hf⟩ := ob hf
    refine r_callV X S hl.1 (As := [.int 0, .int v3, .int (x2 &&& (q4.1 ^^^ (-1)))]) (rest := []) (c_X9_mostOf e_q5) my_X9_mostOf mv_X9_mostOf ml_X9_148 rfl (o_X9_mostOf e_q5) ⟨rfl, rfl, Nat.le_of_ble_eq_true rfl, Nat.le_of_ble_eq_true rfl⟩ rfl rfl (Nat.le_of_ble_eq_true rfl) dX9_byLot_55 ⟨Nat.le_of_ble_eq_true rfl, Nat.le_of_ble_eq_true rfl⟩ (fun H locs S => ?_)
    refine W.eq (g2 := F0 m 58 ls [.int q5.1]) rfl ?_
    refine lv_istore (lv' := [(6, .int q5.1), (3, .int (x3 ||| (1 <<< (v3 &&& 31)))), (5, .int v3), (0, .ref (b + a0)), (1, .int x1), (2, .int x2), (4, .int x4)]) hx hb dX9_byLot_58 hl (by decide) rfl (fun ls hl => ?_)
    refine lv_iload_n hx hb dX9_byLot_60 rfl (lv_at hl 5 rfl) ?_
    refine lv_iload hx hb dX9_byLot_61 (lv_at hl 0 rfl) ?_
    refine lv_iconst (v := (-1)) hx hb dX9_byLot_63 (by decide) ?_
    refine lv_icmp_ne (tgt := 71) hx hb dX9_byLot_64 (by decide) (fun hc => ?_) (fun hc => ?_)
    · replace hf := im hf hc
      refine lv_iconst (v := 1) hx hb dX9_byLot_71 (by decide) ?_
      refine lv_iload hx hb dX9_byLot_72 (lv_at hl 0 rfl) ?_
      refine lv_ishl hx hb dX9_byLot_74 ?_
      refine lv_iconst (v := (-1)) hx hb dX9_byLot_75 (by decide) ?_
      refine lv_ixor hx hb dX9_byLot_76 ?_
      exact w_X9_byLot_b77 X Z hK14 _ _ _ _ _ _ _ _ _ hf _ _ _ S (lv_sub hl [3, 4, 1, 6, 2, 0] rfl)
    · replace hf := ip hf hc
      refine lv_iload_n hx hb dX9_byLot_67 rfl (lv_at hl 5 rfl) ?_
      refine lv_goto (tgt := 77) hx hb dX9_byLot_68 (by decide) ?_
      exact w_X9_byLot_b77 X Z hK14 _ _ _ _ _ _ _ _ _ hf _ _ _ S (lv_sub hl [3, 4, 1, 6, 2, 0] rfl)
def F_X9_byLot_14  : Nat → Nat → Int32 → Int32 → Int32 → Int32 → HP → Option (Int32 × HP)
  | 0 => fun _ _ _ _ _ _ => none
  | n + 1 => fun a0 x1 x2 x3 x4 h => f_X9_byLot_b14 (F_X9_byLot_14  n) a0 x1 x2 x3 x4 h
theorem wl_X9_byLot_14 (X : CX RX9 cX9_byLot 7 (some .int) p s m args meth c G b) {out : Int32 × HP} (Z : ZI p l e RM_X9_byLot s m args below meth c cX9_byLot G b False 0 0 Q out)  : ∀ (n : Nat) (a0 : Nat) (x1 : Int32) (x2 : Int32) (x3 : Int32) (x4 : Int32) (h : HP), F_X9_byLot_14  n a0 x1 x2 x3 x4 h = some out → ∀ (H : Heap) (locs : List Loc) (ls : Array Slot), ST G b False s h H locs → lv_has ls 7 [(0, .ref (b + a0)), (1, .int x1), (2, .int x2), (3, .int x3), (4, .int x4)] → W p l e RM_X9_byLot s m args below meth c H locs 0 0 Q (F0 m 14 ls []) := by
  intro n
  induction n with
  | zero => intro a0 x1 x2 x3 x4 h hf; exact nn hf
  | succ n ih => exact w_X9_byLot_b14 X Z ih
def f_X9_byLot_e  (a0 : Nat) (x1 : Int32) (h : HP) : Option (Int32 × HP) :=
  (gI h a0 9 1).bind fun v1 =>
  F_X9_byLot_14  FU a0 x1 ((1 <<< (v1 &&& 31)) - 1) 0 0 h
set_option maxRecDepth 100000 in
set_option maxHeartbeats 4000000 in
theorem w_X9_byLot_e (X : CX RX9 cX9_byLot 7 (some .int) p s m args meth c G b) {out : Int32 × HP} (Z : ZI p l e RM_X9_byLot s m args below meth c cX9_byLot G b False 0 0 Q out)  : ∀ (a0 : Nat) (x1 : Int32) (h : HP), f_X9_byLot_e  a0 x1 h = some out → ∀ (H : Heap) (locs : List Loc) (ls : Array Slot), ST G b False s h H locs → lv_has ls 7 [(0, .ref (b + a0)), (1, .int x1)] → W p l e RM_X9_byLot s m args below meth c H locs 0 0 Q (F0 m 0 ls []) := by
  intro a0 x1 h hf H locs ls S hl
  unfold f_X9_byLot_e at hf
  have hx := X.1
  have hb := X.2.1
  refine lv_iconst (v := 1) hx hb dX9_byLot_0 (by decide) ?_
  refine lv_aload_n hx hb dX9_byLot_1 rfl (lv_at hl 0 rfl) ?_
  obtain ⟨v1, e_v1, hf⟩ := ob hf
  refine r_getI X S fl_X9_58 e_v1 dX9_byLot_2 ?_
  refine lv_ishl hx hb dX9_byLot_5 ?_
  refine lv_iconst (v := 1) hx hb dX9_byLot_6 (by decide) ?_
  refine lv_isub hx hb dX9_byLot_7 ?_
  refine lv_istore_n (lv' := [(2, .int ((1 <<< (v1 &&& 31)) - 1)), (0, .ref (b + a0)), (1, .int x1)]) hx hb dX9_byLot_8 rfl hl (by decide) rfl (fun ls hl => ?_)
  refine lv_iconst (v := 0) hx hb dX9_byLot_9 (by decide) ?_
  refine lv_istore_n (lv' := [(3, .int 0), (2, .int ((1 <<< (v1 &&& 31)) - 1)), (0, .ref (b + a0)), (1, .int x1)]) hx hb dX9_byLot_10 rfl hl (by decide) rfl (fun ls hl => ?_)
  refine lv_iconst (v := 0) hx hb dX9_byLot_11 (by decide) ?_
  refine lv_istore (lv' := [(4, .int 0), (3, .int 0), (2, .int ((1 <<< (v1 &&& 31)) - 1)), (0, .ref (b + a0)), (1, .int x1)]) hx hb dX9_byLot_12 hl (by decide) rfl (fun ls hl => ?_)
  exact wl_X9_byLot_14 X Z  FU _ _ _ _ _ _ hf _ _ _ S (lv_sub hl [3, 4, 2, 1, 0] rfl)
def f_X9_byLot (a0 : Nat) (x1 : Int32) (h : HP) : Option (Int32 × HP) := ck h a0 9 (f_X9_byLot_e a0 x1 h)
theorem o_X9_byLot {a0 : Nat} {x1 : Int32} {h : HP} {out : Int32 × HP} (hf : f_X9_byLot a0 x1 h = some out) : ∃ fs, h[a0]? = some (.inl (9, fs)) := (ck_spec hf).1
set_option maxRecDepth 100000 in
theorem c_X9_byLot {l : Launch} {G : GT} {b : Nat} {a0 : Nat} {x1 : Int32} {h : HP} {out : Int32 × HP} (hf : f_X9_byLot a0 x1 h = some out) : MT l G b False False yX9_byLot cX9_byLot 7 (some .int) RM_X9_byLot [.ref (b + a0), .int x1] h (some (.int out.1)) out.2 0 0 := by
  refine met_of (by decide) (Nat.le_of_ble_eq_true rfl) ?_
  intro p e s m below meth c ls X hnm S hl
  have hl : lv_has ls 7 [(0, .ref (b + a0)), (1, .int x1)] := hl
  replace hf := (ck_spec hf).2
  exact w_X9_byLot_e X (z_i X) _ _ _ hf _ _ _ S hl
/-! RoomRingsModel.placeInLots(I)I -/
abbrev RM_X9_placeInLots : Room := { frames := 0, cells := 0, slots := 0, locals := 0 }
def f_X9_placeInLots_b2 (K2 : Nat → Int32 → Int32 → HP → Option (Int32 × HP)) (a0 : Nat) (x1 : Int32) (x2 : Int32) (h : HP) : Option (Int32 × HP) :=
  (gR h a0 9 0).bind fun r1 =>
  (ald h r1 (60 + x2)).bind fun v2 =>
  if v2 = x1 then
    some (x2, h)
  else
    K2 a0 x1 (x2 + 1) h
set_option maxRecDepth 100000 in
set_option maxHeartbeats 4000000 in
theorem w_X9_placeInLots_b2 (X : CX RX9 cX9_placeInLots 3 (some .int) p s m args meth c G b) {out : Int32 × HP} (Z : ZI p l e RM_X9_placeInLots s m args below meth c cX9_placeInLots G b False 0 0 Q out) {K2 : Nat → Int32 → Int32 → HP → Option (Int32 × HP)} (hK2 : ∀ (a0 : Nat) (x1 : Int32) (x2 : Int32) (h : HP), K2 a0 x1 x2 h = some out → ∀ (H : Heap) (locs : List Loc) (ls : Array Slot), ST G b False s h H locs → lv_has ls 3 [(0, .ref (b + a0)), (1, .int x1), (2, .int x2)] → W p l e RM_X9_placeInLots s m args below meth c H locs 0 0 Q (F0 m 2 ls [])) : ∀ (a0 : Nat) (x1 : Int32) (x2 : Int32) (h : HP), f_X9_placeInLots_b2 K2 a0 x1 x2 h = some out → ∀ (H : Heap) (locs : List Loc) (ls : Array Slot), ST G b False s h H locs → lv_has ls 3 [(0, .ref (b + a0)), (1, .int x1), (2, .int x2)] → W p l e RM_X9_placeInLots s m args below meth c H locs 0 0 Q (F0 m 2 ls []) := by
  intro a0 x1 x2 h hf H locs ls S hl
  unfold f_X9_placeInLots_b2 at hf
  have hx := X.1
  have hb := X.2.1
  refine lv_aload_n hx hb dX9_placeInLots_2 rfl (lv_at hl 0 rfl) ?_
  obtain ⟨r1, e_r1, hf⟩ := ob hf
  refine r_getR X S fl_X9_7 e_r1 dX9_placeInLots_3 ?_
  refine lv_bipush (v := 60) hx hb dX9_placeInLots_6 (by decide) ?_
  refine lv_iload_n hx hb dX9_placeInLots_8 rfl (lv_at hl 2 rfl) ?_
  refine lv_iadd hx hb dX9_placeInLots_9 ?_
  obtain ⟨v2, e_v2, hf⟩ := ob hf
  refine r_ald X S e_v2 dX9_placeInLots_10 ?_
  refine lv_iload_n hx hb dX9_placeInLots_11 rfl (lv_at hl 1 rfl) ?_
  refine lv_icmp_eq (tgt := 21) hx hb dX9_placeInLots_12 (by decide) (fun hc => ?_) (fun hc => ?_)
  · replace hf := ip hf hc
    refine lv_iload_n hx hb dX9_placeInLots_21 rfl (lv_at hl 2 rfl) ?_
    obtain rfl := Option.some.inj hf
    exact Z _ _ _ _ dX9_placeInLots_22 S
  · replace hf := im hf hc
    refine lv_iinc (v := x2 + 1) (lv' := [(2, .int (x2 + 1)), (0, .ref (b + a0)), (1, .int x1)]) hx hb dX9_placeInLots_15 hl (k := 2) rfl rfl (by decide) rfl (fun ls hl => ?_)
    refine lv_goto (tgt := 2) hx hb dX9_placeInLots_18 (by decide) ?_
    exact hK2 _ _ _ _ hf _ _ _ S (lv_sub hl [1, 2, 0] rfl)
def F_X9_placeInLots_2  : Nat → Nat → Int32 → Int32 → HP → Option (Int32 × HP)
  | 0 => fun _ _ _ _ => none
  | n + 1 => fun a0 x1 x2 h => f_X9_placeInLots_b2 (F_X9_placeInLots_2  n) a0 x1 x2 h
theorem wl_X9_placeInLots_2 (X : CX RX9 cX9_placeInLots 3 (some .int) p s m args meth c G b) {out : Int32 × HP} (Z : ZI p l e RM_X9_placeInLots s m args below meth c cX9_placeInLots G b False 0 0 Q out)  : ∀ (n : Nat) (a0 : Nat) (x1 : Int32) (x2 : Int32) (h : HP), F_X9_placeInLots_2  n a0 x1 x2 h = some out → ∀ (H : Heap) (locs : List Loc) (ls : Array Slot), ST G b False s h H locs → lv_has ls 3 [(0, .ref (b + a0)), (1, .int x1), (2, .int x2)] → W p l e RM_X9_placeInLots s m args below meth c H locs 0 0 Q (F0 m 2 ls []) := by
  intro n
  induction n with
  | zero => intro a0 x1 x2 h hf; exact nn hf
  | succ n ih => exact w_X9_placeInLots_b2 X Z ih
def f_X9_placeInLots_e  (a0 : Nat) (x1 : Int32) (h : HP) : Option (Int32 × HP) :=
  F_X9_placeInLots_2  FU a0 x1 0 h
set_option maxRecDepth 100000 in
set_option maxHeartbeats 4000000 in
theorem w_X9_placeInLots_e (X : CX RX9 cX9_placeInLots 3 (some .int) p s m args meth c G b) {out : Int32 × HP} (Z : ZI p l e RM_X9_placeInLots s m args below meth c cX9_placeInLots G b False 0 0 Q out)  : ∀ (a0 : Nat) (x1 : Int32) (h : HP), f_X9_placeInLots_e  a0 x1 h = some out → ∀ (H : Heap) (locs : List Loc) (ls : Array Slot), ST G b False s h H locs → lv_has ls 3 [(0, .ref (b + a0)), (1, .int x1)] → W p l e RM_X9_placeInLots s m args below meth c H locs 0 0 Q (F0 m 0 ls []) := by
  intro a0 x1 h hf H locs ls S hl
  unfold f_X9_placeInLots_e at hf
  have hx := X.1
  have hb := X.2.1
  refine lv_iconst (v := 0) hx hb dX9_placeInLots_0 (by decide) ?_
  refine lv_istore_n (lv' := [(2, .int 0), (0, .ref (b + a0)), (1, .int x1)]) hx hb dX9_placeInLots_1 rfl hl (by decide) rfl (fun ls hl => ?_)
  exact wl_X9_placeInLots_2 X Z  FU _ _ _ _ hf _ _ _ S (lv_sub hl [1, 2, 0] rfl)
def f_X9_placeInLots (a0 : Nat) (x1 : Int32) (h : HP) : Option (Int32 × HP) := ck h a0 9 (f_X9_placeInLots_e a0 x1 h)
theorem o_X9_placeInLots {a0 : Nat} {x1 : Int32} {h : HP} {out : Int32 × HP} (hf : f_X9_placeInLots a0 x1 h = some out) : ∃ fs, h[a0]? = some (.inl (9, fs)) := (ck_spec hf).1
set_option maxRecDepth 100000 in
theorem c_X9_placeInLots {l : Launch} {G : GT} {b : Nat} {a0 : Nat} {x1 : Int32} {h : HP} {out : Int32 × HP} (hf : f_X9_placeInLots a0 x1 h = some out) : MT l G b False False yX9_placeInLots cX9_placeInLots 3 (some .int) RM_X9_placeInLots [.ref (b + a0), .int x1] h (some (.int out.1)) out.2 0 0 := by
  refine met_of (by decide) (Nat.le_of_ble_eq_true rfl) ?_
  intro p e s m below meth c ls X hnm S hl
  have hl : lv_has ls 3 [(0, .ref (b + a0)), (1, .int x1)] := hl
  replace hf := (ck_spec hf).2
  exact w_X9_placeInLots_e X (z_i X) _ _ _ hf _ _ _ S hl
/-! RoomRingsModel.better(I)I -/
abbrev RM_X9_better : Room := { frames := 2, cells := 0, slots := 0, locals := 51 }
def f_X9_better_b31  (s0 : Int32) (h : HP) : Option (Int32 × HP) :=
  some (s0, h)
set_option maxRecDepth 100000 in
set_option maxHeartbeats 4000000 in
theorem w_X9_better_b31 (X : CX RX9 cX9_better 2 (some .int) p s m args meth c G b) {out : Int32 × HP} (Z : ZI p l e RM_X9_better s m args below meth c cX9_better G b False 0 0 Q out)  : ∀ (s0 : Int32) (h : HP), f_X9_better_b31  s0 h = some out → ∀ (H : Heap) (locs : List Loc) (ls : Array Slot), ST G b False s h H locs → lv_has ls 2 [] → W p l e RM_X9_better s m args below meth c H locs 0 0 Q (F0 m 31 ls [.int s0]) := by
  intro s0 h hf H locs ls S hl
  unfold f_X9_better_b31 at hf
  have hx := X.1
  have hb := X.2.1
  obtain rfl := Option.some.inj hf
  exact Z _ _ _ _ dX9_better_31 S
def f_X9_better_e  (a0 : Nat) (x1 : Int32) (h : HP) : Option (Int32 × HP) :=
  (gR h a0 9 8).bind fun r1 =>
  (ald h r1 x1).bind fun v2 =>
  if v2 = (-1) then
    (f_X9_layWants a0 0 x1 h).bind fun q3 =>
    f_X9_better_b31  q3.1 q3.2
  else
    (gR h a0 9 8).bind fun r4 =>
    (ald h r4 x1).bind fun v5 =>
    (f_X9_rankOf a0 0 x1 v5 h).bind fun q6 =>
    f_X9_better_b31  q6.1 q6.2
set_option maxRecDepth 100000 in
set_option maxHeartbeats 4000000 in
theorem w_X9_better_e (X : CX RX9 cX9_better 2 (some .int) p s m args meth c G b) {out : Int32 × HP} (Z : ZI p l e RM_X9_better s m args below meth c cX9_better G b False 0 0 Q out)  : ∀ (a0 : Nat) (x1 : Int32) (h : HP), f_X9_better_e  a0 x1 h = some out → ∀ (H : Heap) (locs : List Loc) (ls : Array Slot), ST G b False s h H locs → lv_has ls 2 [(0, .ref (b + a0)), (1, .int x1)] → W p l e RM_X9_better s m args below meth c H locs 0 0 Q (F0 m 0 ls []) := by
  intro a0 x1 h hf H locs ls S hl
  unfold f_X9_better_e at hf
  have hx := X.1
  have hb := X.2.1
  refine lv_aload_n hx hb dX9_better_0 rfl (lv_at hl 0 rfl) ?_
  obtain ⟨r1, e_r1, hf⟩ := ob hf
  refine r_getR X S fl_X9_20 e_r1 dX9_better_1 ?_
  refine lv_iload_n hx hb dX9_better_4 rfl (lv_at hl 1 rfl) ?_
  obtain ⟨v2, e_v2, hf⟩ := ob hf
  refine r_ald X S e_v2 dX9_better_5 ?_
  refine lv_iconst (v := (-1)) hx hb dX9_better_6 (by decide) ?_
  refine lv_icmp_ne (tgt := 19) hx hb dX9_better_7 (by decide) (fun hc => ?_) (fun hc => ?_)
  · replace hf := im hf hc
    refine lv_aload_n hx hb dX9_better_19 rfl (lv_at hl 0 rfl) ?_
    refine lv_iconst (v := 0) hx hb dX9_better_20 (by decide) ?_
    refine lv_iload_n hx hb dX9_better_21 rfl (lv_at hl 1 rfl) ?_
    refine lv_aload_n hx hb dX9_better_22 rfl (lv_at hl 0 rfl) ?_
    obtain ⟨r4, e_r4, hf⟩ := ob hf
    refine r_getR X S fl_X9_20 e_r4 dX9_better_23 ?_
    refine lv_iload_n hx hb dX9_better_26 rfl (lv_at hl 1 rfl) ?_
    obtain ⟨v5, e_v5, hf⟩ := ob hf
    refine r_ald X S e_v5 dX9_better_27 ?_
    obtain ⟨q6, e_q6, hf⟩ := ob hf
    refine r_callV X S hl.1 (As := [.int 0, .int x1, .int v5]) (rest := []) (c_X9_rankOf e_q6) my_X9_rankOf mv_X9_rankOf ml_X9_178 rfl (o_X9_rankOf e_q6) ⟨rfl, rfl, Nat.le_of_ble_eq_true rfl, Nat.le_of_ble_eq_true rfl⟩ rfl rfl (Nat.le_of_ble_eq_true rfl) dX9_better_28 ⟨Nat.le_of_ble_eq_true rfl, Nat.le_of_ble_eq_true rfl⟩ (fun H locs S => ?_)
    refine W.eq (g2 := F0 m 31 ls [.int q6.1]) rfl ?_
    exact w_X9_better_b31 X Z  _ _ hf _ _ _ S (lv_sub hl [] rfl)
  · replace hf := ip hf hc
    refine lv_aload_n hx hb dX9_better_10 rfl (lv_at hl 0 rfl) ?_
    refine lv_iconst (v := 0) hx hb dX9_better_11 (by decide) ?_
    refine lv_iload_n hx hb dX9_better_12 rfl (lv_at hl 1 rfl) ?_
    obtain ⟨q3, e_q3, hf⟩ := ob hf
    refine r_callV X S hl.1 (As := [.int 0, .int x1]) (rest := []) (c_X9_layWants e_q3) my_X9_layWants mv_X9_layWants ml_X9_131 rfl (o_X9_layWants e_q3) ⟨rfl, rfl, Nat.le_of_ble_eq_true rfl, Nat.le_of_ble_eq_true rfl⟩ rfl rfl (Nat.le_of_ble_eq_true rfl) dX9_better_13 ⟨Nat.le_of_ble_eq_true rfl, Nat.le_of_ble_eq_true rfl⟩ (fun H locs S => ?_)
    refine W.eq (g2 := F0 m 16 ls [.int q3.1]) rfl ?_
    refine lv_goto (tgt := 31) hx hb dX9_better_16 (by decide) ?_
    exact w_X9_better_b31 X Z  _ _ hf _ _ _ S (lv_sub hl [] rfl)
def f_X9_better (a0 : Nat) (x1 : Int32) (h : HP) : Option (Int32 × HP) := ck h a0 9 (f_X9_better_e a0 x1 h)
theorem o_X9_better {a0 : Nat} {x1 : Int32} {h : HP} {out : Int32 × HP} (hf : f_X9_better a0 x1 h = some out) : ∃ fs, h[a0]? = some (.inl (9, fs)) := (ck_spec hf).1
set_option maxRecDepth 100000 in
theorem c_X9_better {l : Launch} {G : GT} {b : Nat} {a0 : Nat} {x1 : Int32} {h : HP} {out : Int32 × HP} (hf : f_X9_better a0 x1 h = some out) : MT l G b False False yX9_better cX9_better 2 (some .int) RM_X9_better [.ref (b + a0), .int x1] h (some (.int out.1)) out.2 0 0 := by
  refine met_of (by decide) (Nat.le_of_ble_eq_true rfl) ?_
  intro p e s m below meth c ls X hnm S hl
  have hl : lv_has ls 2 [(0, .ref (b + a0)), (1, .int x1)] := hl
  replace hf := (ck_spec hf).2
  exact w_X9_better_e X (z_i X) _ _ _ hf _ _ _ S hl
/-! RoomRingsModel.person(II)I -/
abbrev RM_X9_person : Room := { frames := 7, cells := 0, slots := 0, locals := 159 }
def f_X9_person_e  (a0 : Nat) (x1 : Int32) (x2 : Int32) (h : HP) : Option (Int32 × HP) :=
  (f_X9_isPerson a0 x1 h).bind fun q1 =>
  if q1.1 = 0 then
    some ((-1000000001), q1.2)
  else
    (f_X9_giveOut a0 0 q1.2).bind fun h2 =>
    if x2 = nI 0 then
      (gR h2 a0 9 0).bind fun r3 =>
      (ald h2 r3 (54 + x1)).bind fun v4 =>
      some (v4, h2)
    else
      if x2 = nI 1 then
        (gR h2 a0 9 0).bind fun r5 =>
        (ald h2 r5 (48 + x1)).bind fun v6 =>
        some (v6, h2)
      else
        if x2 = nI 2 then
          (f_X9_placeInLots a0 x1 h2).bind fun q7 =>
          some (q7.1, q7.2)
        else
          if x2 = nI 3 then
            (gR h2 a0 9 8).bind fun r8 =>
            (ald h2 r8 x1).bind fun v9 =>
            some (v9, h2)
          else
            if x2 = nI 4 then
              (gR h2 a0 9 9).bind fun r10 =>
              (ald h2 r10 x1).bind fun v11 =>
              some (v11, h2)
            else
              if x2 = nI 5 then
                (gR h2 a0 9 10).bind fun r12 =>
                (ald h2 r12 x1).bind fun v13 =>
                some (v13, h2)
              else
                if x2 = nI 6 then
                  (f_X9_byLot a0 x1 h2).bind fun q14 =>
                  some (q14.1, q14.2)
                else
                  if x2 = nI 7 then
                    (f_X9_better a0 x1 h2).bind fun q15 =>
                    some (q15.1, q15.2)
                  else
                    some ((-1000000002), h2)
set_option maxRecDepth 100000 in
set_option maxHeartbeats 4000000 in
theorem w_X9_person_e (X : CX RX9 cX9_person 3 (some .int) p s m args meth c G b) {out : Int32 × HP} (Z : ZI p l e RM_X9_person s m args below meth c cX9_person G b False 0 0 Q out)  : ∀ (a0 : Nat) (x1 : Int32) (x2 : Int32) (h : HP), f_X9_person_e  a0 x1 x2 h = some out → ∀ (H : Heap) (locs : List Loc) (ls : Array Slot), ST G b False s h H locs → lv_has ls 3 [(0, .ref (b + a0)), (1, .int x1), (2, .int x2)] → W p l e RM_X9_person s m args below meth c H locs 0 0 Q (F0 m 0 ls []) := by
  intro a0 x1 x2 h hf H locs ls S hl
  unfold f_X9_person_e at hf
  have hx := X.1
  have hb := X.2.1
  refine lv_aload_n hx hb dX9_person_0 rfl (lv_at hl 0 rfl) ?_
  refine lv_iload_n hx hb dX9_person_1 rfl (lv_at hl 1 rfl) ?_
  obtain ⟨q1, e_q1, hf⟩ := ob hf
  refine r_callV X S hl.1 (As := [.int x1]) (rest := []) (c_X9_isPerson e_q1) my_X9_isPerson mv_X9_isPerson ml_X9_202 rfl (o_X9_isPerson e_q1) ⟨rfl, rfl, Nat.le_of_ble_eq_true rfl, Nat.le_of_ble_eq_true rfl⟩ rfl rfl (Nat.le_of_ble_eq_true rfl) dX9_person_2 ⟨Nat.le_of_ble_eq_true rfl, Nat.le_of_ble_eq_true rfl⟩ (fun H locs S => ?_)
  refine W.eq (g2 := F0 m 5 ls [.int q1.1]) rfl ?_
  refine lv_if_ne (tgt := 11) hx hb dX9_person_5 (by decide) (fun hc => ?_) (fun hc => ?_)
  · replace hf := im hf hc
    refine lv_aload_n hx hb dX9_person_11 rfl (lv_at hl 0 rfl) ?_
    refine lv_iconst (v := 0) hx hb dX9_person_12 (by decide) ?_
    obtain ⟨h2, e_h2, hf⟩ := ob hf
    refine r_callV X S hl.1 (As := [.int 0]) (rest := []) (c_X9_giveOut e_h2) my_X9_giveOut mv_X9_giveOut ml_X9_187 rfl (o_X9_giveOut e_h2) ⟨rfl, rfl, Nat.le_of_ble_eq_true rfl, Nat.le_of_ble_eq_true rfl⟩ rfl rfl (Nat.le_of_ble_eq_true rfl) dX9_person_13 ⟨Nat.le_of_ble_eq_true rfl, Nat.le_of_ble_eq_true rfl⟩ (fun H locs S => ?_)
    refine W.eq (g2 := F0 m 16 ls []) rfl ?_
    refine lv_iload_n hx hb dX9_person_16 rfl (lv_at hl 2 rfl) ?_
    by_cases hs17_0 : x2 = nI 0
    · replace hf := ip hf hs17_0
      refine lv_tableIn (off := 47) (tgt := 64) hx hb dX9_person_17 (by rw [hs17_0]; decide) (by rw [hs17_0]; decide) (by rw [hs17_0]; decide) (by decide) ?_
      refine lv_aload_n hx hb dX9_person_64 rfl (lv_at hl 0 rfl) ?_
      obtain ⟨r3, e_r3, hf⟩ := ob hf
      refine r_getR X S fl_X9_7 e_r3 dX9_person_65 ?_
      refine lv_bipush (v := 54) hx hb dX9_person_68 (by decide) ?_
      refine lv_iload_n hx hb dX9_person_70 rfl (lv_at hl 1 rfl) ?_
      refine lv_iadd hx hb dX9_person_71 ?_
      obtain ⟨v4, e_v4, hf⟩ := ob hf
      refine r_ald X S e_v4 dX9_person_72 ?_
      obtain rfl := Option.some.inj hf
      exact Z _ _ _ _ dX9_person_73 S
    · replace hf := im hf hs17_0
      by_cases hs17_1 : x2 = nI 1
      · replace hf := ip hf hs17_1
        refine lv_tableIn (off := 57) (tgt := 74) hx hb dX9_person_17 (by rw [hs17_1]; decide) (by rw [hs17_1]; decide) (by rw [hs17_1]; decide) (by decide) ?_
        refine lv_aload_n hx hb dX9_person_74 rfl (lv_at hl 0 rfl) ?_
        obtain ⟨r5, e_r5, hf⟩ := ob hf
        refine r_getR X S fl_X9_7 e_r5 dX9_person_75 ?_
        refine lv_bipush (v := 48) hx hb dX9_person_78 (by decide) ?_
        refine lv_iload_n hx hb dX9_person_80 rfl (lv_at hl 1 rfl) ?_
        refine lv_iadd hx hb dX9_person_81 ?_
        obtain ⟨v6, e_v6, hf⟩ := ob hf
        refine r_ald X S e_v6 dX9_person_82 ?_
        obtain rfl := Option.some.inj hf
        exact Z _ _ _ _ dX9_person_83 S
      · replace hf := im hf hs17_1
        by_cases hs17_2 : x2 = nI 2
        · replace hf := ip hf hs17_2
          refine lv_tableIn (off := 67) (tgt := 84) hx hb dX9_person_17 (by rw [hs17_2]; decide) (by rw [hs17_2]; decide) (by rw [hs17_2]; decide) (by decide) ?_
          refine lv_aload_n hx hb dX9_person_84 rfl (lv_at hl 0 rfl) ?_
          refine lv_iload_n hx hb dX9_person_85 rfl (lv_at hl 1 rfl) ?_
          obtain ⟨q7, e_q7, hf⟩ := ob hf
          refine r_callV X S hl.1 (As := [.int x1]) (rest := []) (c_X9_placeInLots e_q7) my_X9_placeInLots mv_X9_placeInLots ml_X9_207 rfl (o_X9_placeInLots e_q7) ⟨rfl, rfl, Nat.le_of_ble_eq_true rfl, Nat.le_of_ble_eq_true rfl⟩ rfl rfl (Nat.le_of_ble_eq_true rfl) dX9_person_86 ⟨Nat.le_of_ble_eq_true rfl, Nat.le_of_ble_eq_true rfl⟩ (fun H locs S => ?_)
          refine W.eq (g2 := F0 m 89 ls [.int q7.1]) rfl ?_
          obtain rfl := Option.some.inj hf
          exact Z _ _ _ _ dX9_person_89 S
        · replace hf := im hf hs17_2
          by_cases hs17_3 : x2 = nI 3
          · replace hf := ip hf hs17_3
            refine lv_tableIn (off := 73) (tgt := 90) hx hb dX9_person_17 (by rw [hs17_3]; decide) (by rw [hs17_3]; decide) (by rw [hs17_3]; decide) (by decide) ?_
            refine lv_aload_n hx hb dX9_person_90 rfl (lv_at hl 0 rfl) ?_
            obtain ⟨r8, e_r8, hf⟩ := ob hf
            refine r_getR X S fl_X9_20 e_r8 dX9_person_91 ?_
            refine lv_iload_n hx hb dX9_person_94 rfl (lv_at hl 1 rfl) ?_
            obtain ⟨v9, e_v9, hf⟩ := ob hf
            refine r_ald X S e_v9 dX9_person_95 ?_
            obtain rfl := Option.some.inj hf
            exact Z _ _ _ _ dX9_person_96 S
          · replace hf := im hf hs17_3
            by_cases hs17_4 : x2 = nI 4
            · replace hf := ip hf hs17_4
              refine lv_tableIn (off := 80) (tgt := 97) hx hb dX9_person_17 (by rw [hs17_4]; decide) (by rw [hs17_4]; decide) (by rw [hs17_4]; decide) (by decide) ?_
              refine lv_aload_n hx hb dX9_person_97 rfl (lv_at hl 0 rfl) ?_
              obtain ⟨r10, e_r10, hf⟩ := ob hf
              refine r_getR X S fl_X9_23 e_r10 dX9_person_98 ?_
              refine lv_iload_n hx hb dX9_person_101 rfl (lv_at hl 1 rfl) ?_
              obtain ⟨v11, e_v11, hf⟩ := ob hf
              refine r_ald X S e_v11 dX9_person_102 ?_
              obtain rfl := Option.some.inj hf
              exact Z _ _ _ _ dX9_person_103 S
            · replace hf := im hf hs17_4
              by_cases hs17_5 : x2 = nI 5
              · replace hf := ip hf hs17_5
                refine lv_tableIn (off := 87) (tgt := 104) hx hb dX9_person_17 (by rw [hs17_5]; decide) (by rw [hs17_5]; decide) (by rw [hs17_5]; decide) (by decide) ?_
                refine lv_aload_n hx hb dX9_person_104 rfl (lv_at hl 0 rfl) ?_
                obtain ⟨r12, e_r12, hf⟩ := ob hf
                refine r_getR X S fl_X9_26 e_r12 dX9_person_105 ?_
                refine lv_iload_n hx hb dX9_person_108 rfl (lv_at hl 1 rfl) ?_
                obtain ⟨v13, e_v13, hf⟩ := ob hf
                refine r_ald X S e_v13 dX9_person_109 ?_
                obtain rfl := Option.some.inj hf
                exact Z _ _ _ _ dX9_person_110 S
              · replace hf := im hf hs17_5
                by_cases hs17_6 : x2 = nI 6
                · replace hf := ip hf hs17_6
                  refine lv_tableIn (off := 94) (tgt := 111) hx hb dX9_person_17 (by rw [hs17_6]; decide) (by rw [hs17_6]; decide) (by rw [hs17_6]; decide) (by decide) ?_
                  refine lv_aload_n hx hb dX9_person_111 rfl (lv_at hl 0 rfl) ?_
                  refine lv_iload_n hx hb dX9_person_112 rfl (lv_at hl 1 rfl) ?_
                  obtain ⟨q14, e_q14, hf⟩ := ob hf
                  refine r_callV X S hl.1 (As := [.int x1]) (rest := []) (c_X9_byLot e_q14) my_X9_byLot mv_X9_byLot ml_X9_210 rfl (o_X9_byLot e_q14) ⟨rfl, rfl, Nat.le_of_ble_eq_true rfl, Nat.le_of_ble_eq_true rfl⟩ rfl rfl (Nat.le_of_ble_eq_true rfl) dX9_person_113 ⟨Nat.le_of_ble_eq_true rfl, Nat.le_of_ble_eq_true rfl⟩ (fun H locs S => ?_)
                  refine W.eq (g2 := F0 m 116 ls [.int q14.1]) rfl ?_
                  obtain rfl := Option.some.inj hf
                  exact Z _ _ _ _ dX9_person_116 S
                · replace hf := im hf hs17_6
                  by_cases hs17_7 : x2 = nI 7
                  · replace hf := ip hf hs17_7
                    refine lv_tableIn (off := 100) (tgt := 117) hx hb dX9_person_17 (by rw [hs17_7]; decide) (by rw [hs17_7]; decide) (by rw [hs17_7]; decide) (by decide) ?_
                    refine lv_aload_n hx hb dX9_person_117 rfl (lv_at hl 0 rfl) ?_
                    refine lv_iload_n hx hb dX9_person_118 rfl (lv_at hl 1 rfl) ?_
                    obtain ⟨q15, e_q15, hf⟩ := ob hf
                    refine r_callV X S hl.1 (As := [.int x1]) (rest := []) (c_X9_better e_q15) my_X9_better mv_X9_better ml_X9_213 rfl (o_X9_better e_q15) ⟨rfl, rfl, Nat.le_of_ble_eq_true rfl, Nat.le_of_ble_eq_true rfl⟩ rfl rfl (Nat.le_of_ble_eq_true rfl) dX9_person_119 ⟨Nat.le_of_ble_eq_true rfl, Nat.le_of_ble_eq_true rfl⟩ (fun H locs S => ?_)
                    refine W.eq (g2 := F0 m 122 ls [.int q15.1]) rfl ?_
                    obtain rfl := Option.some.inj hf
                    exact Z _ _ _ _ dX9_person_122 S
                  · replace hf := im hf hs17_7
                    refine lv_tableOut (tgt := 123) hx hb dX9_person_17 (sw_out (n := 8) (by decide) (lt_s (lt_s (lt_s (lt_s (lt_s (lt_s (lt_s (lt_s (lt_0) hs17_0) hs17_1) hs17_2) hs17_3) hs17_4) hs17_5) hs17_6) hs17_7)) (by decide) ?_
                    refine lv_ldc (v := (-1000000002)) hx hb X.2.2.2.1 (X.2.2.2.2.1 _ cn_X9_61) dX9_person_123 ?_
                    obtain rfl := Option.some.inj hf
                    exact Z _ _ _ _ dX9_person_125 S
  · replace hf := ip hf hc
    refine lv_ldc (v := (-1000000001)) hx hb X.2.2.2.1 (X.2.2.2.2.1 _ cn_X9_206) dX9_person_8 ?_
    obtain rfl := Option.some.inj hf
    exact Z _ _ _ _ dX9_person_10 S
def f_X9_person (a0 : Nat) (x1 : Int32) (x2 : Int32) (h : HP) : Option (Int32 × HP) := ck h a0 9 (f_X9_person_e a0 x1 x2 h)
theorem o_X9_person {a0 : Nat} {x1 : Int32} {x2 : Int32} {h : HP} {out : Int32 × HP} (hf : f_X9_person a0 x1 x2 h = some out) : ∃ fs, h[a0]? = some (.inl (9, fs)) := (ck_spec hf).1
set_option maxRecDepth 100000 in
theorem c_X9_person {l : Launch} {G : GT} {b : Nat} {a0 : Nat} {x1 : Int32} {x2 : Int32} {h : HP} {out : Int32 × HP} (hf : f_X9_person a0 x1 x2 h = some out) : MT l G b False False yX9_person cX9_person 3 (some .int) RM_X9_person [.ref (b + a0), .int x1, .int x2] h (some (.int out.1)) out.2 0 0 := by
  refine met_of (by decide) (Nat.le_of_ble_eq_true rfl) ?_
  intro p e s m below meth c ls X hnm S hl
  have hl : lv_has ls 3 [(0, .ref (b + a0)), (1, .int x1), (2, .int x2)] := hl
  replace hf := (ck_spec hf).2
  exact w_X9_person_e X (z_i X) _ _ _ _ hf _ _ _ S hl
/-! RoomRingsModel.likes(II)I -/
abbrev RM_X9_likes : Room := { frames := 2, cells := 0, slots := 0, locals := 43 }
def f_X9_likes_b45  (s0 : Int32) (h : HP) : Option (Int32 × HP) :=
  some (s0, h)
set_option maxRecDepth 100000 in
set_option maxHeartbeats 4000000 in
theorem w_X9_likes_b45 (X : CX RX9 cX9_likes 3 (some .int) p s m args meth c G b) {out : Int32 × HP} (Z : ZI p l e RM_X9_likes s m args below meth c cX9_likes G b False 0 0 Q out)  : ∀ (s0 : Int32) (h : HP), f_X9_likes_b45  s0 h = some out → ∀ (H : Heap) (locs : List Loc) (ls : Array Slot), ST G b False s h H locs → lv_has ls 3 [] → W p l e RM_X9_likes s m args below meth c H locs 0 0 Q (F0 m 45 ls [.int s0]) := by
  intro s0 h hf H locs ls S hl
  unfold f_X9_likes_b45 at hf
  have hx := X.1
  have hb := X.2.1
  obtain rfl := Option.some.inj hf
  exact Z _ _ _ _ dX9_likes_45 S
def f_X9_likes_e  (a0 : Nat) (x1 : Int32) (x2 : Int32) (h : HP) : Option (Int32 × HP) :=
  (f_X9_isPerson a0 x1 h).bind fun q1 =>
  if q1.1 = 0 then
    some ((-1000000001), q1.2)
  else
    (gR q1.2 a0 9 0).bind fun r2 =>
    (ald q1.2 r2 (48 + x1)).bind fun v3 =>
    (f_X9_in x2 0 (v3 - 1) q1.2).bind fun q4 =>
    if q4.1 = 0 then
      f_X9_likes_b45  (-1) q4.2
    else
      (gR q4.2 a0 9 0).bind fun r5 =>
      (ald q4.2 r5 ((8 * x1) + x2)).bind fun v6 =>
      f_X9_likes_b45  v6 q4.2
set_option maxRecDepth 100000 in
set_option maxHeartbeats 4000000 in
theorem w_X9_likes_e (X : CX RX9 cX9_likes 3 (some .int) p s m args meth c G b) {out : Int32 × HP} (Z : ZI p l e RM_X9_likes s m args below meth c cX9_likes G b False 0 0 Q out)  : ∀ (a0 : Nat) (x1 : Int32) (x2 : Int32) (h : HP), f_X9_likes_e  a0 x1 x2 h = some out → ∀ (H : Heap) (locs : List Loc) (ls : Array Slot), ST G b False s h H locs → lv_has ls 3 [(0, .ref (b + a0)), (1, .int x1), (2, .int x2)] → W p l e RM_X9_likes s m args below meth c H locs 0 0 Q (F0 m 0 ls []) := by
  intro a0 x1 x2 h hf H locs ls S hl
  unfold f_X9_likes_e at hf
  have hx := X.1
  have hb := X.2.1
  refine lv_aload_n hx hb dX9_likes_0 rfl (lv_at hl 0 rfl) ?_
  refine lv_iload_n hx hb dX9_likes_1 rfl (lv_at hl 1 rfl) ?_
  obtain ⟨q1, e_q1, hf⟩ := ob hf
  refine r_callV X S hl.1 (As := [.int x1]) (rest := []) (c_X9_isPerson e_q1) my_X9_isPerson mv_X9_isPerson ml_X9_202 rfl (o_X9_isPerson e_q1) ⟨rfl, rfl, Nat.le_of_ble_eq_true rfl, Nat.le_of_ble_eq_true rfl⟩ rfl rfl (Nat.le_of_ble_eq_true rfl) dX9_likes_2 ⟨Nat.le_of_ble_eq_true rfl, Nat.le_of_ble_eq_true rfl⟩ (fun H locs S => ?_)
  refine W.eq (g2 := F0 m 5 ls [.int q1.1]) rfl ?_
  refine lv_if_ne (tgt := 11) hx hb dX9_likes_5 (by decide) (fun hc => ?_) (fun hc => ?_)
  · replace hf := im hf hc
    refine lv_iload_n hx hb dX9_likes_11 rfl (lv_at hl 2 rfl) ?_
    refine lv_iconst (v := 0) hx hb dX9_likes_12 (by decide) ?_
    refine lv_aload_n hx hb dX9_likes_13 rfl (lv_at hl 0 rfl) ?_
    obtain ⟨r2, e_r2, hf⟩ := ob hf
    refine r_getR X S fl_X9_7 e_r2 dX9_likes_14 ?_
    refine lv_bipush (v := 48) hx hb dX9_likes_17 (by decide) ?_
    refine lv_iload_n hx hb dX9_likes_19 rfl (lv_at hl 1 rfl) ?_
    refine lv_iadd hx hb dX9_likes_20 ?_
    obtain ⟨v3, e_v3, hf⟩ := ob hf
    refine r_ald X S e_v3 dX9_likes_21 ?_
    refine lv_iconst (v := 1) hx hb dX9_likes_22 (by decide) ?_
    refine lv_isub hx hb dX9_likes_23 ?_
    obtain ⟨q4, e_q4, hf⟩ := ob hf
    refine r_callS X S hl.1 (As := [.int x2, .int 0, .int (v3 - 1)]) (rest := []) (c_X9_in e_q4) my_X9_in ms_X9_in ml_X9_54 ⟨rfl, rfl, Nat.le_of_ble_eq_true rfl, Nat.le_of_ble_eq_true rfl⟩ rfl rfl (Nat.le_of_ble_eq_true rfl) dX9_likes_24 ⟨Nat.le_of_ble_eq_true rfl, Nat.le_of_ble_eq_true rfl⟩ (fun H locs S => ?_)
    refine W.eq (g2 := F0 m 27 ls [.int q4.1]) rfl ?_
    refine lv_if_eq (tgt := 44) hx hb dX9_likes_27 (by decide) (fun hc => ?_) (fun hc => ?_)
    · replace hf := ip hf hc
      refine lv_iconst (v := (-1)) hx hb dX9_likes_44 (by decide) ?_
      exact w_X9_likes_b45 X Z  _ _ hf _ _ _ S (lv_sub hl [] rfl)
    · replace hf := im hf hc
      refine lv_aload_n hx hb dX9_likes_30 rfl (lv_at hl 0 rfl) ?_
      obtain ⟨r5, e_r5, hf⟩ := ob hf
      refine r_getR X S fl_X9_7 e_r5 dX9_likes_31 ?_
      refine lv_bipush (v := 8) hx hb dX9_likes_34 (by decide) ?_
      refine lv_iload_n hx hb dX9_likes_36 rfl (lv_at hl 1 rfl) ?_
      refine lv_imul hx hb dX9_likes_37 ?_
      refine lv_iload_n hx hb dX9_likes_38 rfl (lv_at hl 2 rfl) ?_
      refine lv_iadd hx hb dX9_likes_39 ?_
      obtain ⟨v6, e_v6, hf⟩ := ob hf
      refine r_ald X S e_v6 dX9_likes_40 ?_
      refine lv_goto (tgt := 45) hx hb dX9_likes_41 (by decide) ?_
      exact w_X9_likes_b45 X Z  _ _ hf _ _ _ S (lv_sub hl [] rfl)
  · replace hf := ip hf hc
    refine lv_ldc (v := (-1000000001)) hx hb X.2.2.2.1 (X.2.2.2.2.1 _ cn_X9_206) dX9_likes_8 ?_
    obtain rfl := Option.some.inj hf
    exact Z _ _ _ _ dX9_likes_10 S
def f_X9_likes (a0 : Nat) (x1 : Int32) (x2 : Int32) (h : HP) : Option (Int32 × HP) := ck h a0 9 (f_X9_likes_e a0 x1 x2 h)
theorem o_X9_likes {a0 : Nat} {x1 : Int32} {x2 : Int32} {h : HP} {out : Int32 × HP} (hf : f_X9_likes a0 x1 x2 h = some out) : ∃ fs, h[a0]? = some (.inl (9, fs)) := (ck_spec hf).1
set_option maxRecDepth 100000 in
theorem c_X9_likes {l : Launch} {G : GT} {b : Nat} {a0 : Nat} {x1 : Int32} {x2 : Int32} {h : HP} {out : Int32 × HP} (hf : f_X9_likes a0 x1 x2 h = some out) : MT l G b False False yX9_likes cX9_likes 3 (some .int) RM_X9_likes [.ref (b + a0), .int x1, .int x2] h (some (.int out.1)) out.2 0 0 := by
  refine met_of (by decide) (Nat.le_of_ble_eq_true rfl) ?_
  intro p e s m below meth c ls X hnm S hl
  have hl : lv_has ls 3 [(0, .ref (b + a0)), (1, .int x1), (2, .int x2)] := hl
  replace hf := (ck_spec hf).2
  exact w_X9_likes_e X (z_i X) _ _ _ _ hf _ _ _ S hl
/-! RoomRingsModel.room(II)I -/
abbrev RM_X9_room : Room := { frames := 7, cells := 0, slots := 0, locals := 159 }
def f_X9_room_b50  (s0 : Int32) (h : HP) : Option (Int32 × HP) :=
  some (s0, h)
set_option maxRecDepth 100000 in
set_option maxHeartbeats 4000000 in
theorem w_X9_room_b50 (X : CX RX9 cX9_room 3 (some .int) p s m args meth c G b) {out : Int32 × HP} (Z : ZI p l e RM_X9_room s m args below meth c cX9_room G b False 0 0 Q out)  : ∀ (s0 : Int32) (h : HP), f_X9_room_b50  s0 h = some out → ∀ (H : Heap) (locs : List Loc) (ls : Array Slot), ST G b False s h H locs → lv_has ls 3 [] → W p l e RM_X9_room s m args below meth c H locs 0 0 Q (F0 m 50 ls [.int s0]) := by
  intro s0 h hf H locs ls S hl
  unfold f_X9_room_b50 at hf
  have hx := X.1
  have hb := X.2.1
  obtain rfl := Option.some.inj hf
  exact Z _ _ _ _ dX9_room_50 S
def f_X9_room_e  (a0 : Nat) (x1 : Int32) (x2 : Int32) (h : HP) : Option (Int32 × HP) :=
  (f_X9_isRoom a0 x1 h).bind fun q1 =>
  if q1.1 = 0 then
    some ((-1000000001), q1.2)
  else
    (f_X9_in x2 0 1 q1.2).bind fun q2 =>
    if q2.1 = 0 then
      some ((-1000000002), q2.2)
    else
      (f_X9_giveOut a0 0 q2.2).bind fun h3 =>
      if x2 = 0 then
        (gI h3 a0 9 2).bind fun v4 =>
        (f_X9_sitterIn a0 0 v4 x1 h3).bind fun q5 =>
        f_X9_room_b50  q5.1 q5.2
      else
        (f_X9_whoGets a0 x1 h3).bind fun q6 =>
        f_X9_room_b50  q6.1 q6.2
set_option maxRecDepth 100000 in
set_option maxHeartbeats 4000000 in
theorem w_X9_room_e (X : CX RX9 cX9_room 3 (some .int) p s m args meth c G b) {out : Int32 × HP} (Z : ZI p l e RM_X9_room s m args below meth c cX9_room G b False 0 0 Q out)  : ∀ (a0 : Nat) (x1 : Int32) (x2 : Int32) (h : HP), f_X9_room_e  a0 x1 x2 h = some out → ∀ (H : Heap) (locs : List Loc) (ls : Array Slot), ST G b False s h H locs → lv_has ls 3 [(0, .ref (b + a0)), (1, .int x1), (2, .int x2)] → W p l e RM_X9_room s m args below meth c H locs 0 0 Q (F0 m 0 ls []) := by
  intro a0 x1 x2 h hf H locs ls S hl
  unfold f_X9_room_e at hf
  have hx := X.1
  have hb := X.2.1
  refine lv_aload_n hx hb dX9_room_0 rfl (lv_at hl 0 rfl) ?_
  refine lv_iload_n hx hb dX9_room_1 rfl (lv_at hl 1 rfl) ?_
  obtain ⟨q1, e_q1, hf⟩ := ob hf
  refine r_callV X S hl.1 (As := [.int x1]) (rest := []) (c_X9_isRoom e_q1) my_X9_isRoom mv_X9_isRoom ml_X9_216 rfl (o_X9_isRoom e_q1) ⟨rfl, rfl, Nat.le_of_ble_eq_true rfl, Nat.le_of_ble_eq_true rfl⟩ rfl rfl (Nat.le_of_ble_eq_true rfl) dX9_room_2 ⟨Nat.le_of_ble_eq_true rfl, Nat.le_of_ble_eq_true rfl⟩ (fun H locs S => ?_)
  refine W.eq (g2 := F0 m 5 ls [.int q1.1]) rfl ?_
  refine lv_if_ne (tgt := 11) hx hb dX9_room_5 (by decide) (fun hc => ?_) (fun hc => ?_)
  · replace hf := im hf hc
    refine lv_iload_n hx hb dX9_room_11 rfl (lv_at hl 2 rfl) ?_
    refine lv_iconst (v := 0) hx hb dX9_room_12 (by decide) ?_
    refine lv_iconst (v := 1) hx hb dX9_room_13 (by decide) ?_
    obtain ⟨q2, e_q2, hf⟩ := ob hf
    refine r_callS X S hl.1 (As := [.int x2, .int 0, .int 1]) (rest := []) (c_X9_in e_q2) my_X9_in ms_X9_in ml_X9_54 ⟨rfl, rfl, Nat.le_of_ble_eq_true rfl, Nat.le_of_ble_eq_true rfl⟩ rfl rfl (Nat.le_of_ble_eq_true rfl) dX9_room_14 ⟨Nat.le_of_ble_eq_true rfl, Nat.le_of_ble_eq_true rfl⟩ (fun H locs S => ?_)
    refine W.eq (g2 := F0 m 17 ls [.int q2.1]) rfl ?_
    refine lv_if_ne (tgt := 23) hx hb dX9_room_17 (by decide) (fun hc => ?_) (fun hc => ?_)
    · replace hf := im hf hc
      refine lv_aload_n hx hb dX9_room_23 rfl (lv_at hl 0 rfl) ?_
      refine lv_iconst (v := 0) hx hb dX9_room_24 (by decide) ?_
      obtain ⟨h3, e_h3, hf⟩ := ob hf
      refine r_callV X S hl.1 (As := [.int 0]) (rest := []) (c_X9_giveOut e_h3) my_X9_giveOut mv_X9_giveOut ml_X9_187 rfl (o_X9_giveOut e_h3) ⟨rfl, rfl, Nat.le_of_ble_eq_true rfl, Nat.le_of_ble_eq_true rfl⟩ rfl rfl (Nat.le_of_ble_eq_true rfl) dX9_room_25 ⟨Nat.le_of_ble_eq_true rfl, Nat.le_of_ble_eq_true rfl⟩ (fun H locs S => ?_)
      refine W.eq (g2 := F0 m 28 ls []) rfl ?_
      refine lv_iload_n hx hb dX9_room_28 rfl (lv_at hl 2 rfl) ?_
      refine lv_if_ne (tgt := 45) hx hb dX9_room_29 (by decide) (fun hc => ?_) (fun hc => ?_)
      · replace hf := im hf hc
        refine lv_aload_n hx hb dX9_room_45 rfl (lv_at hl 0 rfl) ?_
        refine lv_iload_n hx hb dX9_room_46 rfl (lv_at hl 1 rfl) ?_
        obtain ⟨q6, e_q6, hf⟩ := ob hf
        refine r_callV X S hl.1 (As := [.int x1]) (rest := []) (c_X9_whoGets e_q6) my_X9_whoGets mv_X9_whoGets ml_X9_169 rfl (o_X9_whoGets e_q6) ⟨rfl, rfl, Nat.le_of_ble_eq_true rfl, Nat.le_of_ble_eq_true rfl⟩ rfl rfl (Nat.le_of_ble_eq_true rfl) dX9_room_47 ⟨Nat.le_of_ble_eq_true rfl, Nat.le_of_ble_eq_true rfl⟩ (fun H locs S => ?_)
        refine W.eq (g2 := F0 m 50 ls [.int q6.1]) rfl ?_
        exact w_X9_room_b50 X Z  _ _ hf _ _ _ S (lv_sub hl [] rfl)
      · replace hf := ip hf hc
        refine lv_aload_n hx hb dX9_room_32 rfl (lv_at hl 0 rfl) ?_
        refine lv_iconst (v := 0) hx hb dX9_room_33 (by decide) ?_
        refine lv_aload_n hx hb dX9_room_34 rfl (lv_at hl 0 rfl) ?_
        obtain ⟨v4, e_v4, hf⟩ := ob hf
        refine r_getI X S fl_X9_51 e_v4 dX9_room_35 ?_
        refine lv_iload_n hx hb dX9_room_38 rfl (lv_at hl 1 rfl) ?_
        obtain ⟨q5, e_q5, hf⟩ := ob hf
        refine r_callV X S hl.1 (As := [.int 0, .int v4, .int x1]) (rest := []) (c_X9_sitterIn e_q5) my_X9_sitterIn mv_X9_sitterIn ml_X9_104 rfl (o_X9_sitterIn e_q5) ⟨rfl, rfl, Nat.le_of_ble_eq_true rfl, Nat.le_of_ble_eq_true rfl⟩ rfl rfl (Nat.le_of_ble_eq_true rfl) dX9_room_39 ⟨Nat.le_of_ble_eq_true rfl, Nat.le_of_ble_eq_true rfl⟩ (fun H locs S => ?_)
        refine W.eq (g2 := F0 m 42 ls [.int q5.1]) rfl ?_
        refine lv_goto (tgt := 50) hx hb dX9_room_42 (by decide) ?_
        exact w_X9_room_b50 X Z  _ _ hf _ _ _ S (lv_sub hl [] rfl)
    · replace hf := ip hf hc
      refine lv_ldc (v := (-1000000002)) hx hb X.2.2.2.1 (X.2.2.2.2.1 _ cn_X9_61) dX9_room_20 ?_
      obtain rfl := Option.some.inj hf
      exact Z _ _ _ _ dX9_room_22 S
  · replace hf := ip hf hc
    refine lv_ldc (v := (-1000000001)) hx hb X.2.2.2.1 (X.2.2.2.2.1 _ cn_X9_206) dX9_room_8 ?_
    obtain rfl := Option.some.inj hf
    exact Z _ _ _ _ dX9_room_10 S
def f_X9_room (a0 : Nat) (x1 : Int32) (x2 : Int32) (h : HP) : Option (Int32 × HP) := ck h a0 9 (f_X9_room_e a0 x1 x2 h)
theorem o_X9_room {a0 : Nat} {x1 : Int32} {x2 : Int32} {h : HP} {out : Int32 × HP} (hf : f_X9_room a0 x1 x2 h = some out) : ∃ fs, h[a0]? = some (.inl (9, fs)) := (ck_spec hf).1
set_option maxRecDepth 100000 in
theorem c_X9_room {l : Launch} {G : GT} {b : Nat} {a0 : Nat} {x1 : Int32} {x2 : Int32} {h : HP} {out : Int32 × HP} (hf : f_X9_room a0 x1 x2 h = some out) : MT l G b False False yX9_room cX9_room 3 (some .int) RM_X9_room [.ref (b + a0), .int x1, .int x2] h (some (.int out.1)) out.2 0 0 := by
  refine met_of (by decide) (Nat.le_of_ble_eq_true rfl) ?_
  intro p e s m below meth c ls X hnm S hl
  have hl : lv_has ls 3 [(0, .ref (b + a0)), (1, .int x1), (2, .int x2)] := hl
  replace hf := (ck_spec hf).2
  exact w_X9_room_e X (z_i X) _ _ _ _ hf _ _ _ S hl
/-! RoomRingsModel.remember()V -/
abbrev RM_X9_remember : Room := { frames := 1, cells := 0, slots := 0, locals := 23 }
def f_X9_remember_b53  (a0 : Nat) (h : HP) : Option (HP) :=
  (gI h a0 9 3).bind fun v1 =>
  (f_X9_copyRow a0 0 (67 + (67 * v1)) h).bind fun h2 =>
  (gI h2 a0 9 3).bind fun v3 =>
  (pI h2 a0 9 3 (v3 + 1)).bind fun h4 =>
  some h4
set_option maxRecDepth 100000 in
set_option maxHeartbeats 4000000 in
theorem w_X9_remember_b53 (X : CX RX9 cX9_remember 2 none p s m args meth c G b) {out : HP} (Z : ZV p l e RM_X9_remember s m args below meth c cX9_remember G b False 0 0 Q out)  : ∀ (a0 : Nat) (h : HP), f_X9_remember_b53  a0 h = some out → ∀ (H : Heap) (locs : List Loc) (ls : Array Slot), ST G b False s h H locs → lv_has ls 2 [(0, .ref (b + a0))] → W p l e RM_X9_remember s m args below meth c H locs 0 0 Q (F0 m 53 ls []) := by
  intro a0 h hf H locs ls S hl
  unfold f_X9_remember_b53 at hf
  have hx := X.1
  have hb := X.2.1
  refine lv_aload_n hx hb dX9_remember_53 rfl (lv_at hl 0 rfl) ?_
  refine lv_iconst (v := 0) hx hb dX9_remember_54 (by decide) ?_
  refine lv_bipush (v := 67) hx hb dX9_remember_55 (by decide) ?_
  refine lv_bipush (v := 67) hx hb dX9_remember_57 (by decide) ?_
  refine lv_aload_n hx hb dX9_remember_59 rfl (lv_at hl 0 rfl) ?_
  obtain ⟨v1, e_v1, hf⟩ := ob hf
  refine r_getI X S fl_X9_119 e_v1 dX9_remember_60 ?_
  refine lv_imul hx hb dX9_remember_63 ?_
  refine lv_iadd hx hb dX9_remember_64 ?_
  obtain ⟨h2, e_h2, hf⟩ := ob hf
  refine r_callV X S hl.1 (As := [.int 0, .int (67 + (67 * v1))]) (rest := []) (c_X9_copyRow e_h2) my_X9_copyRow mv_X9_copyRow ml_X9_116 rfl (o_X9_copyRow e_h2) ⟨rfl, rfl, Nat.le_of_ble_eq_true rfl, Nat.le_of_ble_eq_true rfl⟩ rfl rfl (Nat.le_of_ble_eq_true rfl) dX9_remember_65 ⟨Nat.le_of_ble_eq_true rfl, Nat.le_of_ble_eq_true rfl⟩ (fun H locs S => ?_)
  refine W.eq (g2 := F0 m 68 ls []) rfl ?_
  refine lv_aload_n hx hb dX9_remember_68 rfl (lv_at hl 0 rfl) ?_
  refine lv_dup hx hb dX9_remember_69 rfl ?_
  obtain ⟨v3, e_v3, hf⟩ := ob hf
  refine r_getI X S fl_X9_119 e_v3 dX9_remember_70 ?_
  refine lv_iconst (v := 1) hx hb dX9_remember_73 (by decide) ?_
  refine lv_iadd hx hb dX9_remember_74 ?_
  obtain ⟨h4, e_h4, hf⟩ := ob hf
  refine r_put X S fp_X9_119 (fun h9 => by cases h9) rfl rfl rfl e_h4 dX9_remember_75 (fun H locs S => ?_)
  obtain rfl := Option.some.inj hf
  exact Z _ _ _ _ dX9_remember_78 S
def f_X9_remember_b11 (K11 : Nat → Int32 → HP → Option (HP)) (a0 : Nat) (x1 : Int32) (h : HP) : Option (HP) :=
  if 20 ≤ x1 then
    (gI h a0 9 3).bind fun v1 =>
    (pI h a0 9 3 (v1 - 1)).bind fun h2 =>
    f_X9_remember_b53  a0 h2
  else
    (f_X9_copyRow a0 (67 + (67 * x1)) (67 + (67 * (x1 - 1))) h).bind fun h3 =>
    K11 a0 (x1 + 1) h3
set_option maxRecDepth 100000 in
set_option maxHeartbeats 4000000 in
theorem w_X9_remember_b11 (X : CX RX9 cX9_remember 2 none p s m args meth c G b) {out : HP} (Z : ZV p l e RM_X9_remember s m args below meth c cX9_remember G b False 0 0 Q out) {K11 : Nat → Int32 → HP → Option (HP)} (hK11 : ∀ (a0 : Nat) (x1 : Int32) (h : HP), K11 a0 x1 h = some out → ∀ (H : Heap) (locs : List Loc) (ls : Array Slot), ST G b False s h H locs → lv_has ls 2 [(0, .ref (b + a0)), (1, .int x1)] → W p l e RM_X9_remember s m args below meth c H locs 0 0 Q (F0 m 11 ls [])) : ∀ (a0 : Nat) (x1 : Int32) (h : HP), f_X9_remember_b11 K11 a0 x1 h = some out → ∀ (H : Heap) (locs : List Loc) (ls : Array Slot), ST G b False s h H locs → lv_has ls 2 [(0, .ref (b + a0)), (1, .int x1)] → W p l e RM_X9_remember s m args below meth c H locs 0 0 Q (F0 m 11 ls []) := by
  intro a0 x1 h hf H locs ls S hl
  unfold f_X9_remember_b11 at hf
  have hx := X.1
  have hb := X.2.1
  refine lv_iload_n hx hb dX9_remember_11 rfl (lv_at hl 1 rfl) ?_
  refine lv_bipush (v := 20) hx hb dX9_remember_12 (by decide) ?_
  refine lv_icmp_ge (tgt := 43) hx hb dX9_remember_14 (by decide) (fun hc => ?_) (fun hc => ?_)
  · replace hf := ip hf hc
    refine lv_aload_n hx hb dX9_remember_43 rfl (lv_at hl 0 rfl) ?_
    refine lv_dup hx hb dX9_remember_44 rfl ?_
    obtain ⟨v1, e_v1, hf⟩ := ob hf
    refine r_getI X S fl_X9_119 e_v1 dX9_remember_45 ?_
    refine lv_iconst (v := 1) hx hb dX9_remember_48 (by decide) ?_
    refine lv_isub hx hb dX9_remember_49 ?_
    obtain ⟨h2, e_h2, hf⟩ := ob hf
    refine r_put X S fp_X9_119 (fun h9 => by cases h9) rfl rfl rfl e_h2 dX9_remember_50 (fun H locs S => ?_)
    exact w_X9_remember_b53 X Z  _ _ hf _ _ _ S (lv_sub hl [0] rfl)
  · replace hf := im hf hc
    refine lv_aload_n hx hb dX9_remember_17 rfl (lv_at hl 0 rfl) ?_
    refine lv_bipush (v := 67) hx hb dX9_remember_18 (by decide) ?_
    refine lv_bipush (v := 67) hx hb dX9_remember_20 (by decide) ?_
    refine lv_iload_n hx hb dX9_remember_22 rfl (lv_at hl 1 rfl) ?_
    refine lv_imul hx hb dX9_remember_23 ?_
    refine lv_iadd hx hb dX9_remember_24 ?_
    refine lv_bipush (v := 67) hx hb dX9_remember_25 (by decide) ?_
    refine lv_bipush (v := 67) hx hb dX9_remember_27 (by decide) ?_
    refine lv_iload_n hx hb dX9_remember_29 rfl (lv_at hl 1 rfl) ?_
    refine lv_iconst (v := 1) hx hb dX9_remember_30 (by decide) ?_
    refine lv_isub hx hb dX9_remember_31 ?_
    refine lv_imul hx hb dX9_remember_32 ?_
    refine lv_iadd hx hb dX9_remember_33 ?_
    obtain ⟨h3, e_h3, hf⟩ := ob hf
    refine r_callV X S hl.1 (As := [.int (67 + (67 * x1)), .int (67 + (67 * (x1 - 1)))]) (rest := []) (c_X9_copyRow e_h3) my_X9_copyRow mv_X9_copyRow ml_X9_116 rfl (o_X9_copyRow e_h3) ⟨rfl, rfl, Nat.le_of_ble_eq_true rfl, Nat.le_of_ble_eq_true rfl⟩ rfl rfl (Nat.le_of_ble_eq_true rfl) dX9_remember_34 ⟨Nat.le_of_ble_eq_true rfl, Nat.le_of_ble_eq_true rfl⟩ (fun H locs S => ?_)
    refine W.eq (g2 := F0 m 37 ls []) rfl ?_
    refine lv_iinc (v := x1 + 1) (lv' := [(1, .int (x1 + 1)), (0, .ref (b + a0))]) hx hb dX9_remember_37 hl (k := 1) rfl rfl (by decide) rfl (fun ls hl => ?_)
    refine lv_goto (tgt := 11) hx hb dX9_remember_40 (by decide) ?_
    exact hK11 _ _ _ hf _ _ _ S (lv_sub hl [1, 0] rfl)
def F_X9_remember_11  : Nat → Nat → Int32 → HP → Option (HP)
  | 0 => fun _ _ _ => none
  | n + 1 => fun a0 x1 h => f_X9_remember_b11 (F_X9_remember_11  n) a0 x1 h
theorem wl_X9_remember_11 (X : CX RX9 cX9_remember 2 none p s m args meth c G b) {out : HP} (Z : ZV p l e RM_X9_remember s m args below meth c cX9_remember G b False 0 0 Q out)  : ∀ (n : Nat) (a0 : Nat) (x1 : Int32) (h : HP), F_X9_remember_11  n a0 x1 h = some out → ∀ (H : Heap) (locs : List Loc) (ls : Array Slot), ST G b False s h H locs → lv_has ls 2 [(0, .ref (b + a0)), (1, .int x1)] → W p l e RM_X9_remember s m args below meth c H locs 0 0 Q (F0 m 11 ls []) := by
  intro n
  induction n with
  | zero => intro a0 x1 h hf; exact nn hf
  | succ n ih => exact w_X9_remember_b11 X Z ih
def f_X9_remember_e  (a0 : Nat) (h : HP) : Option (HP) :=
  (gI h a0 9 3).bind fun v1 =>
  if v1 = 20 then
    F_X9_remember_11  FU a0 1 h
  else
    f_X9_remember_b53  a0 h
set_option maxRecDepth 100000 in
set_option maxHeartbeats 4000000 in
theorem w_X9_remember_e (X : CX RX9 cX9_remember 2 none p s m args meth c G b) {out : HP} (Z : ZV p l e RM_X9_remember s m args below meth c cX9_remember G b False 0 0 Q out)  : ∀ (a0 : Nat) (h : HP), f_X9_remember_e  a0 h = some out → ∀ (H : Heap) (locs : List Loc) (ls : Array Slot), ST G b False s h H locs → lv_has ls 2 [(0, .ref (b + a0))] → W p l e RM_X9_remember s m args below meth c H locs 0 0 Q (F0 m 0 ls []) := by
  intro a0 h hf H locs ls S hl
  unfold f_X9_remember_e at hf
  have hx := X.1
  have hb := X.2.1
  refine lv_aload_n hx hb dX9_remember_0 rfl (lv_at hl 0 rfl) ?_
  obtain ⟨v1, e_v1, hf⟩ := ob hf
  refine r_getI X S fl_X9_119 e_v1 dX9_remember_1 ?_
  refine lv_bipush (v := 20) hx hb dX9_remember_4 (by decide) ?_
  refine lv_icmp_ne (tgt := 53) hx hb dX9_remember_6 (by decide) (fun hc => ?_) (fun hc => ?_)
  · replace hf := im hf hc
    exact w_X9_remember_b53 X Z  _ _ hf _ _ _ S (lv_sub hl [0] rfl)
  · replace hf := ip hf hc
    refine lv_iconst (v := 1) hx hb dX9_remember_9 (by decide) ?_
    refine lv_istore_n (lv' := [(1, .int 1), (0, .ref (b + a0))]) hx hb dX9_remember_10 rfl hl (by decide) rfl (fun ls hl => ?_)
    exact wl_X9_remember_11 X Z  FU _ _ _ hf _ _ _ S (lv_sub hl [1, 0] rfl)
def f_X9_remember (a0 : Nat) (h : HP) : Option (HP) := ck h a0 9 (f_X9_remember_e a0 h)
theorem o_X9_remember {a0 : Nat} {h : HP} {out : HP} (hf : f_X9_remember a0 h = some out) : ∃ fs, h[a0]? = some (.inl (9, fs)) := (ck_spec hf).1
set_option maxRecDepth 100000 in
theorem c_X9_remember {l : Launch} {G : GT} {b : Nat} {a0 : Nat} {h : HP} {out : HP} (hf : f_X9_remember a0 h = some out) : MT l G b False False yX9_remember cX9_remember 2 none RM_X9_remember [.ref (b + a0)] h none out 0 0 := by
  refine met_of (by decide) (Nat.le_of_ble_eq_true rfl) ?_
  intro p e s m below meth c ls X hnm S hl
  have hl : lv_has ls 2 [(0, .ref (b + a0))] := hl
  replace hf := (ck_spec hf).2
  exact w_X9_remember_e X (z_v X) _ _ hf _ _ _ S hl
/-! RoomRingsModel.strikeOut(III)V -/
abbrev RM_X9_strikeOut : Room := { frames := 1, cells := 0, slots := 0, locals := 24 }
def f_X9_strikeOut_b88   (h : HP) : Option (HP) :=
  some h
set_option maxRecDepth 100000 in
set_option maxHeartbeats 4000000 in
theorem w_X9_strikeOut_b88 (X : CX RX9 cX9_strikeOut 6 none p s m args meth c G b) {out : HP} (Z : ZV p l e RM_X9_strikeOut s m args below meth c cX9_strikeOut G b False 0 0 Q out)  : ∀  (h : HP), f_X9_strikeOut_b88   h = some out → ∀ (H : Heap) (locs : List Loc) (ls : Array Slot), ST G b False s h H locs → lv_has ls 6 [] → W p l e RM_X9_strikeOut s m args below meth c H locs 0 0 Q (F0 m 88 ls []) := by
  intro  h hf H locs ls S hl
  unfold f_X9_strikeOut_b88 at hf
  have hx := X.1
  have hb := X.2.1
  obtain rfl := Option.some.inj hf
  exact Z _ _ _ _ dX9_strikeOut_88 S
def f_X9_strikeOut_b21 (K21 : Nat → Int32 → Int32 → Int32 → HP → Option (HP)) (a0 : Nat) (x1 : Int32) (x2 : Int32) (x5 : Int32) (h : HP) : Option (HP) :=
  (gR h a0 9 0).bind fun r1 =>
  (ald h r1 ((x1 + 48) + x2)).bind fun v2 =>
  if v2 ≤ x5 then
    (gR h a0 9 0).bind fun r3 =>
    (ald h r3 ((x1 + 48) + x2)).bind fun v4 =>
    (ast h r3 ((x1 + 48) + x2) (v4 - 1)).bind fun h5 =>
    f_X9_strikeOut_b88   h5
  else
    (gR h a0 9 0).bind fun r6 =>
    (gR h a0 9 0).bind fun r7 =>
    (ald h r7 ((x1 + (8 * x2)) + x5)).bind fun v8 =>
    (ast h r6 (((x1 + (8 * x2)) + x5) - 1) v8).bind fun h9 =>
    K21 a0 x1 x2 (x5 + 1) h9
set_option maxRecDepth 100000 in
set_option maxHeartbeats 4000000 in
theorem w_X9_strikeOut_b21 (X : CX RX9 cX9_strikeOut 6 none p s m args meth c G b) {out : HP} (Z : ZV p l e RM_X9_strikeOut s m args below meth c cX9_strikeOut G b False 0 0 Q out) {K21 : Nat → Int32 → Int32 → Int32 → HP → Option (HP)} (hK21 : ∀ (a0 : Nat) (x1 : Int32) (x2 : Int32) (x5 : Int32) (h : HP), K21 a0 x1 x2 x5 h = some out → ∀ (H : Heap) (locs : List Loc) (ls : Array Slot), ST G b False s h H locs → lv_has ls 6 [(0, .ref (b + a0)), (1, .int x1), (2, .int x2), (5, .int x5)] → W p l e RM_X9_strikeOut s m args below meth c H locs 0 0 Q (F0 m 21 ls [])) : ∀ (a0 : Nat) (x1 : Int32) (x2 : Int32) (x5 : Int32) (h : HP), f_X9_strikeOut_b21 K21 a0 x1 x2 x5 h = some out → ∀ (H : Heap) (locs : List Loc) (ls : Array Slot), ST G b False s h H locs → lv_has ls 6 [(0, .ref (b + a0)), (1, .int x1), (2, .int x2), (5, .int x5)] → W p l e RM_X9_strikeOut s m args below meth c H locs 0 0 Q (F0 m 21 ls []) := by
  intro a0 x1 x2 x5 h hf H locs ls S hl
  unfold f_X9_strikeOut_b21 at hf
  have hx := X.1
  have hb := X.2.1
  refine lv_iload hx hb dX9_strikeOut_21 (lv_at hl 3 rfl) ?_
  refine lv_aload_n hx hb dX9_strikeOut_23 rfl (lv_at hl 0 rfl) ?_
  obtain ⟨r1, e_r1, hf⟩ := ob hf
  refine r_getR X S fl_X9_7 e_r1 dX9_strikeOut_24 ?_
  refine lv_iload_n hx hb dX9_strikeOut_27 rfl (lv_at hl 1 rfl) ?_
  refine lv_bipush (v := 48) hx hb dX9_strikeOut_28 (by decide) ?_
  refine lv_iadd hx hb dX9_strikeOut_30 ?_
  refine lv_iload_n hx hb dX9_strikeOut_31 rfl (lv_at hl 2 rfl) ?_
  refine lv_iadd hx hb dX9_strikeOut_32 ?_
  obtain ⟨v2, e_v2, hf⟩ := ob hf
  refine r_ald X S e_v2 dX9_strikeOut_33 ?_
  refine lv_icmp_ge (tgt := 73) hx hb dX9_strikeOut_34 (by decide) (fun hc => ?_) (fun hc => ?_)
  · replace hf := ip hf hc
    refine lv_aload_n hx hb dX9_strikeOut_73 rfl (lv_at hl 0 rfl) ?_
    obtain ⟨r3, e_r3, hf⟩ := ob hf
    refine r_getR X S fl_X9_7 e_r3 dX9_strikeOut_74 ?_
    refine lv_iload_n hx hb dX9_strikeOut_77 rfl (lv_at hl 1 rfl) ?_
    refine lv_bipush (v := 48) hx hb dX9_strikeOut_78 (by decide) ?_
    refine lv_iadd hx hb dX9_strikeOut_80 ?_
    refine lv_iload_n hx hb dX9_strikeOut_81 rfl (lv_at hl 2 rfl) ?_
    refine lv_iadd hx hb dX9_strikeOut_82 ?_
    refine lv_dup2_11 hx hb dX9_strikeOut_83 rfl rfl ?_
    obtain ⟨v4, e_v4, hf⟩ := ob hf
    refine r_ald X S e_v4 dX9_strikeOut_84 ?_
    refine lv_iconst (v := 1) hx hb dX9_strikeOut_85 (by decide) ?_
    refine lv_isub hx hb dX9_strikeOut_86 ?_
    obtain ⟨h5, e_h5, hf⟩ := ob hf
    refine r_ast X S e_h5 dX9_strikeOut_87 (fun H locs S => ?_)
    exact w_X9_strikeOut_b88 X Z  _ hf _ _ _ S (lv_sub hl [] rfl)
  · replace hf := im hf hc
    refine lv_aload_n hx hb dX9_strikeOut_37 rfl (lv_at hl 0 rfl) ?_
    obtain ⟨r6, e_r6, hf⟩ := ob hf
    refine r_getR X S fl_X9_7 e_r6 dX9_strikeOut_38 ?_
    refine lv_iload_n hx hb dX9_strikeOut_41 rfl (lv_at hl 1 rfl) ?_
    refine lv_bipush (v := 8) hx hb dX9_strikeOut_42 (by decide) ?_
    refine lv_iload_n hx hb dX9_strikeOut_44 rfl (lv_at hl 2 rfl) ?_
    refine lv_imul hx hb dX9_strikeOut_45 ?_
    refine lv_iadd hx hb dX9_strikeOut_46 ?_
    refine lv_iload hx hb dX9_strikeOut_47 (lv_at hl 3 rfl) ?_
    refine lv_iadd hx hb dX9_strikeOut_49 ?_
    refine lv_iconst (v := 1) hx hb dX9_strikeOut_50 (by decide) ?_
    refine lv_isub hx hb dX9_strikeOut_51 ?_
    refine lv_aload_n hx hb dX9_strikeOut_52 rfl (lv_at hl 0 rfl) ?_
    obtain ⟨r7, e_r7, hf⟩ := ob hf
    refine r_getR X S fl_X9_7 e_r7 dX9_strikeOut_53 ?_
    refine lv_iload_n hx hb dX9_strikeOut_56 rfl (lv_at hl 1 rfl) ?_
    refine lv_bipush (v := 8) hx hb dX9_strikeOut_57 (by decide) ?_
    refine lv_iload_n hx hb dX9_strikeOut_59 rfl (lv_at hl 2 rfl) ?_
    refine lv_imul hx hb dX9_strikeOut_60 ?_
    refine lv_iadd hx hb dX9_strikeOut_61 ?_
    refine lv_iload hx hb dX9_strikeOut_62 (lv_at hl 3 rfl) ?_
    refine lv_iadd hx hb dX9_strikeOut_64 ?_
    obtain ⟨v8, e_v8, hf⟩ := ob hf
    refine r_ald X S e_v8 dX9_strikeOut_65 ?_
    obtain ⟨h9, e_h9, hf⟩ := ob hf
    refine r_ast X S e_h9 dX9_strikeOut_66 (fun H locs S => ?_)
    refine lv_iinc (v := x5 + 1) (lv' := [(5, .int (x5 + 1)), (0, .ref (b + a0)), (1, .int x1), (2, .int x2)]) hx hb dX9_strikeOut_67 hl (k := 3) rfl rfl (by decide) rfl (fun ls hl => ?_)
    refine lv_goto (tgt := 21) hx hb dX9_strikeOut_70 (by decide) ?_
    exact hK21 _ _ _ _ _ hf _ _ _ S (lv_sub hl [1, 2, 3, 0] rfl)
def F_X9_strikeOut_21  : Nat → Nat → Int32 → Int32 → Int32 → HP → Option (HP)
  | 0 => fun _ _ _ _ _ => none
  | n + 1 => fun a0 x1 x2 x5 h => f_X9_strikeOut_b21 (F_X9_strikeOut_21  n) a0 x1 x2 x5 h
theorem wl_X9_strikeOut_21 (X : CX RX9 cX9_strikeOut 6 none p s m args meth c G b) {out : HP} (Z : ZV p l e RM_X9_strikeOut s m args below meth c cX9_strikeOut G b False 0 0 Q out)  : ∀ (n : Nat) (a0 : Nat) (x1 : Int32) (x2 : Int32) (x5 : Int32) (h : HP), F_X9_strikeOut_21  n a0 x1 x2 x5 h = some out → ∀ (H : Heap) (locs : List Loc) (ls : Array Slot), ST G b False s h H locs → lv_has ls 6 [(0, .ref (b + a0)), (1, .int x1), (2, .int x2), (5, .int x5)] → W p l e RM_X9_strikeOut s m args below meth c H locs 0 0 Q (F0 m 21 ls []) := by
  intro n
  induction n with
  | zero => intro a0 x1 x2 x5 h hf; exact nn hf
  | succ n ih => exact w_X9_strikeOut_b21 X Z ih
def f_X9_strikeOut_e  (a0 : Nat) (x1 : Int32) (x2 : Int32) (x3 : Int32) (h : HP) : Option (HP) :=
  (f_X9_placeOfLike a0 x1 x2 x3 h).bind fun q1 =>
  if q1.1 = (-1) then
    f_X9_strikeOut_b88   q1.2
  else
    F_X9_strikeOut_21  FU a0 x1 x2 (q1.1 + 1) q1.2
set_option maxRecDepth 100000 in
set_option maxHeartbeats 4000000 in
theorem w_X9_strikeOut_e (X : CX RX9 cX9_strikeOut 6 none p s m args meth c G b) {out : HP} (Z : ZV p l e RM_X9_strikeOut s m args below meth c cX9_strikeOut G b False 0 0 Q out)  : ∀ (a0 : Nat) (x1 : Int32) (x2 : Int32) (x3 : Int32) (h : HP), f_X9_strikeOut_e  a0 x1 x2 x3 h = some out → ∀ (H : Heap) (locs : List Loc) (ls : Array Slot), ST G b False s h H locs → lv_has ls 6 [(0, .ref (b + a0)), (1, .int x1), (2, .int x2), (3, .int x3)] → W p l e RM_X9_strikeOut s m args below meth c H locs 0 0 Q (F0 m 0 ls []) := by
  intro a0 x1 x2 x3 h hf H locs ls S hl
  unfold f_X9_strikeOut_e at hf
  have hx := X.1
  have hb := X.2.1
  refine lv_aload_n hx hb dX9_strikeOut_0 rfl (lv_at hl 0 rfl) ?_
  refine lv_iload_n hx hb dX9_strikeOut_1 rfl (lv_at hl 1 rfl) ?_
  refine lv_iload_n hx hb dX9_strikeOut_2 rfl (lv_at hl 2 rfl) ?_
  refine lv_iload_n hx hb dX9_strikeOut_3 rfl (lv_at hl 3 rfl) ?_
  obtain ⟨q1, e_q1, hf⟩ := ob hf
  refine r_callV X S hl.1 (As := [.int x1, .int x2, .int x3]) (rest := []) (c_X9_placeOfLike e_q1) my_X9_placeOfLike mv_X9_placeOfLike ml_X9_97 rfl (o_X9_placeOfLike e_q1) ⟨rfl, rfl, Nat.le_of_ble_eq_true rfl, Nat.le_of_ble_eq_true rfl⟩ rfl rfl (Nat.le_of_ble_eq_true rfl) dX9_strikeOut_4 ⟨Nat.le_of_ble_eq_true rfl, Nat.le_of_ble_eq_true rfl⟩ (fun H locs S => ?_)
  refine W.eq (g2 := F0 m 7 ls [.int q1.1]) rfl ?_
  refine lv_istore (lv' := [(4, .int q1.1), (0, .ref (b + a0)), (1, .int x1), (2, .int x2), (3, .int x3)]) hx hb dX9_strikeOut_7 hl (by decide) rfl (fun ls hl => ?_)
  refine lv_iload hx hb dX9_strikeOut_9 (lv_at hl 0 rfl) ?_
  refine lv_iconst (v := (-1)) hx hb dX9_strikeOut_11 (by decide) ?_
  refine lv_icmp_eq (tgt := 88) hx hb dX9_strikeOut_12 (by decide) (fun hc => ?_) (fun hc => ?_)
  · replace hf := ip hf hc
    exact w_X9_strikeOut_b88 X Z  _ hf _ _ _ S (lv_sub hl [] rfl)
  · replace hf := im hf hc
    refine lv_iload hx hb dX9_strikeOut_15 (lv_at hl 0 rfl) ?_
    refine lv_iconst (v := 1) hx hb dX9_strikeOut_17 (by decide) ?_
    refine lv_iadd hx hb dX9_strikeOut_18 ?_
    refine lv_istore (lv' := [(5, .int (q1.1 + 1)), (4, .int q1.1), (0, .ref (b + a0)), (1, .int x1), (2, .int x2), (3, .int x3)]) hx hb dX9_strikeOut_19 hl (by decide) rfl (fun ls hl => ?_)
    exact wl_X9_strikeOut_21 X Z  FU _ _ _ _ _ hf _ _ _ S (lv_sub hl [2, 3, 4, 0] rfl)
def f_X9_strikeOut (a0 : Nat) (x1 : Int32) (x2 : Int32) (x3 : Int32) (h : HP) : Option (HP) := ck h a0 9 (f_X9_strikeOut_e a0 x1 x2 x3 h)
theorem o_X9_strikeOut {a0 : Nat} {x1 : Int32} {x2 : Int32} {x3 : Int32} {h : HP} {out : HP} (hf : f_X9_strikeOut a0 x1 x2 x3 h = some out) : ∃ fs, h[a0]? = some (.inl (9, fs)) := (ck_spec hf).1
set_option maxRecDepth 100000 in
theorem c_X9_strikeOut {l : Launch} {G : GT} {b : Nat} {a0 : Nat} {x1 : Int32} {x2 : Int32} {x3 : Int32} {h : HP} {out : HP} (hf : f_X9_strikeOut a0 x1 x2 x3 h = some out) : MT l G b False False yX9_strikeOut cX9_strikeOut 6 none RM_X9_strikeOut [.ref (b + a0), .int x1, .int x2, .int x3] h none out 0 0 := by
  refine met_of (by decide) (Nat.le_of_ble_eq_true rfl) ?_
  intro p e s m below meth c ls X hnm S hl
  have hl : lv_has ls 6 [(0, .ref (b + a0)), (1, .int x1), (2, .int x2), (3, .int x3)] := hl
  replace hf := (ck_spec hf).2
  exact w_X9_strikeOut_e X (z_v X) _ _ _ _ _ hf _ _ _ S hl
end M16
