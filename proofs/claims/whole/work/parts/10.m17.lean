section M17
variable {p : Program} {l : Launch} {e : Env} {s : State} {m : MethodId} {args : Array Value} {below : List Frame} {meth : Method} {c : Code} {Q : State → Prop} {G : GT} {b : Nat}
/-! RoomRingsModel.putIn(IIII)V -/
abbrev RM_X9_putIn : Room := { frames := 2, cells := 0, slots := 0, locals := 49 }
def f_X9_putIn_b40 (K40 : Nat → Int32 → Int32 → Int32 → Int32 → Int32 → HP → Option (HP)) (a0 : Nat) (x1 : Int32) (x2 : Int32) (x3 : Int32) (x6 : Int32) (x7 : Int32) (h : HP) : Option (HP) :=
  if x7 ≤ x6 then
    (gR h a0 9 0).bind fun r1 =>
    (ast h r1 ((x1 + (8 * x2)) + x6) x3).bind fun h2 =>
    (gR h2 a0 9 0).bind fun r3 =>
    (ald h2 r3 ((x1 + 48) + x2)).bind fun v4 =>
    (ast h2 r3 ((x1 + 48) + x2) (v4 + 1)).bind fun h5 =>
    some h5
  else
    (gR h a0 9 0).bind fun r6 =>
    (gR h a0 9 0).bind fun r7 =>
    (ald h r7 (((x1 + (8 * x2)) + x7) - 1)).bind fun v8 =>
    (ast h r6 ((x1 + (8 * x2)) + x7) v8).bind fun h9 =>
    K40 a0 x1 x2 x3 x6 (x7 + (-1)) h9
set_option maxRecDepth 100000 in
set_option maxHeartbeats 4000000 in
theorem w_X9_putIn_b40 (X : CX RX9 cX9_putIn 8 none p s m args meth c G b) {out : HP} (Z : ZV p l e RM_X9_putIn s m args below meth c cX9_putIn G b False 0 0 Q out) {K40 : Nat → Int32 → Int32 → Int32 → Int32 → Int32 → HP → Option (HP)} (hK40 : ∀ (a0 : Nat) (x1 : Int32) (x2 : Int32) (x3 : Int32) (x6 : Int32) (x7 : Int32) (h : HP), K40 a0 x1 x2 x3 x6 x7 h = some out → ∀ (H : Heap) (locs : List Loc) (ls : Array Slot), ST G b False s h H locs → lv_has ls 8 [(0, .ref (b + a0)), (1, .int x1), (2, .int x2), (3, .int x3), (6, .int x6), (7, .int x7)] → W p l e RM_X9_putIn s m args below meth c H locs 0 0 Q (F0 m 40 ls [])) : ∀ (a0 : Nat) (x1 : Int32) (x2 : Int32) (x3 : Int32) (x6 : Int32) (x7 : Int32) (h : HP), f_X9_putIn_b40 K40 a0 x1 x2 x3 x6 x7 h = some out → ∀ (H : Heap) (locs : List Loc) (ls : Array Slot), ST G b False s h H locs → lv_has ls 8 [(0, .ref (b + a0)), (1, .int x1), (2, .int x2), (3, .int x3), (6, .int x6), (7, .int x7)] → W p l e RM_X9_putIn s m args below meth c H locs 0 0 Q (F0 m 40 ls []) := by
  intro a0 x1 x2 x3 x6 x7 h hf H locs ls S hl
  unfold f_X9_putIn_b40 at hf
  have hx := X.1
  have hb := X.2.1
  refine lv_iload hx hb dX9_putIn_40 (lv_at hl 5 rfl) ?_
  refine lv_iload hx hb dX9_putIn_42 (lv_at hl 4 rfl) ?_
  refine lv_icmp_le (tgt := 83) hx hb dX9_putIn_44 (by decide) (fun hc => ?_) (fun hc => ?_)
  · replace hf := ip hf hc
    refine lv_aload_n hx hb dX9_putIn_83 rfl (lv_at hl 0 rfl) ?_
    obtain ⟨r1, e_r1, hf⟩ := ob hf
    refine r_getR X S fl_X9_7 e_r1 dX9_putIn_84 ?_
    refine lv_iload_n hx hb dX9_putIn_87 rfl (lv_at hl 1 rfl) ?_
    refine lv_bipush (v := 8) hx hb dX9_putIn_88 (by decide) ?_
    refine lv_iload_n hx hb dX9_putIn_90 rfl (lv_at hl 2 rfl) ?_
    refine lv_imul hx hb dX9_putIn_91 ?_
    refine lv_iadd hx hb dX9_putIn_92 ?_
    refine lv_iload hx hb dX9_putIn_93 (lv_at hl 4 rfl) ?_
    refine lv_iadd hx hb dX9_putIn_95 ?_
    refine lv_iload_n hx hb dX9_putIn_96 rfl (lv_at hl 3 rfl) ?_
    obtain ⟨h2, e_h2, hf⟩ := ob hf
    refine r_ast X S e_h2 dX9_putIn_97 (fun H locs S => ?_)
    refine lv_aload_n hx hb dX9_putIn_98 rfl (lv_at hl 0 rfl) ?_
    obtain ⟨r3, e_r3, hf⟩ := ob hf
    refine r_getR X S fl_X9_7 e_r3 dX9_putIn_99 ?_
    refine lv_iload_n hx hb dX9_putIn_102 rfl (lv_at hl 1 rfl) ?_
    refine lv_bipush (v := 48) hx hb dX9_putIn_103 (by decide) ?_
    refine lv_iadd hx hb dX9_putIn_105 ?_
    refine lv_iload_n hx hb dX9_putIn_106 rfl (lv_at hl 2 rfl) ?_
    refine lv_iadd hx hb dX9_putIn_107 ?_
    refine lv_dup2_11 hx hb dX9_putIn_108 rfl rfl ?_
    obtain ⟨v4, e_v4, hf⟩ := ob hf
    refine r_ald X S e_v4 dX9_putIn_109 ?_
    refine lv_iconst (v := 1) hx hb dX9_putIn_110 (by decide) ?_
    refine lv_iadd hx hb dX9_putIn_111 ?_
    obtain ⟨h5, e_h5, hf⟩ := ob hf
    refine r_ast X S e_h5 dX9_putIn_112 (fun H locs S => ?_)
    obtain rfl := Option.some.inj hf
    exact Z _ _ _ _ dX9_putIn_113 S
  · replace hf := im hf hc
    refine lv_aload_n hx hb dX9_putIn_47 rfl (lv_at hl 0 rfl) ?_
    obtain ⟨r6, e_r6, hf⟩ := ob hf
    refine r_getR X S fl_X9_7 e_r6 dX9_putIn_48 ?_
    refine lv_iload_n hx hb dX9_putIn_51 rfl (lv_at hl 1 rfl) ?_
    refine lv_bipush (v := 8) hx hb dX9_putIn_52 (by decide) ?_
    refine lv_iload_n hx hb dX9_putIn_54 rfl (lv_at hl 2 rfl) ?_
    refine lv_imul hx hb dX9_putIn_55 ?_
    refine lv_iadd hx hb dX9_putIn_56 ?_
    refine lv_iload hx hb dX9_putIn_57 (lv_at hl 5 rfl) ?_
    refine lv_iadd hx hb dX9_putIn_59 ?_
    refine lv_aload_n hx hb dX9_putIn_60 rfl (lv_at hl 0 rfl) ?_
    obtain ⟨r7, e_r7, hf⟩ := ob hf
    refine r_getR X S fl_X9_7 e_r7 dX9_putIn_61 ?_
    refine lv_iload_n hx hb dX9_putIn_64 rfl (lv_at hl 1 rfl) ?_
    refine lv_bipush (v := 8) hx hb dX9_putIn_65 (by decide) ?_
    refine lv_iload_n hx hb dX9_putIn_67 rfl (lv_at hl 2 rfl) ?_
    refine lv_imul hx hb dX9_putIn_68 ?_
    refine lv_iadd hx hb dX9_putIn_69 ?_
    refine lv_iload hx hb dX9_putIn_70 (lv_at hl 5 rfl) ?_
    refine lv_iadd hx hb dX9_putIn_72 ?_
    refine lv_iconst (v := 1) hx hb dX9_putIn_73 (by decide) ?_
    refine lv_isub hx hb dX9_putIn_74 ?_
    obtain ⟨v8, e_v8, hf⟩ := ob hf
    refine r_ald X S e_v8 dX9_putIn_75 ?_
    obtain ⟨h9, e_h9, hf⟩ := ob hf
    refine r_ast X S e_h9 dX9_putIn_76 (fun H locs S => ?_)
    refine lv_iinc (v := x7 + (-1)) (lv' := [(7, .int (x7 + (-1))), (0, .ref (b + a0)), (1, .int x1), (2, .int x2), (3, .int x3), (6, .int x6)]) hx hb dX9_putIn_77 hl (k := 5) rfl rfl (by decide) rfl (fun ls hl => ?_)
    refine lv_goto (tgt := 40) hx hb dX9_putIn_80 (by decide) ?_
    exact hK40 _ _ _ _ _ _ _ hf _ _ _ S (lv_sub hl [1, 2, 3, 4, 5, 0] rfl)
def F_X9_putIn_40  : Nat → Nat → Int32 → Int32 → Int32 → Int32 → Int32 → HP → Option (HP)
  | 0 => fun _ _ _ _ _ _ _ => none
  | n + 1 => fun a0 x1 x2 x3 x6 x7 h => f_X9_putIn_b40 (F_X9_putIn_40  n) a0 x1 x2 x3 x6 x7 h
theorem wl_X9_putIn_40 (X : CX RX9 cX9_putIn 8 none p s m args meth c G b) {out : HP} (Z : ZV p l e RM_X9_putIn s m args below meth c cX9_putIn G b False 0 0 Q out)  : ∀ (n : Nat) (a0 : Nat) (x1 : Int32) (x2 : Int32) (x3 : Int32) (x6 : Int32) (x7 : Int32) (h : HP), F_X9_putIn_40  n a0 x1 x2 x3 x6 x7 h = some out → ∀ (H : Heap) (locs : List Loc) (ls : Array Slot), ST G b False s h H locs → lv_has ls 8 [(0, .ref (b + a0)), (1, .int x1), (2, .int x2), (3, .int x3), (6, .int x6), (7, .int x7)] → W p l e RM_X9_putIn s m args below meth c H locs 0 0 Q (F0 m 40 ls []) := by
  intro n
  induction n with
  | zero => intro a0 x1 x2 x3 x6 x7 h hf; exact nn hf
  | succ n ih => exact w_X9_putIn_b40 X Z ih
def f_X9_putIn_b34  (a0 : Nat) (x1 : Int32) (x2 : Int32) (x3 : Int32) (x5 : Int32) (s0 : Int32) (h : HP) : Option (HP) :=
  F_X9_putIn_40  FU a0 x1 x2 x3 s0 x5 h
set_option maxRecDepth 100000 in
set_option maxHeartbeats 4000000 in
theorem w_X9_putIn_b34 (X : CX RX9 cX9_putIn 8 none p s m args meth c G b) {out : HP} (Z : ZV p l e RM_X9_putIn s m args below meth c cX9_putIn G b False 0 0 Q out)  : ∀ (a0 : Nat) (x1 : Int32) (x2 : Int32) (x3 : Int32) (x5 : Int32) (s0 : Int32) (h : HP), f_X9_putIn_b34  a0 x1 x2 x3 x5 s0 h = some out → ∀ (H : Heap) (locs : List Loc) (ls : Array Slot), ST G b False s h H locs → lv_has ls 8 [(0, .ref (b + a0)), (1, .int x1), (2, .int x2), (3, .int x3), (5, .int x5)] → W p l e RM_X9_putIn s m args below meth c H locs 0 0 Q (F0 m 34 ls [.int s0]) := by
  intro a0 x1 x2 x3 x5 s0 h hf H locs ls S hl
  unfold f_X9_putIn_b34 at hf
  have hx := X.1
  have hb := X.2.1
  refine lv_istore (lv' := [(6, .int s0), (0, .ref (b + a0)), (1, .int x1), (2, .int x2), (3, .int x3), (5, .int x5)]) hx hb dX9_putIn_34 hl (by decide) rfl (fun ls hl => ?_)
  refine lv_iload hx hb dX9_putIn_36 (lv_at hl 5 rfl) ?_
  refine lv_istore (lv' := [(7, .int x5), (6, .int s0), (0, .ref (b + a0)), (1, .int x1), (2, .int x2), (3, .int x3), (5, .int x5)]) hx hb dX9_putIn_38 hl (by decide) rfl (fun ls hl => ?_)
  exact wl_X9_putIn_40 X Z  FU _ _ _ _ _ _ _ hf _ _ _ S (lv_sub hl [2, 3, 4, 5, 1, 0] rfl)
def f_X9_putIn_e  (a0 : Nat) (x1 : Int32) (x2 : Int32) (x3 : Int32) (x4 : Int32) (h : HP) : Option (HP) :=
  (f_X9_strikeOut a0 x1 x2 x3 h).bind fun h1 =>
  (gR h1 a0 9 0).bind fun r2 =>
  (ald h1 r2 ((x1 + 48) + x2)).bind fun v3 =>
  if v3 ≤ x4 then
    f_X9_putIn_b34  a0 x1 x2 x3 v3 v3 h1
  else
    f_X9_putIn_b34  a0 x1 x2 x3 v3 x4 h1
set_option maxRecDepth 100000 in
set_option maxHeartbeats 4000000 in
theorem w_X9_putIn_e (X : CX RX9 cX9_putIn 8 none p s m args meth c G b) {out : HP} (Z : ZV p l e RM_X9_putIn s m args below meth c cX9_putIn G b False 0 0 Q out)  : ∀ (a0 : Nat) (x1 : Int32) (x2 : Int32) (x3 : Int32) (x4 : Int32) (h : HP), f_X9_putIn_e  a0 x1 x2 x3 x4 h = some out → ∀ (H : Heap) (locs : List Loc) (ls : Array Slot), ST G b False s h H locs → lv_has ls 8 [(0, .ref (b + a0)), (1, .int x1), (2, .int x2), (3, .int x3), (4, .int x4)] → W p l e RM_X9_putIn s m args below meth c H locs 0 0 Q (F0 m 0 ls []) := by
  intro a0 x1 x2 x3 x4 h hf H locs ls S hl
  unfold f_X9_putIn_e at hf
  have hx := X.1
  have hb := X.2.1
  refine lv_aload_n hx hb dX9_putIn_0 rfl (lv_at hl 0 rfl) ?_
  refine lv_iload_n hx hb dX9_putIn_1 rfl (lv_at hl 1 rfl) ?_
  refine lv_iload_n hx hb dX9_putIn_2 rfl (lv_at hl 2 rfl) ?_
  refine lv_iload_n hx hb dX9_putIn_3 rfl (lv_at hl 3 rfl) ?_
  obtain ⟨h1, e_h1, hf⟩ := ob hf
  refine r_callV X S hl.1 (As := [.int x1, .int x2, .int x3]) (rest := []) (c_X9_strikeOut e_h1) my_X9_strikeOut mv_X9_strikeOut ml_X9_219 rfl (o_X9_strikeOut e_h1) ⟨rfl, rfl, Nat.le_of_ble_eq_true rfl, Nat.le_of_ble_eq_true rfl⟩ rfl rfl (Nat.le_of_ble_eq_true rfl) dX9_putIn_4 ⟨Nat.le_of_ble_eq_true rfl, Nat.le_of_ble_eq_true rfl⟩ (fun H locs S => ?_)
  refine W.eq (g2 := F0 m 7 ls []) rfl ?_
  refine lv_aload_n hx hb dX9_putIn_7 rfl (lv_at hl 0 rfl) ?_
  obtain ⟨r2, e_r2, hf⟩ := ob hf
  refine r_getR X S fl_X9_7 e_r2 dX9_putIn_8 ?_
  refine lv_iload_n hx hb dX9_putIn_11 rfl (lv_at hl 1 rfl) ?_
  refine lv_bipush (v := 48) hx hb dX9_putIn_12 (by decide) ?_
  refine lv_iadd hx hb dX9_putIn_14 ?_
  refine lv_iload_n hx hb dX9_putIn_15 rfl (lv_at hl 2 rfl) ?_
  refine lv_iadd hx hb dX9_putIn_16 ?_
  obtain ⟨v3, e_v3, hf⟩ := ob hf
  refine r_ald X S e_v3 dX9_putIn_17 ?_
  refine lv_istore (lv' := [(5, .int v3), (0, .ref (b + a0)), (1, .int x1), (2, .int x2), (3, .int x3), (4, .int x4)]) hx hb dX9_putIn_18 hl (by decide) rfl (fun ls hl => ?_)
  refine lv_iload hx hb dX9_putIn_20 (lv_at hl 5 rfl) ?_
  refine lv_iload hx hb dX9_putIn_22 (lv_at hl 0 rfl) ?_
  refine lv_icmp_ge (tgt := 32) hx hb dX9_putIn_24 (by decide) (fun hc => ?_) (fun hc => ?_)
  · replace hf := ip hf hc
    refine lv_iload hx hb dX9_putIn_32 (lv_at hl 0 rfl) ?_
    exact w_X9_putIn_b34 X Z  _ _ _ _ _ _ _ hf _ _ _ S (lv_sub hl [1, 2, 3, 4, 0] rfl)
  · replace hf := im hf hc
    refine lv_iload hx hb dX9_putIn_27 (lv_at hl 5 rfl) ?_
    refine lv_goto (tgt := 34) hx hb dX9_putIn_29 (by decide) ?_
    exact w_X9_putIn_b34 X Z  _ _ _ _ _ _ _ hf _ _ _ S (lv_sub hl [1, 2, 3, 4, 0] rfl)
def f_X9_putIn (a0 : Nat) (x1 : Int32) (x2 : Int32) (x3 : Int32) (x4 : Int32) (h : HP) : Option (HP) := ck h a0 9 (f_X9_putIn_e a0 x1 x2 x3 x4 h)
theorem o_X9_putIn {a0 : Nat} {x1 : Int32} {x2 : Int32} {x3 : Int32} {x4 : Int32} {h : HP} {out : HP} (hf : f_X9_putIn a0 x1 x2 x3 x4 h = some out) : ∃ fs, h[a0]? = some (.inl (9, fs)) := (ck_spec hf).1
set_option maxRecDepth 100000 in
theorem c_X9_putIn {l : Launch} {G : GT} {b : Nat} {a0 : Nat} {x1 : Int32} {x2 : Int32} {x3 : Int32} {x4 : Int32} {h : HP} {out : HP} (hf : f_X9_putIn a0 x1 x2 x3 x4 h = some out) : MT l G b False False yX9_putIn cX9_putIn 8 none RM_X9_putIn [.ref (b + a0), .int x1, .int x2, .int x3, .int x4] h none out 0 0 := by
  refine met_of (by decide) (Nat.le_of_ble_eq_true rfl) ?_
  intro p e s m below meth c ls X hnm S hl
  have hl : lv_has ls 8 [(0, .ref (b + a0)), (1, .int x1), (2, .int x2), (3, .int x3), (4, .int x4)] := hl
  replace hf := (ck_spec hf).2
  exact w_X9_putIn_e X (z_v X) _ _ _ _ _ _ hf _ _ _ S hl
/-! RoomRingsModel.like(III)I -/
abbrev RM_X9_like : Room := { frames := 3, cells := 0, slots := 0, locals := 76 }
def f_X9_like_b16   (h : HP) : Option (Int32 × HP) :=
  some ((-1000000001), h)
set_option maxRecDepth 100000 in
set_option maxHeartbeats 4000000 in
theorem w_X9_like_b16 (X : CX RX9 cX9_like 4 (some .int) p s m args meth c G b) {out : Int32 × HP} (Z : ZI p l e RM_X9_like s m args below meth c cX9_like G b False 0 0 Q out)  : ∀  (h : HP), f_X9_like_b16   h = some out → ∀ (H : Heap) (locs : List Loc) (ls : Array Slot), ST G b False s h H locs → lv_has ls 4 [] → W p l e RM_X9_like s m args below meth c H locs 0 0 Q (F0 m 16 ls []) := by
  intro  h hf H locs ls S hl
  unfold f_X9_like_b16 at hf
  have hx := X.1
  have hb := X.2.1
  refine lv_ldc (v := (-1000000001)) hx hb X.2.2.2.1 (X.2.2.2.2.1 _ cn_X9_206) dX9_like_16 ?_
  obtain rfl := Option.some.inj hf
  exact Z _ _ _ _ dX9_like_18 S
def f_X9_like_e  (a0 : Nat) (x1 : Int32) (x2 : Int32) (x3 : Int32) (h : HP) : Option (Int32 × HP) :=
  (f_X9_isPerson a0 x1 h).bind fun q1 =>
  if q1.1 = 0 then
    f_X9_like_b16   q1.2
  else
    (f_X9_isRoom a0 x2 q1.2).bind fun q2 =>
    if q2.1 = 0 then
      f_X9_like_b16   q2.2
    else
      (f_X9_in x3 0 7 q2.2).bind fun q3 =>
      if q3.1 = 0 then
        some ((-1000000002), q3.2)
      else
        (f_X9_remember a0 q3.2).bind fun h4 =>
        (f_X9_putIn a0 0 x1 x2 x3 h4).bind fun h5 =>
        (gR h5 a0 9 0).bind fun r6 =>
        (ald h5 r6 (48 + x1)).bind fun v7 =>
        some (v7, h5)
set_option maxRecDepth 100000 in
set_option maxHeartbeats 4000000 in
theorem w_X9_like_e (X : CX RX9 cX9_like 4 (some .int) p s m args meth c G b) {out : Int32 × HP} (Z : ZI p l e RM_X9_like s m args below meth c cX9_like G b False 0 0 Q out)  : ∀ (a0 : Nat) (x1 : Int32) (x2 : Int32) (x3 : Int32) (h : HP), f_X9_like_e  a0 x1 x2 x3 h = some out → ∀ (H : Heap) (locs : List Loc) (ls : Array Slot), ST G b False s h H locs → lv_has ls 4 [(0, .ref (b + a0)), (1, .int x1), (2, .int x2), (3, .int x3)] → W p l e RM_X9_like s m args below meth c H locs 0 0 Q (F0 m 0 ls []) := by
  intro a0 x1 x2 x3 h hf H locs ls S hl
  unfold f_X9_like_e at hf
  have hx := X.1
  have hb := X.2.1
  refine lv_aload_n hx hb dX9_like_0 rfl (lv_at hl 0 rfl) ?_
  refine lv_iload_n hx hb dX9_like_1 rfl (lv_at hl 1 rfl) ?_
  obtain ⟨q1, e_q1, hf⟩ := ob hf
  refine r_callV X S hl.1 (As := [.int x1]) (rest := []) (c_X9_isPerson e_q1) my_X9_isPerson mv_X9_isPerson ml_X9_202 rfl (o_X9_isPerson e_q1) ⟨rfl, rfl, Nat.le_of_ble_eq_true rfl, Nat.le_of_ble_eq_true rfl⟩ rfl rfl (Nat.le_of_ble_eq_true rfl) dX9_like_2 ⟨Nat.le_of_ble_eq_true rfl, Nat.le_of_ble_eq_true rfl⟩ (fun H locs S => ?_)
  refine W.eq (g2 := F0 m 5 ls [.int q1.1]) rfl ?_
  refine lv_if_eq (tgt := 16) hx hb dX9_like_5 (by decide) (fun hc => ?_) (fun hc => ?_)
  · replace hf := ip hf hc
    exact w_X9_like_b16 X Z  _ hf _ _ _ S (lv_sub hl [] rfl)
  · replace hf := im hf hc
    refine lv_aload_n hx hb dX9_like_8 rfl (lv_at hl 0 rfl) ?_
    refine lv_iload_n hx hb dX9_like_9 rfl (lv_at hl 2 rfl) ?_
    obtain ⟨q2, e_q2, hf⟩ := ob hf
    refine r_callV X S hl.1 (As := [.int x2]) (rest := []) (c_X9_isRoom e_q2) my_X9_isRoom mv_X9_isRoom ml_X9_216 rfl (o_X9_isRoom e_q2) ⟨rfl, rfl, Nat.le_of_ble_eq_true rfl, Nat.le_of_ble_eq_true rfl⟩ rfl rfl (Nat.le_of_ble_eq_true rfl) dX9_like_10 ⟨Nat.le_of_ble_eq_true rfl, Nat.le_of_ble_eq_true rfl⟩ (fun H locs S => ?_)
    refine W.eq (g2 := F0 m 13 ls [.int q2.1]) rfl ?_
    refine lv_if_ne (tgt := 19) hx hb dX9_like_13 (by decide) (fun hc => ?_) (fun hc => ?_)
    · replace hf := im hf hc
      refine lv_iload_n hx hb dX9_like_19 rfl (lv_at hl 3 rfl) ?_
      refine lv_iconst (v := 0) hx hb dX9_like_20 (by decide) ?_
      refine lv_bipush (v := 7) hx hb dX9_like_21 (by decide) ?_
      obtain ⟨q3, e_q3, hf⟩ := ob hf
      refine r_callS X S hl.1 (As := [.int x3, .int 0, .int 7]) (rest := []) (c_X9_in e_q3) my_X9_in ms_X9_in ml_X9_54 ⟨rfl, rfl, Nat.le_of_ble_eq_true rfl, Nat.le_of_ble_eq_true rfl⟩ rfl rfl (Nat.le_of_ble_eq_true rfl) dX9_like_23 ⟨Nat.le_of_ble_eq_true rfl, Nat.le_of_ble_eq_true rfl⟩ (fun H locs S => ?_)
      refine W.eq (g2 := F0 m 26 ls [.int q3.1]) rfl ?_
      refine lv_if_ne (tgt := 32) hx hb dX9_like_26 (by decide) (fun hc => ?_) (fun hc => ?_)
      · replace hf := im hf hc
        refine lv_aload_n hx hb dX9_like_32 rfl (lv_at hl 0 rfl) ?_
        obtain ⟨h4, e_h4, hf⟩ := ob hf
        refine r_callV X S hl.1 (As := []) (rest := []) (c_X9_remember e_h4) my_X9_remember mv_X9_remember ml_X9_223 rfl (o_X9_remember e_h4) ⟨rfl, rfl, Nat.le_of_ble_eq_true rfl, Nat.le_of_ble_eq_true rfl⟩ rfl rfl (Nat.le_of_ble_eq_true rfl) dX9_like_33 ⟨Nat.le_of_ble_eq_true rfl, Nat.le_of_ble_eq_true rfl⟩ (fun H locs S => ?_)
        refine W.eq (g2 := F0 m 36 ls []) rfl ?_
        refine lv_aload_n hx hb dX9_like_36 rfl (lv_at hl 0 rfl) ?_
        refine lv_iconst (v := 0) hx hb dX9_like_37 (by decide) ?_
        refine lv_iload_n hx hb dX9_like_38 rfl (lv_at hl 1 rfl) ?_
        refine lv_iload_n hx hb dX9_like_39 rfl (lv_at hl 2 rfl) ?_
        refine lv_iload_n hx hb dX9_like_40 rfl (lv_at hl 3 rfl) ?_
        obtain ⟨h5, e_h5, hf⟩ := ob hf
        refine r_callV X S hl.1 (As := [.int 0, .int x1, .int x2, .int x3]) (rest := []) (c_X9_putIn e_h5) my_X9_putIn mv_X9_putIn ml_X9_226 rfl (o_X9_putIn e_h5) ⟨rfl, rfl, Nat.le_of_ble_eq_true rfl, Nat.le_of_ble_eq_true rfl⟩ rfl rfl (Nat.le_of_ble_eq_true rfl) dX9_like_41 ⟨Nat.le_of_ble_eq_true rfl, Nat.le_of_ble_eq_true rfl⟩ (fun H locs S => ?_)
        refine W.eq (g2 := F0 m 44 ls []) rfl ?_
        refine lv_aload_n hx hb dX9_like_44 rfl (lv_at hl 0 rfl) ?_
        obtain ⟨r6, e_r6, hf⟩ := ob hf
        refine r_getR X S fl_X9_7 e_r6 dX9_like_45 ?_
        refine lv_bipush (v := 48) hx hb dX9_like_48 (by decide) ?_
        refine lv_iload_n hx hb dX9_like_50 rfl (lv_at hl 1 rfl) ?_
        refine lv_iadd hx hb dX9_like_51 ?_
        obtain ⟨v7, e_v7, hf⟩ := ob hf
        refine r_ald X S e_v7 dX9_like_52 ?_
        obtain rfl := Option.some.inj hf
        exact Z _ _ _ _ dX9_like_53 S
      · replace hf := ip hf hc
        refine lv_ldc (v := (-1000000002)) hx hb X.2.2.2.1 (X.2.2.2.2.1 _ cn_X9_61) dX9_like_29 ?_
        obtain rfl := Option.some.inj hf
        exact Z _ _ _ _ dX9_like_31 S
    · replace hf := ip hf hc
      exact w_X9_like_b16 X Z  _ hf _ _ _ S (lv_sub hl [] rfl)
def f_X9_like (a0 : Nat) (x1 : Int32) (x2 : Int32) (x3 : Int32) (h : HP) : Option (Int32 × HP) := ck h a0 9 (f_X9_like_e a0 x1 x2 x3 h)
theorem o_X9_like {a0 : Nat} {x1 : Int32} {x2 : Int32} {x3 : Int32} {h : HP} {out : Int32 × HP} (hf : f_X9_like a0 x1 x2 x3 h = some out) : ∃ fs, h[a0]? = some (.inl (9, fs)) := (ck_spec hf).1
set_option maxRecDepth 100000 in
theorem c_X9_like {l : Launch} {G : GT} {b : Nat} {a0 : Nat} {x1 : Int32} {x2 : Int32} {x3 : Int32} {h : HP} {out : Int32 × HP} (hf : f_X9_like a0 x1 x2 x3 h = some out) : MT l G b False False yX9_like cX9_like 4 (some .int) RM_X9_like [.ref (b + a0), .int x1, .int x2, .int x3] h (some (.int out.1)) out.2 0 0 := by
  refine met_of (by decide) (Nat.le_of_ble_eq_true rfl) ?_
  intro p e s m below meth c ls X hnm S hl
  have hl : lv_has ls 4 [(0, .ref (b + a0)), (1, .int x1), (2, .int x2), (3, .int x3)] := hl
  replace hf := (ck_spec hf).2
  exact w_X9_like_e X (z_i X) _ _ _ _ _ hf _ _ _ S hl
/-! RoomRingsModel.strike(II)I -/
abbrev RM_X9_strike : Room := { frames := 2, cells := 0, slots := 0, locals := 49 }
def f_X9_strike_b16   (h : HP) : Option (Int32 × HP) :=
  some ((-1000000001), h)
set_option maxRecDepth 100000 in
set_option maxHeartbeats 4000000 in
theorem w_X9_strike_b16 (X : CX RX9 cX9_strike 3 (some .int) p s m args meth c G b) {out : Int32 × HP} (Z : ZI p l e RM_X9_strike s m args below meth c cX9_strike G b False 0 0 Q out)  : ∀  (h : HP), f_X9_strike_b16   h = some out → ∀ (H : Heap) (locs : List Loc) (ls : Array Slot), ST G b False s h H locs → lv_has ls 3 [] → W p l e RM_X9_strike s m args below meth c H locs 0 0 Q (F0 m 16 ls []) := by
  intro  h hf H locs ls S hl
  unfold f_X9_strike_b16 at hf
  have hx := X.1
  have hb := X.2.1
  refine lv_ldc (v := (-1000000001)) hx hb X.2.2.2.1 (X.2.2.2.2.1 _ cn_X9_206) dX9_strike_16 ?_
  obtain rfl := Option.some.inj hf
  exact Z _ _ _ _ dX9_strike_18 S
def f_X9_strike_e  (a0 : Nat) (x1 : Int32) (x2 : Int32) (h : HP) : Option (Int32 × HP) :=
  (f_X9_isPerson a0 x1 h).bind fun q1 =>
  if q1.1 = 0 then
    f_X9_strike_b16   q1.2
  else
    (f_X9_isRoom a0 x2 q1.2).bind fun q2 =>
    if q2.1 = 0 then
      f_X9_strike_b16   q2.2
    else
      (f_X9_placeOfLike a0 0 x1 x2 q2.2).bind fun q3 =>
      if q3.1 = (-1) then
        some ((-1000000003), q3.2)
      else
        (f_X9_remember a0 q3.2).bind fun h4 =>
        (f_X9_strikeOut a0 0 x1 x2 h4).bind fun h5 =>
        (gR h5 a0 9 0).bind fun r6 =>
        (ald h5 r6 (48 + x1)).bind fun v7 =>
        some (v7, h5)
set_option maxRecDepth 100000 in
set_option maxHeartbeats 4000000 in
theorem w_X9_strike_e (X : CX RX9 cX9_strike 3 (some .int) p s m args meth c G b) {out : Int32 × HP} (Z : ZI p l e RM_X9_strike s m args below meth c cX9_strike G b False 0 0 Q out)  : ∀ (a0 : Nat) (x1 : Int32) (x2 : Int32) (h : HP), f_X9_strike_e  a0 x1 x2 h = some out → ∀ (H : Heap) (locs : List Loc) (ls : Array Slot), ST G b False s h H locs → lv_has ls 3 [(0, .ref (b + a0)), (1, .int x1), (2, .int x2)] → W p l e RM_X9_strike s m args below meth c H locs 0 0 Q (F0 m 0 ls []) := by
  intro a0 x1 x2 h hf H locs ls S hl
  unfold f_X9_strike_e at hf
  have hx := X.1
  have hb := X.2.1
  refine lv_aload_n hx hb dX9_strike_0 rfl (lv_at hl 0 rfl) ?_
  refine lv_iload_n hx hb dX9_strike_1 rfl (lv_at hl 1 rfl) ?_
  obtain ⟨q1, e_q1, hf⟩ := ob hf
  refine r_callV X S hl.1 (As := [.int x1]) (rest := []) (c_X9_isPerson e_q1) my_X9_isPerson mv_X9_isPerson ml_X9_202 rfl (o_X9_isPerson e_q1) ⟨rfl, rfl, Nat.le_of_ble_eq_true rfl, Nat.le_of_ble_eq_true rfl⟩ rfl rfl (Nat.le_of_ble_eq_true rfl) dX9_strike_2 ⟨Nat.le_of_ble_eq_true rfl, Nat.le_of_ble_eq_true rfl⟩ (fun H locs S => ?_)
  refine W.eq (g2 := F0 m 5 ls [.int q1.1]) rfl ?_
  refine lv_if_eq (tgt := 16) hx hb dX9_strike_5 (by decide) (fun hc => ?_) (fun hc => ?_)
  · replace hf := ip hf hc
    exact w_X9_strike_b16 X Z  _ hf _ _ _ S (lv_sub hl [] rfl)
  · replace hf := im hf hc
    refine lv_aload_n hx hb dX9_strike_8 rfl (lv_at hl 0 rfl) ?_
    refine lv_iload_n hx hb dX9_strike_9 rfl (lv_at hl 2 rfl) ?_
    obtain ⟨q2, e_q2, hf⟩ := ob hf
    refine r_callV X S hl.1 (As := [.int x2]) (rest := []) (c_X9_isRoom e_q2) my_X9_isRoom mv_X9_isRoom ml_X9_216 rfl (o_X9_isRoom e_q2) ⟨rfl, rfl, Nat.le_of_ble_eq_true rfl, Nat.le_of_ble_eq_true rfl⟩ rfl rfl (Nat.le_of_ble_eq_true rfl) dX9_strike_10 ⟨Nat.le_of_ble_eq_true rfl, Nat.le_of_ble_eq_true rfl⟩ (fun H locs S => ?_)
    refine W.eq (g2 := F0 m 13 ls [.int q2.1]) rfl ?_
    refine lv_if_ne (tgt := 19) hx hb dX9_strike_13 (by decide) (fun hc => ?_) (fun hc => ?_)
    · replace hf := im hf hc
      refine lv_aload_n hx hb dX9_strike_19 rfl (lv_at hl 0 rfl) ?_
      refine lv_iconst (v := 0) hx hb dX9_strike_20 (by decide) ?_
      refine lv_iload_n hx hb dX9_strike_21 rfl (lv_at hl 1 rfl) ?_
      refine lv_iload_n hx hb dX9_strike_22 rfl (lv_at hl 2 rfl) ?_
      obtain ⟨q3, e_q3, hf⟩ := ob hf
      refine r_callV X S hl.1 (As := [.int 0, .int x1, .int x2]) (rest := []) (c_X9_placeOfLike e_q3) my_X9_placeOfLike mv_X9_placeOfLike ml_X9_97 rfl (o_X9_placeOfLike e_q3) ⟨rfl, rfl, Nat.le_of_ble_eq_true rfl, Nat.le_of_ble_eq_true rfl⟩ rfl rfl (Nat.le_of_ble_eq_true rfl) dX9_strike_23 ⟨Nat.le_of_ble_eq_true rfl, Nat.le_of_ble_eq_true rfl⟩ (fun H locs S => ?_)
      refine W.eq (g2 := F0 m 26 ls [.int q3.1]) rfl ?_
      refine lv_iconst (v := (-1)) hx hb dX9_strike_26 (by decide) ?_
      refine lv_icmp_ne (tgt := 33) hx hb dX9_strike_27 (by decide) (fun hc => ?_) (fun hc => ?_)
      · replace hf := im hf hc
        refine lv_aload_n hx hb dX9_strike_33 rfl (lv_at hl 0 rfl) ?_
        obtain ⟨h4, e_h4, hf⟩ := ob hf
        refine r_callV X S hl.1 (As := []) (rest := []) (c_X9_remember e_h4) my_X9_remember mv_X9_remember ml_X9_223 rfl (o_X9_remember e_h4) ⟨rfl, rfl, Nat.le_of_ble_eq_true rfl, Nat.le_of_ble_eq_true rfl⟩ rfl rfl (Nat.le_of_ble_eq_true rfl) dX9_strike_34 ⟨Nat.le_of_ble_eq_true rfl, Nat.le_of_ble_eq_true rfl⟩ (fun H locs S => ?_)
        refine W.eq (g2 := F0 m 37 ls []) rfl ?_
        refine lv_aload_n hx hb dX9_strike_37 rfl (lv_at hl 0 rfl) ?_
        refine lv_iconst (v := 0) hx hb dX9_strike_38 (by decide) ?_
        refine lv_iload_n hx hb dX9_strike_39 rfl (lv_at hl 1 rfl) ?_
        refine lv_iload_n hx hb dX9_strike_40 rfl (lv_at hl 2 rfl) ?_
        obtain ⟨h5, e_h5, hf⟩ := ob hf
        refine r_callV X S hl.1 (As := [.int 0, .int x1, .int x2]) (rest := []) (c_X9_strikeOut e_h5) my_X9_strikeOut mv_X9_strikeOut ml_X9_219 rfl (o_X9_strikeOut e_h5) ⟨rfl, rfl, Nat.le_of_ble_eq_true rfl, Nat.le_of_ble_eq_true rfl⟩ rfl rfl (Nat.le_of_ble_eq_true rfl) dX9_strike_41 ⟨Nat.le_of_ble_eq_true rfl, Nat.le_of_ble_eq_true rfl⟩ (fun H locs S => ?_)
        refine W.eq (g2 := F0 m 44 ls []) rfl ?_
        refine lv_aload_n hx hb dX9_strike_44 rfl (lv_at hl 0 rfl) ?_
        obtain ⟨r6, e_r6, hf⟩ := ob hf
        refine r_getR X S fl_X9_7 e_r6 dX9_strike_45 ?_
        refine lv_bipush (v := 48) hx hb dX9_strike_48 (by decide) ?_
        refine lv_iload_n hx hb dX9_strike_50 rfl (lv_at hl 1 rfl) ?_
        refine lv_iadd hx hb dX9_strike_51 ?_
        obtain ⟨v7, e_v7, hf⟩ := ob hf
        refine r_ald X S e_v7 dX9_strike_52 ?_
        obtain rfl := Option.some.inj hf
        exact Z _ _ _ _ dX9_strike_53 S
      · replace hf := ip hf hc
        refine lv_ldc (v := (-1000000003)) hx hb X.2.2.2.1 (X.2.2.2.2.1 _ cn_X9_230) dX9_strike_30 ?_
        obtain rfl := Option.some.inj hf
        exact Z _ _ _ _ dX9_strike_32 S
    · replace hf := ip hf hc
      exact w_X9_strike_b16 X Z  _ hf _ _ _ S (lv_sub hl [] rfl)
def f_X9_strike (a0 : Nat) (x1 : Int32) (x2 : Int32) (h : HP) : Option (Int32 × HP) := ck h a0 9 (f_X9_strike_e a0 x1 x2 h)
theorem o_X9_strike {a0 : Nat} {x1 : Int32} {x2 : Int32} {h : HP} {out : Int32 × HP} (hf : f_X9_strike a0 x1 x2 h = some out) : ∃ fs, h[a0]? = some (.inl (9, fs)) := (ck_spec hf).1
set_option maxRecDepth 100000 in
theorem c_X9_strike {l : Launch} {G : GT} {b : Nat} {a0 : Nat} {x1 : Int32} {x2 : Int32} {h : HP} {out : Int32 × HP} (hf : f_X9_strike a0 x1 x2 h = some out) : MT l G b False False yX9_strike cX9_strike 3 (some .int) RM_X9_strike [.ref (b + a0), .int x1, .int x2] h (some (.int out.1)) out.2 0 0 := by
  refine met_of (by decide) (Nat.le_of_ble_eq_true rfl) ?_
  intro p e s m below meth c ls X hnm S hl
  have hl : lv_has ls 3 [(0, .ref (b + a0)), (1, .int x1), (2, .int x2)] := hl
  replace hf := (ck_spec hf).2
  exact w_X9_strike_e X (z_i X) _ _ _ _ hf _ _ _ S hl
/-! RoomRingsModel.setLot(II)V -/
abbrev RM_X9_setLot : Room := { frames := 1, cells := 0, slots := 0, locals := 22 }
def f_X9_setLot_b37 (K37 : Nat → Int32 → Int32 → Int32 → HP → Option (HP)) (a0 : Nat) (x1 : Int32) (x2 : Int32) (x3 : Int32) (h : HP) : Option (HP) :=
  if x3 ≤ x2 then
    (gR h a0 9 0).bind fun r1 =>
    (ast h r1 (60 + x3) x1).bind fun h2 =>
    some h2
  else
    (gR h a0 9 0).bind fun r3 =>
    (gR h a0 9 0).bind fun r4 =>
    (ald h r4 ((60 + x3) - 1)).bind fun v5 =>
    (ast h r3 (60 + x3) v5).bind fun h6 =>
    K37 a0 x1 x2 (x3 + (-1)) h6
set_option maxRecDepth 100000 in
set_option maxHeartbeats 4000000 in
theorem w_X9_setLot_b37 (X : CX RX9 cX9_setLot 4 none p s m args meth c G b) {out : HP} (Z : ZV p l e RM_X9_setLot s m args below meth c cX9_setLot G b False 0 0 Q out) {K37 : Nat → Int32 → Int32 → Int32 → HP → Option (HP)} (hK37 : ∀ (a0 : Nat) (x1 : Int32) (x2 : Int32) (x3 : Int32) (h : HP), K37 a0 x1 x2 x3 h = some out → ∀ (H : Heap) (locs : List Loc) (ls : Array Slot), ST G b False s h H locs → lv_has ls 4 [(0, .ref (b + a0)), (1, .int x1), (2, .int x2), (3, .int x3)] → W p l e RM_X9_setLot s m args below meth c H locs 0 0 Q (F0 m 37 ls [])) : ∀ (a0 : Nat) (x1 : Int32) (x2 : Int32) (x3 : Int32) (h : HP), f_X9_setLot_b37 K37 a0 x1 x2 x3 h = some out → ∀ (H : Heap) (locs : List Loc) (ls : Array Slot), ST G b False s h H locs → lv_has ls 4 [(0, .ref (b + a0)), (1, .int x1), (2, .int x2), (3, .int x3)] → W p l e RM_X9_setLot s m args below meth c H locs 0 0 Q (F0 m 37 ls []) := by
  intro a0 x1 x2 x3 h hf H locs ls S hl
  unfold f_X9_setLot_b37 at hf
  have hx := X.1
  have hb := X.2.1
  refine lv_iload_n hx hb dX9_setLot_37 rfl (lv_at hl 3 rfl) ?_
  refine lv_iload_n hx hb dX9_setLot_38 rfl (lv_at hl 2 rfl) ?_
  refine lv_icmp_le (tgt := 68) hx hb dX9_setLot_39 (by decide) (fun hc => ?_) (fun hc => ?_)
  · replace hf := ip hf hc
    refine lv_aload_n hx hb dX9_setLot_68 rfl (lv_at hl 0 rfl) ?_
    obtain ⟨r1, e_r1, hf⟩ := ob hf
    refine r_getR X S fl_X9_7 e_r1 dX9_setLot_69 ?_
    refine lv_bipush (v := 60) hx hb dX9_setLot_72 (by decide) ?_
    refine lv_iload_n hx hb dX9_setLot_74 rfl (lv_at hl 3 rfl) ?_
    refine lv_iadd hx hb dX9_setLot_75 ?_
    refine lv_iload_n hx hb dX9_setLot_76 rfl (lv_at hl 1 rfl) ?_
    obtain ⟨h2, e_h2, hf⟩ := ob hf
    refine r_ast X S e_h2 dX9_setLot_77 (fun H locs S => ?_)
    obtain rfl := Option.some.inj hf
    exact Z _ _ _ _ dX9_setLot_78 S
  · replace hf := im hf hc
    refine lv_aload_n hx hb dX9_setLot_42 rfl (lv_at hl 0 rfl) ?_
    obtain ⟨r3, e_r3, hf⟩ := ob hf
    refine r_getR X S fl_X9_7 e_r3 dX9_setLot_43 ?_
    refine lv_bipush (v := 60) hx hb dX9_setLot_46 (by decide) ?_
    refine lv_iload_n hx hb dX9_setLot_48 rfl (lv_at hl 3 rfl) ?_
    refine lv_iadd hx hb dX9_setLot_49 ?_
    refine lv_aload_n hx hb dX9_setLot_50 rfl (lv_at hl 0 rfl) ?_
    obtain ⟨r4, e_r4, hf⟩ := ob hf
    refine r_getR X S fl_X9_7 e_r4 dX9_setLot_51 ?_
    refine lv_bipush (v := 60) hx hb dX9_setLot_54 (by decide) ?_
    refine lv_iload_n hx hb dX9_setLot_56 rfl (lv_at hl 3 rfl) ?_
    refine lv_iadd hx hb dX9_setLot_57 ?_
    refine lv_iconst (v := 1) hx hb dX9_setLot_58 (by decide) ?_
    refine lv_isub hx hb dX9_setLot_59 ?_
    obtain ⟨v5, e_v5, hf⟩ := ob hf
    refine r_ald X S e_v5 dX9_setLot_60 ?_
    obtain ⟨h6, e_h6, hf⟩ := ob hf
    refine r_ast X S e_h6 dX9_setLot_61 (fun H locs S => ?_)
    refine lv_iinc (v := x3 + (-1)) (lv' := [(3, .int (x3 + (-1))), (0, .ref (b + a0)), (1, .int x1), (2, .int x2)]) hx hb dX9_setLot_62 hl (k := 3) rfl rfl (by decide) rfl (fun ls hl => ?_)
    refine lv_goto (tgt := 37) hx hb dX9_setLot_65 (by decide) ?_
    exact hK37 _ _ _ _ _ hf _ _ _ S (lv_sub hl [1, 2, 3, 0] rfl)
def F_X9_setLot_37  : Nat → Nat → Int32 → Int32 → Int32 → HP → Option (HP)
  | 0 => fun _ _ _ _ _ => none
  | n + 1 => fun a0 x1 x2 x3 h => f_X9_setLot_b37 (F_X9_setLot_37  n) a0 x1 x2 x3 h
theorem wl_X9_setLot_37 (X : CX RX9 cX9_setLot 4 none p s m args meth c G b) {out : HP} (Z : ZV p l e RM_X9_setLot s m args below meth c cX9_setLot G b False 0 0 Q out)  : ∀ (n : Nat) (a0 : Nat) (x1 : Int32) (x2 : Int32) (x3 : Int32) (h : HP), F_X9_setLot_37  n a0 x1 x2 x3 h = some out → ∀ (H : Heap) (locs : List Loc) (ls : Array Slot), ST G b False s h H locs → lv_has ls 4 [(0, .ref (b + a0)), (1, .int x1), (2, .int x2), (3, .int x3)] → W p l e RM_X9_setLot s m args below meth c H locs 0 0 Q (F0 m 37 ls []) := by
  intro n
  induction n with
  | zero => intro a0 x1 x2 x3 h hf; exact nn hf
  | succ n ih => exact w_X9_setLot_b37 X Z ih
def f_X9_setLot_b6 (K6 : Nat → Int32 → Int32 → Int32 → HP → Option (HP)) (a0 : Nat) (x1 : Int32) (x2 : Int32) (x3 : Int32) (h : HP) : Option (HP) :=
  if x2 ≤ x3 then
    F_X9_setLot_37  FU a0 x1 x2 x3 h
  else
    (gR h a0 9 0).bind fun r1 =>
    (gR h a0 9 0).bind fun r2 =>
    (ald h r2 ((60 + x3) + 1)).bind fun v3 =>
    (ast h r1 (60 + x3) v3).bind fun h4 =>
    K6 a0 x1 x2 (x3 + 1) h4
set_option maxRecDepth 100000 in
set_option maxHeartbeats 4000000 in
theorem w_X9_setLot_b6 (X : CX RX9 cX9_setLot 4 none p s m args meth c G b) {out : HP} (Z : ZV p l e RM_X9_setLot s m args below meth c cX9_setLot G b False 0 0 Q out) {K6 : Nat → Int32 → Int32 → Int32 → HP → Option (HP)} (hK6 : ∀ (a0 : Nat) (x1 : Int32) (x2 : Int32) (x3 : Int32) (h : HP), K6 a0 x1 x2 x3 h = some out → ∀ (H : Heap) (locs : List Loc) (ls : Array Slot), ST G b False s h H locs → lv_has ls 4 [(0, .ref (b + a0)), (1, .int x1), (2, .int x2), (3, .int x3)] → W p l e RM_X9_setLot s m args below meth c H locs 0 0 Q (F0 m 6 ls [])) : ∀ (a0 : Nat) (x1 : Int32) (x2 : Int32) (x3 : Int32) (h : HP), f_X9_setLot_b6 K6 a0 x1 x2 x3 h = some out → ∀ (H : Heap) (locs : List Loc) (ls : Array Slot), ST G b False s h H locs → lv_has ls 4 [(0, .ref (b + a0)), (1, .int x1), (2, .int x2), (3, .int x3)] → W p l e RM_X9_setLot s m args below meth c H locs 0 0 Q (F0 m 6 ls []) := by
  intro a0 x1 x2 x3 h hf H locs ls S hl
  unfold f_X9_setLot_b6 at hf
  have hx := X.1
  have hb := X.2.1
  refine lv_iload_n hx hb dX9_setLot_6 rfl (lv_at hl 3 rfl) ?_
  refine lv_iload_n hx hb dX9_setLot_7 rfl (lv_at hl 2 rfl) ?_
  refine lv_icmp_ge (tgt := 37) hx hb dX9_setLot_8 (by decide) (fun hc => ?_) (fun hc => ?_)
  · replace hf := ip hf hc
    exact wl_X9_setLot_37 X Z  FU _ _ _ _ _ hf _ _ _ S (lv_sub hl [0, 1, 2, 3] rfl)
  · replace hf := im hf hc
    refine lv_aload_n hx hb dX9_setLot_11 rfl (lv_at hl 0 rfl) ?_
    obtain ⟨r1, e_r1, hf⟩ := ob hf
    refine r_getR X S fl_X9_7 e_r1 dX9_setLot_12 ?_
    refine lv_bipush (v := 60) hx hb dX9_setLot_15 (by decide) ?_
    refine lv_iload_n hx hb dX9_setLot_17 rfl (lv_at hl 3 rfl) ?_
    refine lv_iadd hx hb dX9_setLot_18 ?_
    refine lv_aload_n hx hb dX9_setLot_19 rfl (lv_at hl 0 rfl) ?_
    obtain ⟨r2, e_r2, hf⟩ := ob hf
    refine r_getR X S fl_X9_7 e_r2 dX9_setLot_20 ?_
    refine lv_bipush (v := 60) hx hb dX9_setLot_23 (by decide) ?_
    refine lv_iload_n hx hb dX9_setLot_25 rfl (lv_at hl 3 rfl) ?_
    refine lv_iadd hx hb dX9_setLot_26 ?_
    refine lv_iconst (v := 1) hx hb dX9_setLot_27 (by decide) ?_
    refine lv_iadd hx hb dX9_setLot_28 ?_
    obtain ⟨v3, e_v3, hf⟩ := ob hf
    refine r_ald X S e_v3 dX9_setLot_29 ?_
    obtain ⟨h4, e_h4, hf⟩ := ob hf
    refine r_ast X S e_h4 dX9_setLot_30 (fun H locs S => ?_)
    refine lv_iinc (v := x3 + 1) (lv' := [(3, .int (x3 + 1)), (0, .ref (b + a0)), (1, .int x1), (2, .int x2)]) hx hb dX9_setLot_31 hl (k := 3) rfl rfl (by decide) rfl (fun ls hl => ?_)
    refine lv_goto (tgt := 6) hx hb dX9_setLot_34 (by decide) ?_
    exact hK6 _ _ _ _ _ hf _ _ _ S (lv_sub hl [1, 2, 3, 0] rfl)
def F_X9_setLot_6  : Nat → Nat → Int32 → Int32 → Int32 → HP → Option (HP)
  | 0 => fun _ _ _ _ _ => none
  | n + 1 => fun a0 x1 x2 x3 h => f_X9_setLot_b6 (F_X9_setLot_6  n) a0 x1 x2 x3 h
theorem wl_X9_setLot_6 (X : CX RX9 cX9_setLot 4 none p s m args meth c G b) {out : HP} (Z : ZV p l e RM_X9_setLot s m args below meth c cX9_setLot G b False 0 0 Q out)  : ∀ (n : Nat) (a0 : Nat) (x1 : Int32) (x2 : Int32) (x3 : Int32) (h : HP), F_X9_setLot_6  n a0 x1 x2 x3 h = some out → ∀ (H : Heap) (locs : List Loc) (ls : Array Slot), ST G b False s h H locs → lv_has ls 4 [(0, .ref (b + a0)), (1, .int x1), (2, .int x2), (3, .int x3)] → W p l e RM_X9_setLot s m args below meth c H locs 0 0 Q (F0 m 6 ls []) := by
  intro n
  induction n with
  | zero => intro a0 x1 x2 x3 h hf; exact nn hf
  | succ n ih => exact w_X9_setLot_b6 X Z ih
def f_X9_setLot_e  (a0 : Nat) (x1 : Int32) (x2 : Int32) (h : HP) : Option (HP) :=
  (f_X9_placeInLots a0 x1 h).bind fun q1 =>
  F_X9_setLot_6  FU a0 x1 x2 q1.1 q1.2
set_option maxRecDepth 100000 in
set_option maxHeartbeats 4000000 in
theorem w_X9_setLot_e (X : CX RX9 cX9_setLot 4 none p s m args meth c G b) {out : HP} (Z : ZV p l e RM_X9_setLot s m args below meth c cX9_setLot G b False 0 0 Q out)  : ∀ (a0 : Nat) (x1 : Int32) (x2 : Int32) (h : HP), f_X9_setLot_e  a0 x1 x2 h = some out → ∀ (H : Heap) (locs : List Loc) (ls : Array Slot), ST G b False s h H locs → lv_has ls 4 [(0, .ref (b + a0)), (1, .int x1), (2, .int x2)] → W p l e RM_X9_setLot s m args below meth c H locs 0 0 Q (F0 m 0 ls []) := by
  intro a0 x1 x2 h hf H locs ls S hl
  unfold f_X9_setLot_e at hf
  have hx := X.1
  have hb := X.2.1
  refine lv_aload_n hx hb dX9_setLot_0 rfl (lv_at hl 0 rfl) ?_
  refine lv_iload_n hx hb dX9_setLot_1 rfl (lv_at hl 1 rfl) ?_
  obtain ⟨q1, e_q1, hf⟩ := ob hf
  refine r_callV X S hl.1 (As := [.int x1]) (rest := []) (c_X9_placeInLots e_q1) my_X9_placeInLots mv_X9_placeInLots ml_X9_207 rfl (o_X9_placeInLots e_q1) ⟨rfl, rfl, Nat.le_of_ble_eq_true rfl, Nat.le_of_ble_eq_true rfl⟩ rfl rfl (Nat.le_of_ble_eq_true rfl) dX9_setLot_2 ⟨Nat.le_of_ble_eq_true rfl, Nat.le_of_ble_eq_true rfl⟩ (fun H locs S => ?_)
  refine W.eq (g2 := F0 m 5 ls [.int q1.1]) rfl ?_
  refine lv_istore_n (lv' := [(3, .int q1.1), (0, .ref (b + a0)), (1, .int x1), (2, .int x2)]) hx hb dX9_setLot_5 rfl hl (by decide) rfl (fun ls hl => ?_)
  exact wl_X9_setLot_6 X Z  FU _ _ _ _ _ hf _ _ _ S (lv_sub hl [1, 2, 3, 0] rfl)
def f_X9_setLot (a0 : Nat) (x1 : Int32) (x2 : Int32) (h : HP) : Option (HP) := ck h a0 9 (f_X9_setLot_e a0 x1 x2 h)
theorem o_X9_setLot {a0 : Nat} {x1 : Int32} {x2 : Int32} {h : HP} {out : HP} (hf : f_X9_setLot a0 x1 x2 h = some out) : ∃ fs, h[a0]? = some (.inl (9, fs)) := (ck_spec hf).1
set_option maxRecDepth 100000 in
theorem c_X9_setLot {l : Launch} {G : GT} {b : Nat} {a0 : Nat} {x1 : Int32} {x2 : Int32} {h : HP} {out : HP} (hf : f_X9_setLot a0 x1 x2 h = some out) : MT l G b False False yX9_setLot cX9_setLot 4 none RM_X9_setLot [.ref (b + a0), .int x1, .int x2] h none out 0 0 := by
  refine met_of (by decide) (Nat.le_of_ble_eq_true rfl) ?_
  intro p e s m below meth c ls X hnm S hl
  have hl : lv_has ls 4 [(0, .ref (b + a0)), (1, .int x1), (2, .int x2)] := hl
  replace hf := (ck_spec hf).2
  exact w_X9_setLot_e X (z_v X) _ _ _ _ hf _ _ _ S hl
/-! RoomRingsModel.lot(II)I -/
abbrev RM_X9_lot : Room := { frames := 2, cells := 0, slots := 0, locals := 45 }
def f_X9_lot_e  (a0 : Nat) (x1 : Int32) (x2 : Int32) (h : HP) : Option (Int32 × HP) :=
  (f_X9_isPerson a0 x1 h).bind fun q1 =>
  if q1.1 = 0 then
    some ((-1000000001), q1.2)
  else
    (gI q1.2 a0 9 2).bind fun v2 =>
    (f_X9_in x2 0 (v2 - 1) q1.2).bind fun q3 =>
    if q3.1 = 0 then
      some ((-1000000002), q3.2)
    else
      (f_X9_remember a0 q3.2).bind fun h4 =>
      (f_X9_placeInLots a0 x1 h4).bind fun q5 =>
      (f_X9_setLot a0 x1 x2 q5.2).bind fun h6 =>
      some (q5.1, h6)
set_option maxRecDepth 100000 in
set_option maxHeartbeats 4000000 in
theorem w_X9_lot_e (X : CX RX9 cX9_lot 4 (some .int) p s m args meth c G b) {out : Int32 × HP} (Z : ZI p l e RM_X9_lot s m args below meth c cX9_lot G b False 0 0 Q out)  : ∀ (a0 : Nat) (x1 : Int32) (x2 : Int32) (h : HP), f_X9_lot_e  a0 x1 x2 h = some out → ∀ (H : Heap) (locs : List Loc) (ls : Array Slot), ST G b False s h H locs → lv_has ls 4 [(0, .ref (b + a0)), (1, .int x1), (2, .int x2)] → W p l e RM_X9_lot s m args below meth c H locs 0 0 Q (F0 m 0 ls []) := by
  intro a0 x1 x2 h hf H locs ls S hl
  unfold f_X9_lot_e at hf
  have hx := X.1
  have hb := X.2.1
  refine lv_aload_n hx hb dX9_lot_0 rfl (lv_at hl 0 rfl) ?_
  refine lv_iload_n hx hb dX9_lot_1 rfl (lv_at hl 1 rfl) ?_
  obtain ⟨q1, e_q1, hf⟩ := ob hf
  refine r_callV X S hl.1 (As := [.int x1]) (rest := []) (c_X9_isPerson e_q1) my_X9_isPerson mv_X9_isPerson ml_X9_202 rfl (o_X9_isPerson e_q1) ⟨rfl, rfl, Nat.le_of_ble_eq_true rfl, Nat.le_of_ble_eq_true rfl⟩ rfl rfl (Nat.le_of_ble_eq_true rfl) dX9_lot_2 ⟨Nat.le_of_ble_eq_true rfl, Nat.le_of_ble_eq_true rfl⟩ (fun H locs S => ?_)
  refine W.eq (g2 := F0 m 5 ls [.int q1.1]) rfl ?_
  refine lv_if_ne (tgt := 11) hx hb dX9_lot_5 (by decide) (fun hc => ?_) (fun hc => ?_)
  · replace hf := im hf hc
    refine lv_iload_n hx hb dX9_lot_11 rfl (lv_at hl 2 rfl) ?_
    refine lv_iconst (v := 0) hx hb dX9_lot_12 (by decide) ?_
    refine lv_aload_n hx hb dX9_lot_13 rfl (lv_at hl 0 rfl) ?_
    obtain ⟨v2, e_v2, hf⟩ := ob hf
    refine r_getI X S fl_X9_51 e_v2 dX9_lot_14 ?_
    refine lv_iconst (v := 1) hx hb dX9_lot_17 (by decide) ?_
    refine lv_isub hx hb dX9_lot_18 ?_
    obtain ⟨q3, e_q3, hf⟩ := ob hf
    refine r_callS X S hl.1 (As := [.int x2, .int 0, .int (v2 - 1)]) (rest := []) (c_X9_in e_q3) my_X9_in ms_X9_in ml_X9_54 ⟨rfl, rfl, Nat.le_of_ble_eq_true rfl, Nat.le_of_ble_eq_true rfl⟩ rfl rfl (Nat.le_of_ble_eq_true rfl) dX9_lot_19 ⟨Nat.le_of_ble_eq_true rfl, Nat.le_of_ble_eq_true rfl⟩ (fun H locs S => ?_)
    refine W.eq (g2 := F0 m 22 ls [.int q3.1]) rfl ?_
    refine lv_if_ne (tgt := 28) hx hb dX9_lot_22 (by decide) (fun hc => ?_) (fun hc => ?_)
    · replace hf := im hf hc
      refine lv_aload_n hx hb dX9_lot_28 rfl (lv_at hl 0 rfl) ?_
      obtain ⟨h4, e_h4, hf⟩ := ob hf
      refine r_callV X S hl.1 (As := []) (rest := []) (c_X9_remember e_h4) my_X9_remember mv_X9_remember ml_X9_223 rfl (o_X9_remember e_h4) ⟨rfl, rfl, Nat.le_of_ble_eq_true rfl, Nat.le_of_ble_eq_true rfl⟩ rfl rfl (Nat.le_of_ble_eq_true rfl) dX9_lot_29 ⟨Nat.le_of_ble_eq_true rfl, Nat.le_of_ble_eq_true rfl⟩ (fun H locs S => ?_)
      refine W.eq (g2 := F0 m 32 ls []) rfl ?_
      refine lv_aload_n hx hb dX9_lot_32 rfl (lv_at hl 0 rfl) ?_
      refine lv_iload_n hx hb dX9_lot_33 rfl (lv_at hl 1 rfl) ?_
      obtain ⟨q5, e_q5, hf⟩ := ob hf
      refine r_callV X S hl.1 (As := [.int x1]) (rest := []) (c_X9_placeInLots e_q5) my_X9_placeInLots mv_X9_placeInLots ml_X9_207 rfl (o_X9_placeInLots e_q5) ⟨rfl, rfl, Nat.le_of_ble_eq_true rfl, Nat.le_of_ble_eq_true rfl⟩ rfl rfl (Nat.le_of_ble_eq_true rfl) dX9_lot_34 ⟨Nat.le_of_ble_eq_true rfl, Nat.le_of_ble_eq_true rfl⟩ (fun H locs S => ?_)
      refine W.eq (g2 := F0 m 37 ls [.int q5.1]) rfl ?_
      refine lv_istore_n (lv' := [(3, .int q5.1), (0, .ref (b + a0)), (1, .int x1), (2, .int x2)]) hx hb dX9_lot_37 rfl hl (by decide) rfl (fun ls hl => ?_)
      refine lv_aload_n hx hb dX9_lot_38 rfl (lv_at hl 1 rfl) ?_
      refine lv_iload_n hx hb dX9_lot_39 rfl (lv_at hl 2 rfl) ?_
      refine lv_iload_n hx hb dX9_lot_40 rfl (lv_at hl 3 rfl) ?_
      obtain ⟨h6, e_h6, hf⟩ := ob hf
      refine r_callV X S hl.1 (As := [.int x1, .int x2]) (rest := []) (c_X9_setLot e_h6) my_X9_setLot mv_X9_setLot ml_X9_231 rfl (o_X9_setLot e_h6) ⟨rfl, rfl, Nat.le_of_ble_eq_true rfl, Nat.le_of_ble_eq_true rfl⟩ rfl rfl (Nat.le_of_ble_eq_true rfl) dX9_lot_41 ⟨Nat.le_of_ble_eq_true rfl, Nat.le_of_ble_eq_true rfl⟩ (fun H locs S => ?_)
      refine W.eq (g2 := F0 m 44 ls []) rfl ?_
      refine lv_iload_n hx hb dX9_lot_44 rfl (lv_at hl 0 rfl) ?_
      obtain rfl := Option.some.inj hf
      exact Z _ _ _ _ dX9_lot_45 S
    · replace hf := ip hf hc
      refine lv_ldc (v := (-1000000002)) hx hb X.2.2.2.1 (X.2.2.2.2.1 _ cn_X9_61) dX9_lot_25 ?_
      obtain rfl := Option.some.inj hf
      exact Z _ _ _ _ dX9_lot_27 S
  · replace hf := ip hf hc
    refine lv_ldc (v := (-1000000001)) hx hb X.2.2.2.1 (X.2.2.2.2.1 _ cn_X9_206) dX9_lot_8 ?_
    obtain rfl := Option.some.inj hf
    exact Z _ _ _ _ dX9_lot_10 S
def f_X9_lot (a0 : Nat) (x1 : Int32) (x2 : Int32) (h : HP) : Option (Int32 × HP) := ck h a0 9 (f_X9_lot_e a0 x1 x2 h)
theorem o_X9_lot {a0 : Nat} {x1 : Int32} {x2 : Int32} {h : HP} {out : Int32 × HP} (hf : f_X9_lot a0 x1 x2 h = some out) : ∃ fs, h[a0]? = some (.inl (9, fs)) := (ck_spec hf).1
set_option maxRecDepth 100000 in
theorem c_X9_lot {l : Launch} {G : GT} {b : Nat} {a0 : Nat} {x1 : Int32} {x2 : Int32} {h : HP} {out : Int32 × HP} (hf : f_X9_lot a0 x1 x2 h = some out) : MT l G b False False yX9_lot cX9_lot 4 (some .int) RM_X9_lot [.ref (b + a0), .int x1, .int x2] h (some (.int out.1)) out.2 0 0 := by
  refine met_of (by decide) (Nat.le_of_ble_eq_true rfl) ?_
  intro p e s m below meth c ls X hnm S hl
  have hl : lv_has ls 4 [(0, .ref (b + a0)), (1, .int x1), (2, .int x2)] := hl
  replace hf := (ck_spec hf).2
  exact w_X9_lot_e X (z_i X) _ _ _ _ hf _ _ _ S hl
/-! RoomRingsModel.refuse(I)I -/
abbrev RM_X9_refuse : Room := { frames := 7, cells := 0, slots := 0, locals := 159 }
def f_X9_refuse_b44   (h : HP) : Option (Int32 × HP) :=
  some ((-1000000003), h)
set_option maxRecDepth 100000 in
set_option maxHeartbeats 4000000 in
theorem w_X9_refuse_b44 (X : CX RX9 cX9_refuse 2 (some .int) p s m args meth c G b) {out : Int32 × HP} (Z : ZI p l e RM_X9_refuse s m args below meth c cX9_refuse G b False 0 0 Q out)  : ∀  (h : HP), f_X9_refuse_b44   h = some out → ∀ (H : Heap) (locs : List Loc) (ls : Array Slot), ST G b False s h H locs → lv_has ls 2 [] → W p l e RM_X9_refuse s m args below meth c H locs 0 0 Q (F0 m 44 ls []) := by
  intro  h hf H locs ls S hl
  unfold f_X9_refuse_b44 at hf
  have hx := X.1
  have hb := X.2.1
  refine lv_ldc (v := (-1000000003)) hx hb X.2.2.2.1 (X.2.2.2.2.1 _ cn_X9_230) dX9_refuse_44 ?_
  obtain rfl := Option.some.inj hf
  exact Z _ _ _ _ dX9_refuse_46 S
def f_X9_refuse_e  (a0 : Nat) (x1 : Int32) (h : HP) : Option (Int32 × HP) :=
  (f_X9_isPerson a0 x1 h).bind fun q1 =>
  if q1.1 = 0 then
    some ((-1000000001), q1.2)
  else
    (f_X9_giveOut a0 0 q1.2).bind fun h2 =>
    (gR h2 a0 9 8).bind fun r3 =>
    (ald h2 r3 x1).bind fun v4 =>
    if v4 = (-1) then
      f_X9_refuse_b44   h2
    else
      (gR h2 a0 9 8).bind fun r5 =>
      (ald h2 r5 x1).bind fun v6 =>
      (gR h2 a0 9 0).bind fun r7 =>
      (ald h2 r7 (54 + x1)).bind fun v8 =>
      if v6 = v8 then
        f_X9_refuse_b44   h2
      else
        (f_X9_remember a0 h2).bind fun h9 =>
        (gR h9 a0 9 8).bind fun r10 =>
        (ald h9 r10 x1).bind fun v11 =>
        (f_X9_strikeOut a0 0 x1 v11 h9).bind fun h12 =>
        (f_X9_giveOut a0 0 h12).bind fun h13 =>
        (gR h13 a0 9 8).bind fun r14 =>
        (ald h13 r14 x1).bind fun v15 =>
        some (v15, h13)
set_option maxRecDepth 100000 in
set_option maxHeartbeats 4000000 in
theorem w_X9_refuse_e (X : CX RX9 cX9_refuse 2 (some .int) p s m args meth c G b) {out : Int32 × HP} (Z : ZI p l e RM_X9_refuse s m args below meth c cX9_refuse G b False 0 0 Q out)  : ∀ (a0 : Nat) (x1 : Int32) (h : HP), f_X9_refuse_e  a0 x1 h = some out → ∀ (H : Heap) (locs : List Loc) (ls : Array Slot), ST G b False s h H locs → lv_has ls 2 [(0, .ref (b + a0)), (1, .int x1)] → W p l e RM_X9_refuse s m args below meth c H locs 0 0 Q (F0 m 0 ls []) := by
  intro a0 x1 h hf H locs ls S hl
  unfold f_X9_refuse_e at hf
  have hx := X.1
  have hb := X.2.1
  refine lv_aload_n hx hb dX9_refuse_0 rfl (lv_at hl 0 rfl) ?_
  refine lv_iload_n hx hb dX9_refuse_1 rfl (lv_at hl 1 rfl) ?_
  obtain ⟨q1, e_q1, hf⟩ := ob hf
  refine r_callV X S hl.1 (As := [.int x1]) (rest := []) (c_X9_isPerson e_q1) my_X9_isPerson mv_X9_isPerson ml_X9_202 rfl (o_X9_isPerson e_q1) ⟨rfl, rfl, Nat.le_of_ble_eq_true rfl, Nat.le_of_ble_eq_true rfl⟩ rfl rfl (Nat.le_of_ble_eq_true rfl) dX9_refuse_2 ⟨Nat.le_of_ble_eq_true rfl, Nat.le_of_ble_eq_true rfl⟩ (fun H locs S => ?_)
  refine W.eq (g2 := F0 m 5 ls [.int q1.1]) rfl ?_
  refine lv_if_ne (tgt := 11) hx hb dX9_refuse_5 (by decide) (fun hc => ?_) (fun hc => ?_)
  · replace hf := im hf hc
    refine lv_aload_n hx hb dX9_refuse_11 rfl (lv_at hl 0 rfl) ?_
    refine lv_iconst (v := 0) hx hb dX9_refuse_12 (by decide) ?_
    obtain ⟨h2, e_h2, hf⟩ := ob hf
    refine r_callV X S hl.1 (As := [.int 0]) (rest := []) (c_X9_giveOut e_h2) my_X9_giveOut mv_X9_giveOut ml_X9_187 rfl (o_X9_giveOut e_h2) ⟨rfl, rfl, Nat.le_of_ble_eq_true rfl, Nat.le_of_ble_eq_true rfl⟩ rfl rfl (Nat.le_of_ble_eq_true rfl) dX9_refuse_13 ⟨Nat.le_of_ble_eq_true rfl, Nat.le_of_ble_eq_true rfl⟩ (fun H locs S => ?_)
    refine W.eq (g2 := F0 m 16 ls []) rfl ?_
    refine lv_aload_n hx hb dX9_refuse_16 rfl (lv_at hl 0 rfl) ?_
    obtain ⟨r3, e_r3, hf⟩ := ob hf
    refine r_getR X S fl_X9_20 e_r3 dX9_refuse_17 ?_
    refine lv_iload_n hx hb dX9_refuse_20 rfl (lv_at hl 1 rfl) ?_
    obtain ⟨v4, e_v4, hf⟩ := ob hf
    refine r_ald X S e_v4 dX9_refuse_21 ?_
    refine lv_iconst (v := (-1)) hx hb dX9_refuse_22 (by decide) ?_
    refine lv_icmp_eq (tgt := 44) hx hb dX9_refuse_23 (by decide) (fun hc => ?_) (fun hc => ?_)
    · replace hf := ip hf hc
      exact w_X9_refuse_b44 X Z  _ hf _ _ _ S (lv_sub hl [] rfl)
    · replace hf := im hf hc
      refine lv_aload_n hx hb dX9_refuse_26 rfl (lv_at hl 0 rfl) ?_
      obtain ⟨r5, e_r5, hf⟩ := ob hf
      refine r_getR X S fl_X9_20 e_r5 dX9_refuse_27 ?_
      refine lv_iload_n hx hb dX9_refuse_30 rfl (lv_at hl 1 rfl) ?_
      obtain ⟨v6, e_v6, hf⟩ := ob hf
      refine r_ald X S e_v6 dX9_refuse_31 ?_
      refine lv_aload_n hx hb dX9_refuse_32 rfl (lv_at hl 0 rfl) ?_
      obtain ⟨r7, e_r7, hf⟩ := ob hf
      refine r_getR X S fl_X9_7 e_r7 dX9_refuse_33 ?_
      refine lv_bipush (v := 54) hx hb dX9_refuse_36 (by decide) ?_
      refine lv_iload_n hx hb dX9_refuse_38 rfl (lv_at hl 1 rfl) ?_
      refine lv_iadd hx hb dX9_refuse_39 ?_
      obtain ⟨v8, e_v8, hf⟩ := ob hf
      refine r_ald X S e_v8 dX9_refuse_40 ?_
      refine lv_icmp_ne (tgt := 47) hx hb dX9_refuse_41 (by decide) (fun hc => ?_) (fun hc => ?_)
      · replace hf := im hf hc
        refine lv_aload_n hx hb dX9_refuse_47 rfl (lv_at hl 0 rfl) ?_
        obtain ⟨h9, e_h9, hf⟩ := ob hf
        refine r_callV X S hl.1 (As := []) (rest := []) (c_X9_remember e_h9) my_X9_remember mv_X9_remember ml_X9_223 rfl (o_X9_remember e_h9) ⟨rfl, rfl, Nat.le_of_ble_eq_true rfl, Nat.le_of_ble_eq_true rfl⟩ rfl rfl (Nat.le_of_ble_eq_true rfl) dX9_refuse_48 ⟨Nat.le_of_ble_eq_true rfl, Nat.le_of_ble_eq_true rfl⟩ (fun H locs S => ?_)
        refine W.eq (g2 := F0 m 51 ls []) rfl ?_
        refine lv_aload_n hx hb dX9_refuse_51 rfl (lv_at hl 0 rfl) ?_
        refine lv_iconst (v := 0) hx hb dX9_refuse_52 (by decide) ?_
        refine lv_iload_n hx hb dX9_refuse_53 rfl (lv_at hl 1 rfl) ?_
        refine lv_aload_n hx hb dX9_refuse_54 rfl (lv_at hl 0 rfl) ?_
        obtain ⟨r10, e_r10, hf⟩ := ob hf
        refine r_getR X S fl_X9_20 e_r10 dX9_refuse_55 ?_
        refine lv_iload_n hx hb dX9_refuse_58 rfl (lv_at hl 1 rfl) ?_
        obtain ⟨v11, e_v11, hf⟩ := ob hf
        refine r_ald X S e_v11 dX9_refuse_59 ?_
        obtain ⟨h12, e_h12, hf⟩ := ob hf
        refine r_callV X S hl.1 (As := [.int 0, .int x1, .int v11]) (rest := []) (c_X9_strikeOut e_h12) my_X9_strikeOut mv_X9_strikeOut ml_X9_219 rfl (o_X9_strikeOut e_h12) ⟨rfl, rfl, Nat.le_of_ble_eq_true rfl, Nat.le_of_ble_eq_true rfl⟩ rfl rfl (Nat.le_of_ble_eq_true rfl) dX9_refuse_60 ⟨Nat.le_of_ble_eq_true rfl, Nat.le_of_ble_eq_true rfl⟩ (fun H locs S => ?_)
        refine W.eq (g2 := F0 m 63 ls []) rfl ?_
        refine lv_aload_n hx hb dX9_refuse_63 rfl (lv_at hl 0 rfl) ?_
        refine lv_iconst (v := 0) hx hb dX9_refuse_64 (by decide) ?_
        obtain ⟨h13, e_h13, hf⟩ := ob hf
        refine r_callV X S hl.1 (As := [.int 0]) (rest := []) (c_X9_giveOut e_h13) my_X9_giveOut mv_X9_giveOut ml_X9_187 rfl (o_X9_giveOut e_h13) ⟨rfl, rfl, Nat.le_of_ble_eq_true rfl, Nat.le_of_ble_eq_true rfl⟩ rfl rfl (Nat.le_of_ble_eq_true rfl) dX9_refuse_65 ⟨Nat.le_of_ble_eq_true rfl, Nat.le_of_ble_eq_true rfl⟩ (fun H locs S => ?_)
        refine W.eq (g2 := F0 m 68 ls []) rfl ?_
        refine lv_aload_n hx hb dX9_refuse_68 rfl (lv_at hl 0 rfl) ?_
        obtain ⟨r14, e_r14, hf⟩ := ob hf
        refine r_getR X S fl_X9_20 e_r14 dX9_refuse_69 ?_
        refine lv_iload_n hx hb dX9_refuse_72 rfl (lv_at hl 1 rfl) ?_
        obtain ⟨v15, e_v15, hf⟩ := ob hf
        refine r_ald X S e_v15 dX9_refuse_73 ?_
        obtain rfl := Option.some.inj hf
        exact Z _ _ _ _ dX9_refuse_74 S
      · replace hf := ip hf hc
        exact w_X9_refuse_b44 X Z  _ hf _ _ _ S (lv_sub hl [] rfl)
  · replace hf := ip hf hc
    refine lv_ldc (v := (-1000000001)) hx hb X.2.2.2.1 (X.2.2.2.2.1 _ cn_X9_206) dX9_refuse_8 ?_
    obtain rfl := Option.some.inj hf
    exact Z _ _ _ _ dX9_refuse_10 S
def f_X9_refuse (a0 : Nat) (x1 : Int32) (h : HP) : Option (Int32 × HP) := ck h a0 9 (f_X9_refuse_e a0 x1 h)
theorem o_X9_refuse {a0 : Nat} {x1 : Int32} {h : HP} {out : Int32 × HP} (hf : f_X9_refuse a0 x1 h = some out) : ∃ fs, h[a0]? = some (.inl (9, fs)) := (ck_spec hf).1
set_option maxRecDepth 100000 in
theorem c_X9_refuse {l : Launch} {G : GT} {b : Nat} {a0 : Nat} {x1 : Int32} {h : HP} {out : Int32 × HP} (hf : f_X9_refuse a0 x1 h = some out) : MT l G b False False yX9_refuse cX9_refuse 2 (some .int) RM_X9_refuse [.ref (b + a0), .int x1] h (some (.int out.1)) out.2 0 0 := by
  refine met_of (by decide) (Nat.le_of_ble_eq_true rfl) ?_
  intro p e s m below meth c ls X hnm S hl
  have hl : lv_has ls 2 [(0, .ref (b + a0)), (1, .int x1)] := hl
  replace hf := (ck_spec hf).2
  exact w_X9_refuse_e X (z_i X) _ _ _ hf _ _ _ S hl
/-! RoomRingsModel.moveAll()I -/
abbrev RM_X9_moveAll : Room := { frames := 7, cells := 0, slots := 0, locals := 159 }
def f_X9_moveAll_b41 (K9 : Nat → Int32 → Int32 → HP → Option (Int32 × HP)) (a0 : Nat) (x2 : Int32) (s0 : Int32) (s1 : Int32) (h : HP) : Option (Int32 × HP) :=
  (gR h a0 9 0).bind fun r1 =>
  (gR h a0 9 8).bind fun r2 =>
  (ald h r2 x2).bind fun v3 =>
  (ast h r1 (54 + x2) v3).bind fun h4 =>
  K9 a0 (s0 + s1) (x2 + 1) h4
set_option maxRecDepth 100000 in
set_option maxHeartbeats 4000000 in
theorem w_X9_moveAll_b41 (X : CX RX9 cX9_moveAll 3 (some .int) p s m args meth c G b) {out : Int32 × HP} (Z : ZI p l e RM_X9_moveAll s m args below meth c cX9_moveAll G b False 0 0 Q out) {K9 : Nat → Int32 → Int32 → HP → Option (Int32 × HP)} (hK9 : ∀ (a0 : Nat) (x1 : Int32) (x2 : Int32) (h : HP), K9 a0 x1 x2 h = some out → ∀ (H : Heap) (locs : List Loc) (ls : Array Slot), ST G b False s h H locs → lv_has ls 3 [(0, .ref (b + a0)), (1, .int x1), (2, .int x2)] → W p l e RM_X9_moveAll s m args below meth c H locs 0 0 Q (F0 m 9 ls [])) : ∀ (a0 : Nat) (x2 : Int32) (s0 : Int32) (s1 : Int32) (h : HP), f_X9_moveAll_b41 K9 a0 x2 s0 s1 h = some out → ∀ (H : Heap) (locs : List Loc) (ls : Array Slot), ST G b False s h H locs → lv_has ls 3 [(0, .ref (b + a0)), (2, .int x2)] → W p l e RM_X9_moveAll s m args below meth c H locs 0 0 Q (F0 m 41 ls [.int s1, .int s0]) := by
  intro a0 x2 s0 s1 h hf H locs ls S hl
  unfold f_X9_moveAll_b41 at hf
  have hx := X.1
  have hb := X.2.1
  refine lv_iadd hx hb dX9_moveAll_41 ?_
  refine lv_istore_n (lv' := [(1, .int (s0 + s1)), (0, .ref (b + a0)), (2, .int x2)]) hx hb dX9_moveAll_42 rfl hl (by decide) rfl (fun ls hl => ?_)
  refine lv_aload_n hx hb dX9_moveAll_43 rfl (lv_at hl 1 rfl) ?_
  obtain ⟨r1, e_r1, hf⟩ := ob hf
  refine r_getR X S fl_X9_7 e_r1 dX9_moveAll_44 ?_
  refine lv_bipush (v := 54) hx hb dX9_moveAll_47 (by decide) ?_
  refine lv_iload_n hx hb dX9_moveAll_49 rfl (lv_at hl 2 rfl) ?_
  refine lv_iadd hx hb dX9_moveAll_50 ?_
  refine lv_aload_n hx hb dX9_moveAll_51 rfl (lv_at hl 1 rfl) ?_
  obtain ⟨r2, e_r2, hf⟩ := ob hf
  refine r_getR X S fl_X9_20 e_r2 dX9_moveAll_52 ?_
  refine lv_iload_n hx hb dX9_moveAll_55 rfl (lv_at hl 2 rfl) ?_
  obtain ⟨v3, e_v3, hf⟩ := ob hf
  refine r_ald X S e_v3 dX9_moveAll_56 ?_
  obtain ⟨h4, e_h4, hf⟩ := ob hf
  refine r_ast X S e_h4 dX9_moveAll_57 (fun H locs S => ?_)
  refine lv_iinc (v := x2 + 1) (lv' := [(2, .int (x2 + 1)), (1, .int (s0 + s1)), (0, .ref (b + a0))]) hx hb dX9_moveAll_58 hl (k := 2) rfl rfl (by decide) rfl (fun ls hl => ?_)
  refine lv_goto (tgt := 9) hx hb dX9_moveAll_61 (by decide) ?_
  exact hK9 _ _ _ _ hf _ _ _ S (lv_sub hl [2, 1, 0] rfl)
def f_X9_moveAll_b9 (K9 : Nat → Int32 → Int32 → HP → Option (Int32 × HP)) (a0 : Nat) (x1 : Int32) (x2 : Int32) (h : HP) : Option (Int32 × HP) :=
  (gI h a0 9 2).bind fun v1 =>
  if v1 ≤ x2 then
    some (x1, h)
  else
    (gR h a0 9 8).bind fun r2 =>
    (ald h r2 x2).bind fun v3 =>
    (gR h a0 9 0).bind fun r4 =>
    (ald h r4 (54 + x2)).bind fun v5 =>
    if v3 = v5 then
      f_X9_moveAll_b41 K9 a0 x2 x1 0 h
    else
      f_X9_moveAll_b41 K9 a0 x2 x1 1 h
set_option maxRecDepth 100000 in
set_option maxHeartbeats 4000000 in
theorem w_X9_moveAll_b9 (X : CX RX9 cX9_moveAll 3 (some .int) p s m args meth c G b) {out : Int32 × HP} (Z : ZI p l e RM_X9_moveAll s m args below meth c cX9_moveAll G b False 0 0 Q out) {K9 : Nat → Int32 → Int32 → HP → Option (Int32 × HP)} (hK9 : ∀ (a0 : Nat) (x1 : Int32) (x2 : Int32) (h : HP), K9 a0 x1 x2 h = some out → ∀ (H : Heap) (locs : List Loc) (ls : Array Slot), ST G b False s h H locs → lv_has ls 3 [(0, .ref (b + a0)), (1, .int x1), (2, .int x2)] → W p l e RM_X9_moveAll s m args below meth c H locs 0 0 Q (F0 m 9 ls [])) : ∀ (a0 : Nat) (x1 : Int32) (x2 : Int32) (h : HP), f_X9_moveAll_b9 K9 a0 x1 x2 h = some out → ∀ (H : Heap) (locs : List Loc) (ls : Array Slot), ST G b False s h H locs → lv_has ls 3 [(0, .ref (b + a0)), (1, .int x1), (2, .int x2)] → W p l e RM_X9_moveAll s m args below meth c H locs 0 0 Q (F0 m 9 ls []) := by
  intro a0 x1 x2 h hf H locs ls S hl
  unfold f_X9_moveAll_b9 at hf
  have hx := X.1
  have hb := X.2.1
  refine lv_iload_n hx hb dX9_moveAll_9 rfl (lv_at hl 2 rfl) ?_
  refine lv_aload_n hx hb dX9_moveAll_10 rfl (lv_at hl 0 rfl) ?_
  obtain ⟨v1, e_v1, hf⟩ := ob hf
  refine r_getI X S fl_X9_51 e_v1 dX9_moveAll_11 ?_
  refine lv_icmp_ge (tgt := 64) hx hb dX9_moveAll_14 (by decide) (fun hc => ?_) (fun hc => ?_)
  · replace hf := ip hf hc
    refine lv_iload_n hx hb dX9_moveAll_64 rfl (lv_at hl 1 rfl) ?_
    obtain rfl := Option.some.inj hf
    exact Z _ _ _ _ dX9_moveAll_65 S
  · replace hf := im hf hc
    refine lv_iload_n hx hb dX9_moveAll_17 rfl (lv_at hl 1 rfl) ?_
    refine lv_aload_n hx hb dX9_moveAll_18 rfl (lv_at hl 0 rfl) ?_
    obtain ⟨r2, e_r2, hf⟩ := ob hf
    refine r_getR X S fl_X9_20 e_r2 dX9_moveAll_19 ?_
    refine lv_iload_n hx hb dX9_moveAll_22 rfl (lv_at hl 2 rfl) ?_
    obtain ⟨v3, e_v3, hf⟩ := ob hf
    refine r_ald X S e_v3 dX9_moveAll_23 ?_
    refine lv_aload_n hx hb dX9_moveAll_24 rfl (lv_at hl 0 rfl) ?_
    obtain ⟨r4, e_r4, hf⟩ := ob hf
    refine r_getR X S fl_X9_7 e_r4 dX9_moveAll_25 ?_
    refine lv_bipush (v := 54) hx hb dX9_moveAll_28 (by decide) ?_
    refine lv_iload_n hx hb dX9_moveAll_30 rfl (lv_at hl 2 rfl) ?_
    refine lv_iadd hx hb dX9_moveAll_31 ?_
    obtain ⟨v5, e_v5, hf⟩ := ob hf
    refine r_ald X S e_v5 dX9_moveAll_32 ?_
    refine lv_icmp_ne (tgt := 40) hx hb dX9_moveAll_33 (by decide) (fun hc => ?_) (fun hc => ?_)
    · replace hf := im hf hc
      refine lv_iconst (v := 1) hx hb dX9_moveAll_40 (by decide) ?_
      exact w_X9_moveAll_b41 X Z hK9 _ _ _ _ _ hf _ _ _ S (lv_sub hl [0, 2] rfl)
    · replace hf := ip hf hc
      refine lv_iconst (v := 0) hx hb dX9_moveAll_36 (by decide) ?_
      refine lv_goto (tgt := 41) hx hb dX9_moveAll_37 (by decide) ?_
      exact w_X9_moveAll_b41 X Z hK9 _ _ _ _ _ hf _ _ _ S (lv_sub hl [0, 2] rfl)
def F_X9_moveAll_9  : Nat → Nat → Int32 → Int32 → HP → Option (Int32 × HP)
  | 0 => fun _ _ _ _ => none
  | n + 1 => fun a0 x1 x2 h => f_X9_moveAll_b9 (F_X9_moveAll_9  n) a0 x1 x2 h
theorem wl_X9_moveAll_9 (X : CX RX9 cX9_moveAll 3 (some .int) p s m args meth c G b) {out : Int32 × HP} (Z : ZI p l e RM_X9_moveAll s m args below meth c cX9_moveAll G b False 0 0 Q out)  : ∀ (n : Nat) (a0 : Nat) (x1 : Int32) (x2 : Int32) (h : HP), F_X9_moveAll_9  n a0 x1 x2 h = some out → ∀ (H : Heap) (locs : List Loc) (ls : Array Slot), ST G b False s h H locs → lv_has ls 3 [(0, .ref (b + a0)), (1, .int x1), (2, .int x2)] → W p l e RM_X9_moveAll s m args below meth c H locs 0 0 Q (F0 m 9 ls []) := by
  intro n
  induction n with
  | zero => intro a0 x1 x2 h hf; exact nn hf
  | succ n ih => exact w_X9_moveAll_b9 X Z ih
def f_X9_moveAll_e  (a0 : Nat) (h : HP) : Option (Int32 × HP) :=
  (f_X9_giveOut a0 0 h).bind fun h1 =>
  F_X9_moveAll_9  FU a0 0 0 h1
set_option maxRecDepth 100000 in
set_option maxHeartbeats 4000000 in
theorem w_X9_moveAll_e (X : CX RX9 cX9_moveAll 3 (some .int) p s m args meth c G b) {out : Int32 × HP} (Z : ZI p l e RM_X9_moveAll s m args below meth c cX9_moveAll G b False 0 0 Q out)  : ∀ (a0 : Nat) (h : HP), f_X9_moveAll_e  a0 h = some out → ∀ (H : Heap) (locs : List Loc) (ls : Array Slot), ST G b False s h H locs → lv_has ls 3 [(0, .ref (b + a0))] → W p l e RM_X9_moveAll s m args below meth c H locs 0 0 Q (F0 m 0 ls []) := by
  intro a0 h hf H locs ls S hl
  unfold f_X9_moveAll_e at hf
  have hx := X.1
  have hb := X.2.1
  refine lv_aload_n hx hb dX9_moveAll_0 rfl (lv_at hl 0 rfl) ?_
  refine lv_iconst (v := 0) hx hb dX9_moveAll_1 (by decide) ?_
  obtain ⟨h1, e_h1, hf⟩ := ob hf
  refine r_callV X S hl.1 (As := [.int 0]) (rest := []) (c_X9_giveOut e_h1) my_X9_giveOut mv_X9_giveOut ml_X9_187 rfl (o_X9_giveOut e_h1) ⟨rfl, rfl, Nat.le_of_ble_eq_true rfl, Nat.le_of_ble_eq_true rfl⟩ rfl rfl (Nat.le_of_ble_eq_true rfl) dX9_moveAll_2 ⟨Nat.le_of_ble_eq_true rfl, Nat.le_of_ble_eq_true rfl⟩ (fun H locs S => ?_)
  refine W.eq (g2 := F0 m 5 ls []) rfl ?_
  refine lv_iconst (v := 0) hx hb dX9_moveAll_5 (by decide) ?_
  refine lv_istore_n (lv' := [(1, .int 0), (0, .ref (b + a0))]) hx hb dX9_moveAll_6 rfl hl (by decide) rfl (fun ls hl => ?_)
  refine lv_iconst (v := 0) hx hb dX9_moveAll_7 (by decide) ?_
  refine lv_istore_n (lv' := [(2, .int 0), (1, .int 0), (0, .ref (b + a0))]) hx hb dX9_moveAll_8 rfl hl (by decide) rfl (fun ls hl => ?_)
  exact wl_X9_moveAll_9 X Z  FU _ _ _ _ hf _ _ _ S (lv_sub hl [2, 1, 0] rfl)
def f_X9_moveAll (a0 : Nat) (h : HP) : Option (Int32 × HP) := ck h a0 9 (f_X9_moveAll_e a0 h)
theorem o_X9_moveAll {a0 : Nat} {h : HP} {out : Int32 × HP} (hf : f_X9_moveAll a0 h = some out) : ∃ fs, h[a0]? = some (.inl (9, fs)) := (ck_spec hf).1
set_option maxRecDepth 100000 in
theorem c_X9_moveAll {l : Launch} {G : GT} {b : Nat} {a0 : Nat} {h : HP} {out : Int32 × HP} (hf : f_X9_moveAll a0 h = some out) : MT l G b False False yX9_moveAll cX9_moveAll 3 (some .int) RM_X9_moveAll [.ref (b + a0)] h (some (.int out.1)) out.2 0 0 := by
  refine met_of (by decide) (Nat.le_of_ble_eq_true rfl) ?_
  intro p e s m below meth c ls X hnm S hl
  have hl : lv_has ls 3 [(0, .ref (b + a0))] := hl
  replace hf := (ck_spec hf).2
  exact w_X9_moveAll_e X (z_i X) _ _ hf _ _ _ S hl
/-! RoomRingsModel.moved()I -/
abbrev RM_X9_moved : Room := { frames := 8, cells := 0, slots := 0, locals := 181 }
def f_X9_moved_e  (a0 : Nat) (h : HP) : Option (Int32 × HP) :=
  (gI h a0 9 2).bind fun v1 =>
  if v1 = 0 then
    some ((-1000000003), h)
  else
    (f_X9_remember a0 h).bind fun h2 =>
    (f_X9_moveAll a0 h2).bind fun q3 =>
    some (q3.1, q3.2)
set_option maxRecDepth 100000 in
set_option maxHeartbeats 4000000 in
theorem w_X9_moved_e (X : CX RX9 cX9_moved 1 (some .int) p s m args meth c G b) {out : Int32 × HP} (Z : ZI p l e RM_X9_moved s m args below meth c cX9_moved G b False 0 0 Q out)  : ∀ (a0 : Nat) (h : HP), f_X9_moved_e  a0 h = some out → ∀ (H : Heap) (locs : List Loc) (ls : Array Slot), ST G b False s h H locs → lv_has ls 1 [(0, .ref (b + a0))] → W p l e RM_X9_moved s m args below meth c H locs 0 0 Q (F0 m 0 ls []) := by
  intro a0 h hf H locs ls S hl
  unfold f_X9_moved_e at hf
  have hx := X.1
  have hb := X.2.1
  refine lv_aload_n hx hb dX9_moved_0 rfl (lv_at hl 0 rfl) ?_
  obtain ⟨v1, e_v1, hf⟩ := ob hf
  refine r_getI X S fl_X9_51 e_v1 dX9_moved_1 ?_
  refine lv_if_ne (tgt := 10) hx hb dX9_moved_4 (by decide) (fun hc => ?_) (fun hc => ?_)
  · replace hf := im hf hc
    refine lv_aload_n hx hb dX9_moved_10 rfl (lv_at hl 0 rfl) ?_
    obtain ⟨h2, e_h2, hf⟩ := ob hf
    refine r_callV X S hl.1 (As := []) (rest := []) (c_X9_remember e_h2) my_X9_remember mv_X9_remember ml_X9_223 rfl (o_X9_remember e_h2) ⟨rfl, rfl, Nat.le_of_ble_eq_true rfl, Nat.le_of_ble_eq_true rfl⟩ rfl rfl (Nat.le_of_ble_eq_true rfl) dX9_moved_11 ⟨Nat.le_of_ble_eq_true rfl, Nat.le_of_ble_eq_true rfl⟩ (fun H locs S => ?_)
    refine W.eq (g2 := F0 m 14 ls []) rfl ?_
    refine lv_aload_n hx hb dX9_moved_14 rfl (lv_at hl 0 rfl) ?_
    obtain ⟨q3, e_q3, hf⟩ := ob hf
    refine r_callV X S hl.1 (As := []) (rest := []) (c_X9_moveAll e_q3) my_X9_moveAll mv_X9_moveAll ml_X9_234 rfl (o_X9_moveAll e_q3) ⟨rfl, rfl, Nat.le_of_ble_eq_true rfl, Nat.le_of_ble_eq_true rfl⟩ rfl rfl (Nat.le_of_ble_eq_true rfl) dX9_moved_15 ⟨Nat.le_of_ble_eq_true rfl, Nat.le_of_ble_eq_true rfl⟩ (fun H locs S => ?_)
    refine W.eq (g2 := F0 m 18 ls [.int q3.1]) rfl ?_
    obtain rfl := Option.some.inj hf
    exact Z _ _ _ _ dX9_moved_18 S
  · replace hf := ip hf hc
    refine lv_ldc (v := (-1000000003)) hx hb X.2.2.2.1 (X.2.2.2.2.1 _ cn_X9_230) dX9_moved_7 ?_
    obtain rfl := Option.some.inj hf
    exact Z _ _ _ _ dX9_moved_9 S
def f_X9_moved (a0 : Nat) (h : HP) : Option (Int32 × HP) := ck h a0 9 (f_X9_moved_e a0 h)
theorem o_X9_moved {a0 : Nat} {h : HP} {out : Int32 × HP} (hf : f_X9_moved a0 h = some out) : ∃ fs, h[a0]? = some (.inl (9, fs)) := (ck_spec hf).1
set_option maxRecDepth 100000 in
theorem c_X9_moved {l : Launch} {G : GT} {b : Nat} {a0 : Nat} {h : HP} {out : Int32 × HP} (hf : f_X9_moved a0 h = some out) : MT l G b False False yX9_moved cX9_moved 1 (some .int) RM_X9_moved [.ref (b + a0)] h (some (.int out.1)) out.2 0 0 := by
  refine met_of (by decide) (Nat.le_of_ble_eq_true rfl) ?_
  intro p e s m below meth c ls X hnm S hl
  have hl : lv_has ls 1 [(0, .ref (b + a0))] := hl
  replace hf := (ck_spec hf).2
  exact w_X9_moved_e X (z_i X) _ _ hf _ _ _ S hl
/-! RoomRingsModel.leave(I)I -/
abbrev RM_X9_leave : Room := { frames := 2, cells := 0, slots := 0, locals := 44 }
def f_X9_leave_e  (a0 : Nat) (x1 : Int32) (h : HP) : Option (Int32 × HP) :=
  (f_X9_isPerson a0 x1 h).bind fun q1 =>
  if q1.1 = 0 then
    some ((-1000000001), q1.2)
  else
    (gR q1.2 a0 9 0).bind fun r2 =>
    (ald q1.2 r2 (54 + x1)).bind fun v3 =>
    if v3 = (-1) then
      some ((-1000000003), q1.2)
    else
      (f_X9_remember a0 q1.2).bind fun h4 =>
      (gR h4 a0 9 0).bind fun r5 =>
      (ast h4 r5 (54 + x1) (-1)).bind fun h6 =>
      some (v3, h6)
set_option maxRecDepth 100000 in
set_option maxHeartbeats 4000000 in
theorem w_X9_leave_e (X : CX RX9 cX9_leave 3 (some .int) p s m args meth c G b) {out : Int32 × HP} (Z : ZI p l e RM_X9_leave s m args below meth c cX9_leave G b False 0 0 Q out)  : ∀ (a0 : Nat) (x1 : Int32) (h : HP), f_X9_leave_e  a0 x1 h = some out → ∀ (H : Heap) (locs : List Loc) (ls : Array Slot), ST G b False s h H locs → lv_has ls 3 [(0, .ref (b + a0)), (1, .int x1)] → W p l e RM_X9_leave s m args below meth c H locs 0 0 Q (F0 m 0 ls []) := by
  intro a0 x1 h hf H locs ls S hl
  unfold f_X9_leave_e at hf
  have hx := X.1
  have hb := X.2.1
  refine lv_aload_n hx hb dX9_leave_0 rfl (lv_at hl 0 rfl) ?_
  refine lv_iload_n hx hb dX9_leave_1 rfl (lv_at hl 1 rfl) ?_
  obtain ⟨q1, e_q1, hf⟩ := ob hf
  refine r_callV X S hl.1 (As := [.int x1]) (rest := []) (c_X9_isPerson e_q1) my_X9_isPerson mv_X9_isPerson ml_X9_202 rfl (o_X9_isPerson e_q1) ⟨rfl, rfl, Nat.le_of_ble_eq_true rfl, Nat.le_of_ble_eq_true rfl⟩ rfl rfl (Nat.le_of_ble_eq_true rfl) dX9_leave_2 ⟨Nat.le_of_ble_eq_true rfl, Nat.le_of_ble_eq_true rfl⟩ (fun H locs S => ?_)
  refine W.eq (g2 := F0 m 5 ls [.int q1.1]) rfl ?_
  refine lv_if_ne (tgt := 11) hx hb dX9_leave_5 (by decide) (fun hc => ?_) (fun hc => ?_)
  · replace hf := im hf hc
    refine lv_aload_n hx hb dX9_leave_11 rfl (lv_at hl 0 rfl) ?_
    obtain ⟨r2, e_r2, hf⟩ := ob hf
    refine r_getR X S fl_X9_7 e_r2 dX9_leave_12 ?_
    refine lv_bipush (v := 54) hx hb dX9_leave_15 (by decide) ?_
    refine lv_iload_n hx hb dX9_leave_17 rfl (lv_at hl 1 rfl) ?_
    refine lv_iadd hx hb dX9_leave_18 ?_
    obtain ⟨v3, e_v3, hf⟩ := ob hf
    refine r_ald X S e_v3 dX9_leave_19 ?_
    refine lv_istore_n (lv' := [(2, .int v3), (0, .ref (b + a0)), (1, .int x1)]) hx hb dX9_leave_20 rfl hl (by decide) rfl (fun ls hl => ?_)
    refine lv_iload_n hx hb dX9_leave_21 rfl (lv_at hl 0 rfl) ?_
    refine lv_iconst (v := (-1)) hx hb dX9_leave_22 (by decide) ?_
    refine lv_icmp_ne (tgt := 29) hx hb dX9_leave_23 (by decide) (fun hc => ?_) (fun hc => ?_)
    · replace hf := im hf hc
      refine lv_aload_n hx hb dX9_leave_29 rfl (lv_at hl 1 rfl) ?_
      obtain ⟨h4, e_h4, hf⟩ := ob hf
      refine r_callV X S hl.1 (As := []) (rest := []) (c_X9_remember e_h4) my_X9_remember mv_X9_remember ml_X9_223 rfl (o_X9_remember e_h4) ⟨rfl, rfl, Nat.le_of_ble_eq_true rfl, Nat.le_of_ble_eq_true rfl⟩ rfl rfl (Nat.le_of_ble_eq_true rfl) dX9_leave_30 ⟨Nat.le_of_ble_eq_true rfl, Nat.le_of_ble_eq_true rfl⟩ (fun H locs S => ?_)
      refine W.eq (g2 := F0 m 33 ls []) rfl ?_
      refine lv_aload_n hx hb dX9_leave_33 rfl (lv_at hl 1 rfl) ?_
      obtain ⟨r5, e_r5, hf⟩ := ob hf
      refine r_getR X S fl_X9_7 e_r5 dX9_leave_34 ?_
      refine lv_bipush (v := 54) hx hb dX9_leave_37 (by decide) ?_
      refine lv_iload_n hx hb dX9_leave_39 rfl (lv_at hl 2 rfl) ?_
      refine lv_iadd hx hb dX9_leave_40 ?_
      refine lv_iconst (v := (-1)) hx hb dX9_leave_41 (by decide) ?_
      obtain ⟨h6, e_h6, hf⟩ := ob hf
      refine r_ast X S e_h6 dX9_leave_42 (fun H locs S => ?_)
      refine lv_iload_n hx hb dX9_leave_43 rfl (lv_at hl 0 rfl) ?_
      obtain rfl := Option.some.inj hf
      exact Z _ _ _ _ dX9_leave_44 S
    · replace hf := ip hf hc
      refine lv_ldc (v := (-1000000003)) hx hb X.2.2.2.1 (X.2.2.2.2.1 _ cn_X9_230) dX9_leave_26 ?_
      obtain rfl := Option.some.inj hf
      exact Z _ _ _ _ dX9_leave_28 S
  · replace hf := ip hf hc
    refine lv_ldc (v := (-1000000001)) hx hb X.2.2.2.1 (X.2.2.2.2.1 _ cn_X9_206) dX9_leave_8 ?_
    obtain rfl := Option.some.inj hf
    exact Z _ _ _ _ dX9_leave_10 S
def f_X9_leave (a0 : Nat) (x1 : Int32) (h : HP) : Option (Int32 × HP) := ck h a0 9 (f_X9_leave_e a0 x1 h)
theorem o_X9_leave {a0 : Nat} {x1 : Int32} {h : HP} {out : Int32 × HP} (hf : f_X9_leave a0 x1 h = some out) : ∃ fs, h[a0]? = some (.inl (9, fs)) := (ck_spec hf).1
set_option maxRecDepth 100000 in
theorem c_X9_leave {l : Launch} {G : GT} {b : Nat} {a0 : Nat} {x1 : Int32} {h : HP} {out : Int32 × HP} (hf : f_X9_leave a0 x1 h = some out) : MT l G b False False yX9_leave cX9_leave 3 (some .int) RM_X9_leave [.ref (b + a0), .int x1] h (some (.int out.1)) out.2 0 0 := by
  refine met_of (by decide) (Nat.le_of_ble_eq_true rfl) ?_
  intro p e s m below meth c ls X hnm S hl
  have hl : lv_has ls 3 [(0, .ref (b + a0)), (1, .int x1)] := hl
  replace hf := (ck_spec hf).2
  exact w_X9_leave_e X (z_i X) _ _ _ hf _ _ _ S hl
end M17
