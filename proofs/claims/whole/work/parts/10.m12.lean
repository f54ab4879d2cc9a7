section M12
variable {p : Program} {l : Launch} {e : Env} {s : State} {m : MethodId} {args : Array Value} {below : List Frame} {meth : Method} {c : Code} {Q : State → Prop} {G : GT} {b : Nat}
/-! RoomRingsModel.here()I -/
abbrev RM_X9_here : Room := { frames := 0, cells := 0, slots := 0, locals := 0 }
def f_X9_here_b62  (s0 : Int32) (h : HP) : Option (Int32 × HP) :=
  some (s0, h)
set_option maxRecDepth 100000 in
set_option maxHeartbeats 4000000 in
theorem w_X9_here_b62 (X : CX RX9 cX9_here 1 (some .int) p s m args meth c G b) {out : Int32 × HP} (Z : ZI p l e RM_X9_here s m args below meth c cX9_here G b False 0 0 Q out)  : ∀ (s0 : Int32) (h : HP), f_X9_here_b62  s0 h = some out → ∀ (H : Heap) (locs : List Loc) (ls : Array Slot), ST G b False s h H locs → lv_has ls 1 [] → W p l e RM_X9_here s m args below meth c H locs 0 0 Q (F0 m 62 ls [.int s0]) := by
  intro s0 h hf H locs ls S hl
  unfold f_X9_here_b62 at hf
  have hx := X.1
  have hb := X.2.1
  obtain rfl := Option.some.inj hf
  exact Z _ _ _ _ dX9_here_62 S
def f_X9_here_b38  (a0 : Nat) (h : HP) : Option (Int32 × HP) :=
  (gI h a0 9 19).bind fun v1 =>
  (gI h a0 9 6).bind fun v2 =>
  if v2 ≤ v1 then
    f_X9_here_b62  0 h
  else
    (gR h a0 9 5).bind fun r3 =>
    (gI h a0 9 19).bind fun v4 =>
    (ald h r3 v4).bind fun v5 =>
    f_X9_here_b62  v5 h
set_option maxRecDepth 100000 in
set_option maxHeartbeats 4000000 in
theorem w_X9_here_b38 (X : CX RX9 cX9_here 1 (some .int) p s m args meth c G b) {out : Int32 × HP} (Z : ZI p l e RM_X9_here s m args below meth c cX9_here G b False 0 0 Q out)  : ∀ (a0 : Nat) (h : HP), f_X9_here_b38  a0 h = some out → ∀ (H : Heap) (locs : List Loc) (ls : Array Slot), ST G b False s h H locs → lv_has ls 1 [(0, .ref (b + a0))] → W p l e RM_X9_here s m args below meth c H locs 0 0 Q (F0 m 38 ls []) := by
  intro a0 h hf H locs ls S hl
  unfold f_X9_here_b38 at hf
  have hx := X.1
  have hb := X.2.1
  refine lv_aload_n hx hb dX9_here_38 rfl (lv_at hl 0 rfl) ?_
  obtain ⟨v1, e_v1, hf⟩ := ob hf
  refine r_getI X S fl_X9_76 e_v1 dX9_here_39 ?_
  refine lv_aload_n hx hb dX9_here_42 rfl (lv_at hl 0 rfl) ?_
  obtain ⟨v2, e_v2, hf⟩ := ob hf
  refine r_getI X S fl_X9_62 e_v2 dX9_here_43 ?_
  refine lv_icmp_ge (tgt := 61) hx hb dX9_here_46 (by decide) (fun hc => ?_) (fun hc => ?_)
  · replace hf := ip hf hc
    refine lv_iconst (v := 0) hx hb dX9_here_61 (by decide) ?_
    exact w_X9_here_b62 X Z  _ _ hf _ _ _ S (lv_sub hl [] rfl)
  · replace hf := im hf hc
    refine lv_aload_n hx hb dX9_here_49 rfl (lv_at hl 0 rfl) ?_
    obtain ⟨r3, e_r3, hf⟩ := ob hf
    refine r_getR X S fl_X9_13 e_r3 dX9_here_50 ?_
    refine lv_aload_n hx hb dX9_here_53 rfl (lv_at hl 0 rfl) ?_
    obtain ⟨v4, e_v4, hf⟩ := ob hf
    refine r_getI X S fl_X9_76 e_v4 dX9_here_54 ?_
    obtain ⟨v5, e_v5, hf⟩ := ob hf
    refine r_ald X S e_v5 dX9_here_57 ?_
    refine lv_goto (tgt := 62) hx hb dX9_here_58 (by decide) ?_
    exact w_X9_here_b62 X Z  _ _ hf _ _ _ S (lv_sub hl [] rfl)
def f_X9_here_b0 (K0 : Nat → HP → Option (Int32 × HP)) (a0 : Nat) (h : HP) : Option (Int32 × HP) :=
  (gI h a0 9 19).bind fun v1 =>
  (gI h a0 9 6).bind fun v2 =>
  if v2 ≤ v1 then
    f_X9_here_b38  a0 h
  else
    (gR h a0 9 5).bind fun r3 =>
    (gI h a0 9 19).bind fun v4 =>
    (ald h r3 v4).bind fun v5 =>
    if v5 = 32 then
      (gI h a0 9 19).bind fun v6 =>
      (pI h a0 9 19 (v6 + 1)).bind fun h7 =>
      K0 a0 h7
    else
      f_X9_here_b38  a0 h
set_option maxRecDepth 100000 in
set_option maxHeartbeats 4000000 in
theorem w_X9_here_b0 (X : CX RX9 cX9_here 1 (some .int) p s m args meth c G b) {out : Int32 × HP} (Z : ZI p l e RM_X9_here s m args below meth c cX9_here G b False 0 0 Q out) {K0 : Nat → HP → Option (Int32 × HP)} (hK0 : ∀ (a0 : Nat) (h : HP), K0 a0 h = some out → ∀ (H : Heap) (locs : List Loc) (ls : Array Slot), ST G b False s h H locs → lv_has ls 1 [(0, .ref (b + a0))] → W p l e RM_X9_here s m args below meth c H locs 0 0 Q (F0 m 0 ls [])) : ∀ (a0 : Nat) (h : HP), f_X9_here_b0 K0 a0 h = some out → ∀ (H : Heap) (locs : List Loc) (ls : Array Slot), ST G b False s h H locs → lv_has ls 1 [(0, .ref (b + a0))] → W p l e RM_X9_here s m args below meth c H locs 0 0 Q (F0 m 0 ls []) := by
  intro a0 h hf H locs ls S hl
  unfold f_X9_here_b0 at hf
  have hx := X.1
  have hb := X.2.1
  refine lv_aload_n hx hb dX9_here_0 rfl (lv_at hl 0 rfl) ?_
  obtain ⟨v1, e_v1, hf⟩ := ob hf
  refine r_getI X S fl_X9_76 e_v1 dX9_here_1 ?_
  refine lv_aload_n hx hb dX9_here_4 rfl (lv_at hl 0 rfl) ?_
  obtain ⟨v2, e_v2, hf⟩ := ob hf
  refine r_getI X S fl_X9_62 e_v2 dX9_here_5 ?_
  refine lv_icmp_ge (tgt := 38) hx hb dX9_here_8 (by decide) (fun hc => ?_) (fun hc => ?_)
  · replace hf := ip hf hc
    exact w_X9_here_b38 X Z  _ _ hf _ _ _ S (lv_sub hl [0] rfl)
  · replace hf := im hf hc
    refine lv_aload_n hx hb dX9_here_11 rfl (lv_at hl 0 rfl) ?_
    obtain ⟨r3, e_r3, hf⟩ := ob hf
    refine r_getR X S fl_X9_13 e_r3 dX9_here_12 ?_
    refine lv_aload_n hx hb dX9_here_15 rfl (lv_at hl 0 rfl) ?_
    obtain ⟨v4, e_v4, hf⟩ := ob hf
    refine r_getI X S fl_X9_76 e_v4 dX9_here_16 ?_
    obtain ⟨v5, e_v5, hf⟩ := ob hf
    refine r_ald X S e_v5 dX9_here_19 ?_
    refine lv_bipush (v := 32) hx hb dX9_here_20 (by decide) ?_
    refine lv_icmp_ne (tgt := 38) hx hb dX9_here_22 (by decide) (fun hc => ?_) (fun hc => ?_)
    · replace hf := im hf hc
      exact w_X9_here_b38 X Z  _ _ hf _ _ _ S (lv_sub hl [0] rfl)
    · replace hf := ip hf hc
      refine lv_aload_n hx hb dX9_here_25 rfl (lv_at hl 0 rfl) ?_
      refine lv_dup hx hb dX9_here_26 rfl ?_
      obtain ⟨v6, e_v6, hf⟩ := ob hf
      refine r_getI X S fl_X9_76 e_v6 dX9_here_27 ?_
      refine lv_iconst (v := 1) hx hb dX9_here_30 (by decide) ?_
      refine lv_iadd hx hb dX9_here_31 ?_
      obtain ⟨h7, e_h7, hf⟩ := ob hf
      refine r_put X S fp_X9_76 (fun h9 => by cases h9) rfl rfl rfl e_h7 dX9_here_32 (fun H locs S => ?_)
      refine lv_goto (tgt := 0) hx hb dX9_here_35 (by decide) ?_
      exact hK0 _ _ hf _ _ _ S (lv_sub hl [0] rfl)
def F_X9_here_0  : Nat → Nat → HP → Option (Int32 × HP)
  | 0 => fun _ _ => none
  | n + 1 => fun a0 h => f_X9_here_b0 (F_X9_here_0  n) a0 h
theorem wl_X9_here_0 (X : CX RX9 cX9_here 1 (some .int) p s m args meth c G b) {out : Int32 × HP} (Z : ZI p l e RM_X9_here s m args below meth c cX9_here G b False 0 0 Q out)  : ∀ (n : Nat) (a0 : Nat) (h : HP), F_X9_here_0  n a0 h = some out → ∀ (H : Heap) (locs : List Loc) (ls : Array Slot), ST G b False s h H locs → lv_has ls 1 [(0, .ref (b + a0))] → W p l e RM_X9_here s m args below meth c H locs 0 0 Q (F0 m 0 ls []) := by
  intro n
  induction n with
  | zero => intro a0 h hf; exact nn hf
  | succ n ih => exact w_X9_here_b0 X Z ih
def f_X9_here (a0 : Nat) (h : HP) : Option (Int32 × HP) := ck h a0 9 (F_X9_here_0 FU a0 h)
theorem o_X9_here {a0 : Nat} {h : HP} {out : Int32 × HP} (hf : f_X9_here a0 h = some out) : ∃ fs, h[a0]? = some (.inl (9, fs)) := (ck_spec hf).1
set_option maxRecDepth 100000 in
theorem c_X9_here {l : Launch} {G : GT} {b : Nat} {a0 : Nat} {h : HP} {out : Int32 × HP} (hf : f_X9_here a0 h = some out) : MT l G b False False yX9_here cX9_here 1 (some .int) RM_X9_here [.ref (b + a0)] h (some (.int out.1)) out.2 0 0 := by
  refine met_of (by decide) (Nat.le_of_ble_eq_true rfl) ?_
  intro p e s m below meth c ls X hnm S hl
  have hl : lv_has ls 1 [(0, .ref (b + a0))] := hl
  replace hf := (ck_spec hf).2
  exact wl_X9_here_0 X (z_i X) FU _ _ hf _ _ _ S hl
/-! RoomRingsModel.number(II)I -/
abbrev RM_X9_number : Room := { frames := 2, cells := 0, slots := 0, locals := 42 }
def f_X9_number_b91 (K25 : Nat → Int32 → Int32 → Int32 → Int32 → HP → Option (Int32 × HP)) (a0 : Nat) (x1 : Int32) (x2 : Int32) (x3 : Int32) (s0 : Int32) (h : HP) : Option (Int32 × HP) :=
  (gI h a0 9 19).bind fun v1 =>
  (pI h a0 9 19 (v1 + 1)).bind fun h2 =>
  K25 a0 x1 x2 x3 s0 h2
set_option maxRecDepth 100000 in
set_option maxHeartbeats 4000000 in
theorem w_X9_number_b91 (X : CX RX9 cX9_number 5 (some .int) p s m args meth c G b) {out : Int32 × HP} (Z : ZI p l e RM_X9_number s m args below meth c cX9_number G b False 0 0 Q out) {K25 : Nat → Int32 → Int32 → Int32 → Int32 → HP → Option (Int32 × HP)} (hK25 : ∀ (a0 : Nat) (x1 : Int32) (x2 : Int32) (x3 : Int32) (x4 : Int32) (h : HP), K25 a0 x1 x2 x3 x4 h = some out → ∀ (H : Heap) (locs : List Loc) (ls : Array Slot), ST G b False s h H locs → lv_has ls 5 [(0, .ref (b + a0)), (1, .int x1), (2, .int x2), (3, .int x3), (4, .int x4)] → W p l e RM_X9_number s m args below meth c H locs 0 0 Q (F0 m 25 ls [])) : ∀ (a0 : Nat) (x1 : Int32) (x2 : Int32) (x3 : Int32) (s0 : Int32) (h : HP), f_X9_number_b91 K25 a0 x1 x2 x3 s0 h = some out → ∀ (H : Heap) (locs : List Loc) (ls : Array Slot), ST G b False s h H locs → lv_has ls 5 [(0, .ref (b + a0)), (1, .int x1), (2, .int x2), (3, .int x3)] → W p l e RM_X9_number s m args below meth c H locs 0 0 Q (F0 m 91 ls [.int s0]) := by
  intro a0 x1 x2 x3 s0 h hf H locs ls S hl
  unfold f_X9_number_b91 at hf
  have hx := X.1
  have hb := X.2.1
  refine lv_istore (lv' := [(4, .int s0), (0, .ref (b + a0)), (1, .int x1), (2, .int x2), (3, .int x3)]) hx hb dX9_number_91 hl (by decide) rfl (fun ls hl => ?_)
  refine lv_aload_n hx hb dX9_number_93 rfl (lv_at hl 1 rfl) ?_
  refine lv_dup hx hb dX9_number_94 rfl ?_
  obtain ⟨v1, e_v1, hf⟩ := ob hf
  refine r_getI X S fl_X9_76 e_v1 dX9_number_95 ?_
  refine lv_iconst (v := 1) hx hb dX9_number_98 (by decide) ?_
  refine lv_iadd hx hb dX9_number_99 ?_
  obtain ⟨h2, e_h2, hf⟩ := ob hf
  refine r_put X S fp_X9_76 (fun h9 => by cases h9) rfl rfl rfl e_h2 dX9_number_100 (fun H locs S => ?_)
  refine lv_goto (tgt := 25) hx hb dX9_number_103 (by decide) ?_
  exact hK25 _ _ _ _ _ _ hf _ _ _ S (lv_sub hl [1, 2, 3, 4, 0] rfl)
def f_X9_number_b161  (x4 : Int32) (h : HP) : Option (Int32 × HP) :=
  some (x4, h)
set_option maxRecDepth 100000 in
set_option maxHeartbeats 4000000 in
theorem w_X9_number_b161 (X : CX RX9 cX9_number 5 (some .int) p s m args meth c G b) {out : Int32 × HP} (Z : ZI p l e RM_X9_number s m args below meth c cX9_number G b False 0 0 Q out)  : ∀ (x4 : Int32) (h : HP), f_X9_number_b161  x4 h = some out → ∀ (H : Heap) (locs : List Loc) (ls : Array Slot), ST G b False s h H locs → lv_has ls 5 [(4, .int x4)] → W p l e RM_X9_number s m args below meth c H locs 0 0 Q (F0 m 161 ls []) := by
  intro x4 h hf H locs ls S hl
  unfold f_X9_number_b161 at hf
  have hx := X.1
  have hb := X.2.1
  refine lv_iload hx hb dX9_number_161 (lv_at hl 0 rfl) ?_
  obtain rfl := Option.some.inj hf
  exact Z _ _ _ _ dX9_number_163 S
def f_X9_number_b152  (a0 : Nat) (x4 : Int32) (h : HP) : Option (Int32 × HP) :=
  (gI h a0 9 24).bind fun v1 =>
  (f_X9_fail a0 2 v1 h).bind fun h2 =>
  f_X9_number_b161  x4 h2
set_option maxRecDepth 100000 in
set_option maxHeartbeats 4000000 in
theorem w_X9_number_b152 (X : CX RX9 cX9_number 5 (some .int) p s m args meth c G b) {out : Int32 × HP} (Z : ZI p l e RM_X9_number s m args below meth c cX9_number G b False 0 0 Q out)  : ∀ (a0 : Nat) (x4 : Int32) (h : HP), f_X9_number_b152  a0 x4 h = some out → ∀ (H : Heap) (locs : List Loc) (ls : Array Slot), ST G b False s h H locs → lv_has ls 5 [(0, .ref (b + a0)), (4, .int x4)] → W p l e RM_X9_number s m args below meth c H locs 0 0 Q (F0 m 152 ls []) := by
  intro a0 x4 h hf H locs ls S hl
  unfold f_X9_number_b152 at hf
  have hx := X.1
  have hb := X.2.1
  refine lv_aload_n hx hb dX9_number_152 rfl (lv_at hl 0 rfl) ?_
  refine lv_iconst (v := 2) hx hb dX9_number_153 (by decide) ?_
  refine lv_aload_n hx hb dX9_number_154 rfl (lv_at hl 0 rfl) ?_
  obtain ⟨v1, e_v1, hf⟩ := ob hf
  refine r_getI X S fl_X9_83 e_v1 dX9_number_155 ?_
  obtain ⟨h2, e_h2, hf⟩ := ob hf
  refine r_callV X S hl.1 (As := [.int 2, .int v1]) (rest := []) (c_X9_fail e_h2) my_X9_fail mv_X9_fail ml_X9_86 rfl (o_X9_fail e_h2) ⟨rfl, rfl, Nat.le_of_ble_eq_true rfl, Nat.le_of_ble_eq_true rfl⟩ rfl rfl (Nat.le_of_ble_eq_true rfl) dX9_number_158 ⟨Nat.le_of_ble_eq_true rfl, Nat.le_of_ble_eq_true rfl⟩ (fun H locs S => ?_)
  refine W.eq (g2 := F0 m 161 ls []) rfl ?_
  exact w_X9_number_b161 X Z  _ _ hf _ _ _ S (lv_sub hl [1] rfl)
def f_X9_number_b106  (a0 : Nat) (x1 : Int32) (x2 : Int32) (x3 : Int32) (x4 : Int32) (h : HP) : Option (Int32 × HP) :=
  (f_X9_in x3 48 57 h).bind fun q1 =>
  if q1.1 = 0 then
    (gI q1.2 a0 9 24).bind fun v2 =>
    (f_X9_fail a0 1 v2 q1.2).bind fun h3 =>
    f_X9_number_b161  x4 h3
  else
    (gI q1.2 a0 9 19).bind fun v4 =>
    (gI q1.2 a0 9 24).bind fun v5 =>
    if 3 < (v4 - v5) then
      f_X9_number_b152  a0 x4 q1.2
    else
      (f_X9_in x4 x1 x2 q1.2).bind fun q6 =>
      if q6.1 = 0 then
        f_X9_number_b152  a0 x4 q6.2
      else
        f_X9_number_b161  x4 q6.2
set_option maxRecDepth 100000 in
set_option maxHeartbeats 4000000 in
theorem w_X9_number_b106 (X : CX RX9 cX9_number 5 (some .int) p s m args meth c G b) {out : Int32 × HP} (Z : ZI p l e RM_X9_number s m args below meth c cX9_number G b False 0 0 Q out)  : ∀ (a0 : Nat) (x1 : Int32) (x2 : Int32) (x3 : Int32) (x4 : Int32) (h : HP), f_X9_number_b106  a0 x1 x2 x3 x4 h = some out → ∀ (H : Heap) (locs : List Loc) (ls : Array Slot), ST G b False s h H locs → lv_has ls 5 [(0, .ref (b + a0)), (1, .int x1), (2, .int x2), (3, .int x3), (4, .int x4)] → W p l e RM_X9_number s m args below meth c H locs 0 0 Q (F0 m 106 ls []) := by
  intro a0 x1 x2 x3 x4 h hf H locs ls S hl
  unfold f_X9_number_b106 at hf
  have hx := X.1
  have hb := X.2.1
  refine lv_iload_n hx hb dX9_number_106 rfl (lv_at hl 3 rfl) ?_
  refine lv_bipush (v := 48) hx hb dX9_number_107 (by decide) ?_
  refine lv_bipush (v := 57) hx hb dX9_number_109 (by decide) ?_
  obtain ⟨q1, e_q1, hf⟩ := ob hf
  refine r_callS X S hl.1 (As := [.int x3, .int 48, .int 57]) (rest := []) (c_X9_in e_q1) my_X9_in ms_X9_in ml_X9_54 ⟨rfl, rfl, Nat.le_of_ble_eq_true rfl, Nat.le_of_ble_eq_true rfl⟩ rfl rfl (Nat.le_of_ble_eq_true rfl) dX9_number_111 ⟨Nat.le_of_ble_eq_true rfl, Nat.le_of_ble_eq_true rfl⟩ (fun H locs S => ?_)
  refine W.eq (g2 := F0 m 114 ls [.int q1.1]) rfl ?_
  refine lv_if_ne (tgt := 129) hx hb dX9_number_114 (by decide) (fun hc => ?_) (fun hc => ?_)
  · replace hf := im hf hc
    refine lv_aload_n hx hb dX9_number_129 rfl (lv_at hl 0 rfl) ?_
    obtain ⟨v4, e_v4, hf⟩ := ob hf
    refine r_getI X S fl_X9_76 e_v4 dX9_number_130 ?_
    refine lv_aload_n hx hb dX9_number_133 rfl (lv_at hl 0 rfl) ?_
    obtain ⟨v5, e_v5, hf⟩ := ob hf
    refine r_getI X S fl_X9_83 e_v5 dX9_number_134 ?_
    refine lv_isub hx hb dX9_number_137 ?_
    refine lv_iconst (v := 3) hx hb dX9_number_138 (by decide) ?_
    refine lv_icmp_gt (tgt := 152) hx hb dX9_number_139 (by decide) (fun hc => ?_) (fun hc => ?_)
    · replace hf := ip hf hc
      exact w_X9_number_b152 X Z  _ _ _ hf _ _ _ S (lv_sub hl [0, 4] rfl)
    · replace hf := im hf hc
      refine lv_iload hx hb dX9_number_142 (lv_at hl 4 rfl) ?_
      refine lv_iload_n hx hb dX9_number_144 rfl (lv_at hl 1 rfl) ?_
      refine lv_iload_n hx hb dX9_number_145 rfl (lv_at hl 2 rfl) ?_
      obtain ⟨q6, e_q6, hf⟩ := ob hf
      refine r_callS X S hl.1 (As := [.int x4, .int x1, .int x2]) (rest := []) (c_X9_in e_q6) my_X9_in ms_X9_in ml_X9_54 ⟨rfl, rfl, Nat.le_of_ble_eq_true rfl, Nat.le_of_ble_eq_true rfl⟩ rfl rfl (Nat.le_of_ble_eq_true rfl) dX9_number_146 ⟨Nat.le_of_ble_eq_true rfl, Nat.le_of_ble_eq_true rfl⟩ (fun H locs S => ?_)
      refine W.eq (g2 := F0 m 149 ls [.int q6.1]) rfl ?_
      refine lv_if_ne (tgt := 161) hx hb dX9_number_149 (by decide) (fun hc => ?_) (fun hc => ?_)
      · replace hf := im hf hc
        exact w_X9_number_b161 X Z  _ _ hf _ _ _ S (lv_sub hl [4] rfl)
      · replace hf := ip hf hc
        exact w_X9_number_b152 X Z  _ _ _ hf _ _ _ S (lv_sub hl [0, 4] rfl)
  · replace hf := ip hf hc
    refine lv_aload_n hx hb dX9_number_117 rfl (lv_at hl 0 rfl) ?_
    refine lv_iconst (v := 1) hx hb dX9_number_118 (by decide) ?_
    refine lv_aload_n hx hb dX9_number_119 rfl (lv_at hl 0 rfl) ?_
    obtain ⟨v2, e_v2, hf⟩ := ob hf
    refine r_getI X S fl_X9_83 e_v2 dX9_number_120 ?_
    obtain ⟨h3, e_h3, hf⟩ := ob hf
    refine r_callV X S hl.1 (As := [.int 1, .int v2]) (rest := []) (c_X9_fail e_h3) my_X9_fail mv_X9_fail ml_X9_86 rfl (o_X9_fail e_h3) ⟨rfl, rfl, Nat.le_of_ble_eq_true rfl, Nat.le_of_ble_eq_true rfl⟩ rfl rfl (Nat.le_of_ble_eq_true rfl) dX9_number_123 ⟨Nat.le_of_ble_eq_true rfl, Nat.le_of_ble_eq_true rfl⟩ (fun H locs S => ?_)
    refine W.eq (g2 := F0 m 126 ls []) rfl ?_
    refine lv_goto (tgt := 161) hx hb dX9_number_126 (by decide) ?_
    exact w_X9_number_b161 X Z  _ _ hf _ _ _ S (lv_sub hl [4] rfl)
def f_X9_number_b25 (K25 : Nat → Int32 → Int32 → Int32 → Int32 → HP → Option (Int32 × HP)) (a0 : Nat) (x1 : Int32) (x2 : Int32) (x3 : Int32) (x4 : Int32) (h : HP) : Option (Int32 × HP) :=
  (gI h a0 9 19).bind fun v1 =>
  (gI h a0 9 6).bind fun v2 =>
  if v2 ≤ v1 then
    f_X9_number_b106  a0 x1 x2 x3 x4 h
  else
    (gR h a0 9 5).bind fun r3 =>
    (gI h a0 9 19).bind fun v4 =>
    (ald h r3 v4).bind fun v5 =>
    (f_X9_in v5 48 57 h).bind fun q6 =>
    if q6.1 = 0 then
      f_X9_number_b106  a0 x1 x2 x3 x4 q6.2
    else
      (gI q6.2 a0 9 19).bind fun v7 =>
      (gI q6.2 a0 9 24).bind fun v8 =>
      if 3 ≤ (v7 - v8) then
        f_X9_number_b91 K25 a0 x1 x2 x3 x4 q6.2
      else
        (gR q6.2 a0 9 5).bind fun r9 =>
        (gI q6.2 a0 9 19).bind fun v10 =>
        (ald q6.2 r9 v10).bind fun v11 =>
        f_X9_number_b91 K25 a0 x1 x2 x3 (((10 * x4) + v11) - 48) q6.2
set_option maxRecDepth 100000 in
set_option maxHeartbeats 4000000 in
theorem w_X9_number_b25 (X : CX RX9 cX9_number 5 (some .int) p s m args meth c G b) {out : Int32 × HP} (Z : ZI p l e RM_X9_number s m args below meth c cX9_number G b False 0 0 Q out) {K25 : Nat → Int32 → Int32 → Int32 → Int32 → HP → Option (Int32 × HP)} (hK25 : ∀ (a0 : Nat) (x1 : Int32) (x2 : Int32) (x3 : Int32) (x4 : Int32) (h : HP), K25 a0 x1 x2 x3 x4 h = some out → ∀ (H : Heap) (locs : List Loc) (ls : Array Slot), ST G b False s h H locs → lv_has ls 5 [(0, .ref (b + a0)), (1, .int x1), (2, .int x2), (3, .int x3), (4, .int x4)] → W p l e RM_X9_number s m args below meth c H locs 0 0 Q (F0 m 25 ls [])) : ∀ (a0 : Nat) (x1 : Int32) (x2 : Int32) (x3 : Int32) (x4 : Int32) (h : HP), f_X9_number_b25 K25 a0 x1 x2 x3 x4 h = some out → ∀ (H : Heap) (locs : List Loc) (ls : Array Slot), ST G b False s h H locs → lv_has ls 5 [(0, .ref (b + a0)), (1, .int x1), (2, .int x2), (3, .int x3), (4, .int x4)] → W p l e RM_X9_number s m args below meth c H locs 0 0 Q (F0 m 25 ls []) := by
  intro a0 x1 x2 x3 x4 h hf H locs ls S hl
  unfold f_X9_number_b25 at hf
  have hx := X.1
  have hb := X.2.1
  refine lv_aload_n hx hb dX9_number_25 rfl (lv_at hl 0 rfl) ?_
  obtain ⟨v1, e_v1, hf⟩ := ob hf
  refine r_getI X S fl_X9_76 e_v1 dX9_number_26 ?_
  refine lv_aload_n hx hb dX9_number_29 rfl (lv_at hl 0 rfl) ?_
  obtain ⟨v2, e_v2, hf⟩ := ob hf
  refine r_getI X S fl_X9_62 e_v2 dX9_number_30 ?_
  refine lv_icmp_ge (tgt := 106) hx hb dX9_number_33 (by decide) (fun hc => ?_) (fun hc => ?_)
  · replace hf := ip hf hc
    exact w_X9_number_b106 X Z  _ _ _ _ _ _ hf _ _ _ S (lv_sub hl [0, 1, 2, 3, 4] rfl)
  · replace hf := im hf hc
    refine lv_aload_n hx hb dX9_number_36 rfl (lv_at hl 0 rfl) ?_
    obtain ⟨r3, e_r3, hf⟩ := ob hf
    refine r_getR X S fl_X9_13 e_r3 dX9_number_37 ?_
    refine lv_aload_n hx hb dX9_number_40 rfl (lv_at hl 0 rfl) ?_
    obtain ⟨v4, e_v4, hf⟩ := ob hf
    refine r_getI X S fl_X9_76 e_v4 dX9_number_41 ?_
    obtain ⟨v5, e_v5, hf⟩ := ob hf
    refine r_ald X S e_v5 dX9_number_44 ?_
    refine lv_bipush (v := 48) hx hb dX9_number_45 (by decide) ?_
    refine lv_bipush (v := 57) hx hb dX9_number_47 (by decide) ?_
    obtain ⟨q6, e_q6, hf⟩ := ob hf
    refine r_callS X S hl.1 (As := [.int v5, .int 48, .int 57]) (rest := []) (c_X9_in e_q6) my_X9_in ms_X9_in ml_X9_54 ⟨rfl, rfl, Nat.le_of_ble_eq_true rfl, Nat.le_of_ble_eq_true rfl⟩ rfl rfl (Nat.le_of_ble_eq_true rfl) dX9_number_49 ⟨Nat.le_of_ble_eq_true rfl, Nat.le_of_ble_eq_true rfl⟩ (fun H locs S => ?_)
    refine W.eq (g2 := F0 m 52 ls [.int q6.1]) rfl ?_
    refine lv_if_eq (tgt := 106) hx hb dX9_number_52 (by decide) (fun hc => ?_) (fun hc => ?_)
    · replace hf := ip hf hc
      exact w_X9_number_b106 X Z  _ _ _ _ _ _ hf _ _ _ S (lv_sub hl [0, 1, 2, 3, 4] rfl)
    · replace hf := im hf hc
      refine lv_aload_n hx hb dX9_number_55 rfl (lv_at hl 0 rfl) ?_
      obtain ⟨v7, e_v7, hf⟩ := ob hf
      refine r_getI X S fl_X9_76 e_v7 dX9_number_56 ?_
      refine lv_aload_n hx hb dX9_number_59 rfl (lv_at hl 0 rfl) ?_
      obtain ⟨v8, e_v8, hf⟩ := ob hf
      refine r_getI X S fl_X9_83 e_v8 dX9_number_60 ?_
      refine lv_isub hx hb dX9_number_63 ?_
      refine lv_iconst (v := 3) hx hb dX9_number_64 (by decide) ?_
      refine lv_icmp_ge (tgt := 89) hx hb dX9_number_65 (by decide) (fun hc => ?_) (fun hc => ?_)
      · replace hf := ip hf hc
        refine lv_iload hx hb dX9_number_89 (lv_at hl 4 rfl) ?_
        exact w_X9_number_b91 X Z hK25 _ _ _ _ _ _ hf _ _ _ S (lv_sub hl [0, 1, 2, 3] rfl)
      · replace hf := im hf hc
        refine lv_bipush (v := 10) hx hb dX9_number_68 (by decide) ?_
        refine lv_iload hx hb dX9_number_70 (lv_at hl 4 rfl) ?_
        refine lv_imul hx hb dX9_number_72 ?_
        refine lv_aload_n hx hb dX9_number_73 rfl (lv_at hl 0 rfl) ?_
        obtain ⟨r9, e_r9, hf⟩ := ob hf
        refine r_getR X S fl_X9_13 e_r9 dX9_number_74 ?_
        refine lv_aload_n hx hb dX9_number_77 rfl (lv_at hl 0 rfl) ?_
        obtain ⟨v10, e_v10, hf⟩ := ob hf
        refine r_getI X S fl_X9_76 e_v10 dX9_number_78 ?_
        obtain ⟨v11, e_v11, hf⟩ := ob hf
        refine r_ald X S e_v11 dX9_number_81 ?_
        refine lv_iadd hx hb dX9_number_82 ?_
        refine lv_bipush (v := 48) hx hb dX9_number_83 (by decide) ?_
        refine lv_isub hx hb dX9_number_85 ?_
        refine lv_goto (tgt := 91) hx hb dX9_number_86 (by decide) ?_
        exact w_X9_number_b91 X Z hK25 _ _ _ _ _ _ hf _ _ _ S (lv_sub hl [0, 1, 2, 3] rfl)
def F_X9_number_25  : Nat → Nat → Int32 → Int32 → Int32 → Int32 → HP → Option (Int32 × HP)
  | 0 => fun _ _ _ _ _ _ => none
  | n + 1 => fun a0 x1 x2 x3 x4 h => f_X9_number_b25 (F_X9_number_25  n) a0 x1 x2 x3 x4 h
theorem wl_X9_number_25 (X : CX RX9 cX9_number 5 (some .int) p s m args meth c G b) {out : Int32 × HP} (Z : ZI p l e RM_X9_number s m args below meth c cX9_number G b False 0 0 Q out)  : ∀ (n : Nat) (a0 : Nat) (x1 : Int32) (x2 : Int32) (x3 : Int32) (x4 : Int32) (h : HP), F_X9_number_25  n a0 x1 x2 x3 x4 h = some out → ∀ (H : Heap) (locs : List Loc) (ls : Array Slot), ST G b False s h H locs → lv_has ls 5 [(0, .ref (b + a0)), (1, .int x1), (2, .int x2), (3, .int x3), (4, .int x4)] → W p l e RM_X9_number s m args below meth c H locs 0 0 Q (F0 m 25 ls []) := by
  intro n
  induction n with
  | zero => intro a0 x1 x2 x3 x4 h hf; exact nn hf
  | succ n ih => exact w_X9_number_b25 X Z ih
def f_X9_number_e  (a0 : Nat) (x1 : Int32) (x2 : Int32) (h : HP) : Option (Int32 × HP) :=
  (f_X9_fine a0 h).bind fun q1 =>
  if q1.1 = 0 then
    some (x1, q1.2)
  else
    (f_X9_here a0 q1.2).bind fun q2 =>
    (gI q2.2 a0 9 19).bind fun v3 =>
    (pI q2.2 a0 9 24 v3).bind fun h4 =>
    F_X9_number_25  FU a0 x1 x2 q2.1 0 h4
set_option maxRecDepth 100000 in
set_option maxHeartbeats 4000000 in
theorem w_X9_number_e (X : CX RX9 cX9_number 5 (some .int) p s m args meth c G b) {out : Int32 × HP} (Z : ZI p l e RM_X9_number s m args below meth c cX9_number G b False 0 0 Q out)  : ∀ (a0 : Nat) (x1 : Int32) (x2 : Int32) (h : HP), f_X9_number_e  a0 x1 x2 h = some out → ∀ (H : Heap) (locs : List Loc) (ls : Array Slot), ST G b False s h H locs → lv_has ls 5 [(0, .ref (b + a0)), (1, .int x1), (2, .int x2)] → W p l e RM_X9_number s m args below meth c H locs 0 0 Q (F0 m 0 ls []) := by
  intro a0 x1 x2 h hf H locs ls S hl
  unfold f_X9_number_e at hf
  have hx := X.1
  have hb := X.2.1
  refine lv_aload_n hx hb dX9_number_0 rfl (lv_at hl 0 rfl) ?_
  obtain ⟨q1, e_q1, hf⟩ := ob hf
  refine r_callV X S hl.1 (As := []) (rest := []) (c_X9_fine e_q1) my_X9_fine mv_X9_fine ml_X9_69 rfl (o_X9_fine e_q1) ⟨rfl, rfl, Nat.le_of_ble_eq_true rfl, Nat.le_of_ble_eq_true rfl⟩ rfl rfl (Nat.le_of_ble_eq_true rfl) dX9_number_1 ⟨Nat.le_of_ble_eq_true rfl, Nat.le_of_ble_eq_true rfl⟩ (fun H locs S => ?_)
  refine W.eq (g2 := F0 m 4 ls [.int q1.1]) rfl ?_
  refine lv_if_ne (tgt := 9) hx hb dX9_number_4 (by decide) (fun hc => ?_) (fun hc => ?_)
  · replace hf := im hf hc
    refine lv_aload_n hx hb dX9_number_9 rfl (lv_at hl 0 rfl) ?_
    obtain ⟨q2, e_q2, hf⟩ := ob hf
    refine r_callV X S hl.1 (As := []) (rest := []) (c_X9_here e_q2) my_X9_here mv_X9_here ml_X9_79 rfl (o_X9_here e_q2) ⟨rfl, rfl, Nat.le_of_ble_eq_true rfl, Nat.le_of_ble_eq_true rfl⟩ rfl rfl (Nat.le_of_ble_eq_true rfl) dX9_number_10 ⟨Nat.le_of_ble_eq_true rfl, Nat.le_of_ble_eq_true rfl⟩ (fun H locs S => ?_)
    refine W.eq (g2 := F0 m 13 ls [.int q2.1]) rfl ?_
    refine lv_istore_n (lv' := [(3, .int q2.1), (0, .ref (b + a0)), (1, .int x1), (2, .int x2)]) hx hb dX9_number_13 rfl hl (by decide) rfl (fun ls hl => ?_)
    refine lv_aload_n hx hb dX9_number_14 rfl (lv_at hl 1 rfl) ?_
    refine lv_aload_n hx hb dX9_number_15 rfl (lv_at hl 1 rfl) ?_
    obtain ⟨v3, e_v3, hf⟩ := ob hf
    refine r_getI X S fl_X9_76 e_v3 dX9_number_16 ?_
    obtain ⟨h4, e_h4, hf⟩ := ob hf
    refine r_put X S fp_X9_83 (fun h9 => by cases h9) rfl rfl rfl e_h4 dX9_number_19 (fun H locs S => ?_)
    refine lv_iconst (v := 0) hx hb dX9_number_22 (by decide) ?_
    refine lv_istore (lv' := [(4, .int 0), (3, .int q2.1), (0, .ref (b + a0)), (1, .int x1), (2, .int x2)]) hx hb dX9_number_23 hl (by decide) rfl (fun ls hl => ?_)
    exact wl_X9_number_25 X Z  FU _ _ _ _ _ _ hf _ _ _ S (lv_sub hl [2, 3, 4, 1, 0] rfl)
  · replace hf := ip hf hc
    refine lv_iload_n hx hb dX9_number_7 rfl (lv_at hl 1 rfl) ?_
    obtain rfl := Option.some.inj hf
    exact Z _ _ _ _ dX9_number_8 S
def f_X9_number (a0 : Nat) (x1 : Int32) (x2 : Int32) (h : HP) : Option (Int32 × HP) := ck h a0 9 (f_X9_number_e a0 x1 x2 h)
theorem o_X9_number {a0 : Nat} {x1 : Int32} {x2 : Int32} {h : HP} {out : Int32 × HP} (hf : f_X9_number a0 x1 x2 h = some out) : ∃ fs, h[a0]? = some (.inl (9, fs)) := (ck_spec hf).1
set_option maxRecDepth 100000 in
theorem c_X9_number {l : Launch} {G : GT} {b : Nat} {a0 : Nat} {x1 : Int32} {x2 : Int32} {h : HP} {out : Int32 × HP} (hf : f_X9_number a0 x1 x2 h = some out) : MT l G b False False yX9_number cX9_number 5 (some .int) RM_X9_number [.ref (b + a0), .int x1, .int x2] h (some (.int out.1)) out.2 0 0 := by
  refine met_of (by decide) (Nat.le_of_ble_eq_true rfl) ?_
  intro p e s m below meth c ls X hnm S hl
  have hl : lv_has ls 5 [(0, .ref (b + a0)), (1, .int x1), (2, .int x2)] := hl
  replace hf := (ck_spec hf).2
  exact w_X9_number_e X (z_i X) _ _ _ _ hf _ _ _ S hl
/-! RoomRingsModel.sitterIn(III)I -/
abbrev RM_X9_sitterIn : Room := { frames := 0, cells := 0, slots := 0, locals := 0 }
def f_X9_sitterIn_b3 (K3 : Nat → Int32 → Int32 → Int32 → Int32 → HP → Option (Int32 × HP)) (a0 : Nat) (x1 : Int32) (x2 : Int32) (x3 : Int32) (x4 : Int32) (h : HP) : Option (Int32 × HP) :=
  if x2 ≤ x4 then
    some ((-1), h)
  else
    (gR h a0 9 0).bind fun r1 =>
    (ald h r1 ((x1 + 54) + x4)).bind fun v2 =>
    if v2 = x3 then
      some (x4, h)
    else
      K3 a0 x1 x2 x3 (x4 + 1) h
set_option maxRecDepth 100000 in
set_option maxHeartbeats 4000000 in
theorem w_X9_sitterIn_b3 (X : CX RX9 cX9_sitterIn 5 (some .int) p s m args meth c G b) {out : Int32 × HP} (Z : ZI p l e RM_X9_sitterIn s m args below meth c cX9_sitterIn G b False 0 0 Q out) {K3 : Nat → Int32 → Int32 → Int32 → Int32 → HP → Option (Int32 × HP)} (hK3 : ∀ (a0 : Nat) (x1 : Int32) (x2 : Int32) (x3 : Int32) (x4 : Int32) (h : HP), K3 a0 x1 x2 x3 x4 h = some out → ∀ (H : Heap) (locs : List Loc) (ls : Array Slot), ST G b False s h H locs → lv_has ls 5 [(0, .ref (b + a0)), (1, .int x1), (2, .int x2), (3, .int x3), (4, .int x4)] → W p l e RM_X9_sitterIn s m args below meth c H locs 0 0 Q (F0 m 3 ls [])) : ∀ (a0 : Nat) (x1 : Int32) (x2 : Int32) (x3 : Int32) (x4 : Int32) (h : HP), f_X9_sitterIn_b3 K3 a0 x1 x2 x3 x4 h = some out → ∀ (H : Heap) (locs : List Loc) (ls : Array Slot), ST G b False s h H locs → lv_has ls 5 [(0, .ref (b + a0)), (1, .int x1), (2, .int x2), (3, .int x3), (4, .int x4)] → W p l e RM_X9_sitterIn s m args below meth c H locs 0 0 Q (F0 m 3 ls []) := by
  intro a0 x1 x2 x3 x4 h hf H locs ls S hl
  unfold f_X9_sitterIn_b3 at hf
  have hx := X.1
  have hb := X.2.1
  refine lv_iload hx hb dX9_sitterIn_3 (lv_at hl 4 rfl) ?_
  refine lv_iload_n hx hb dX9_sitterIn_5 rfl (lv_at hl 2 rfl) ?_
  refine lv_icmp_ge (tgt := 34) hx hb dX9_sitterIn_6 (by decide) (fun hc => ?_) (fun hc => ?_)
  · replace hf := ip hf hc
    refine lv_iconst (v := (-1)) hx hb dX9_sitterIn_34 (by decide) ?_
    obtain rfl := Option.some.inj hf
    exact Z _ _ _ _ dX9_sitterIn_35 S
  · replace hf := im hf hc
    refine lv_aload_n hx hb dX9_sitterIn_9 rfl (lv_at hl 0 rfl) ?_
    obtain ⟨r1, e_r1, hf⟩ := ob hf
    refine r_getR X S fl_X9_7 e_r1 dX9_sitterIn_10 ?_
    refine lv_iload_n hx hb dX9_sitterIn_13 rfl (lv_at hl 1 rfl) ?_
    refine lv_bipush (v := 54) hx hb dX9_sitterIn_14 (by decide) ?_
    refine lv_iadd hx hb dX9_sitterIn_16 ?_
    refine lv_iload hx hb dX9_sitterIn_17 (lv_at hl 4 rfl) ?_
    refine lv_iadd hx hb dX9_sitterIn_19 ?_
    obtain ⟨v2, e_v2, hf⟩ := ob hf
    refine r_ald X S e_v2 dX9_sitterIn_20 ?_
    refine lv_iload_n hx hb dX9_sitterIn_21 rfl (lv_at hl 3 rfl) ?_
    refine lv_icmp_ne (tgt := 28) hx hb dX9_sitterIn_22 (by decide) (fun hc => ?_) (fun hc => ?_)
    · replace hf := im hf hc
      refine lv_iinc (v := x4 + 1) (lv' := [(4, .int (x4 + 1)), (0, .ref (b + a0)), (1, .int x1), (2, .int x2), (3, .int x3)]) hx hb dX9_sitterIn_28 hl (k := 4) rfl rfl (by decide) rfl (fun ls hl => ?_)
      refine lv_goto (tgt := 3) hx hb dX9_sitterIn_31 (by decide) ?_
      exact hK3 _ _ _ _ _ _ hf _ _ _ S (lv_sub hl [1, 2, 3, 4, 0] rfl)
    · replace hf := ip hf hc
      refine lv_iload hx hb dX9_sitterIn_25 (lv_at hl 4 rfl) ?_
      obtain rfl := Option.some.inj hf
      exact Z _ _ _ _ dX9_sitterIn_27 S
def F_X9_sitterIn_3  : Nat → Nat → Int32 → Int32 → Int32 → Int32 → HP → Option (Int32 × HP)
  | 0 => fun _ _ _ _ _ _ => none
  | n + 1 => fun a0 x1 x2 x3 x4 h => f_X9_sitterIn_b3 (F_X9_sitterIn_3  n) a0 x1 x2 x3 x4 h
theorem wl_X9_sitterIn_3 (X : CX RX9 cX9_sitterIn 5 (some .int) p s m args meth c G b) {out : Int32 × HP} (Z : ZI p l e RM_X9_sitterIn s m args below meth c cX9_sitterIn G b False 0 0 Q out)  : ∀ (n : Nat) (a0 : Nat) (x1 : Int32) (x2 : Int32) (x3 : Int32) (x4 : Int32) (h : HP), F_X9_sitterIn_3  n a0 x1 x2 x3 x4 h = some out → ∀ (H : Heap) (locs : List Loc) (ls : Array Slot), ST G b False s h H locs → lv_has ls 5 [(0, .ref (b + a0)), (1, .int x1), (2, .int x2), (3, .int x3), (4, .int x4)] → W p l e RM_X9_sitterIn s m args below meth c H locs 0 0 Q (F0 m 3 ls []) := by
  intro n
  induction n with
  | zero => intro a0 x1 x2 x3 x4 h hf; exact nn hf
  | succ n ih => exact w_X9_sitterIn_b3 X Z ih
def f_X9_sitterIn_e  (a0 : Nat) (x1 : Int32) (x2 : Int32) (x3 : Int32) (h : HP) : Option (Int32 × HP) :=
  F_X9_sitterIn_3  FU a0 x1 x2 x3 0 h
set_option maxRecDepth 100000 in
set_option maxHeartbeats 4000000 in
theorem w_X9_sitterIn_e (X : CX RX9 cX9_sitterIn 5 (some .int) p s m args meth c G b) {out : Int32 × HP} (Z : ZI p l e RM_X9_sitterIn s m args below meth c cX9_sitterIn G b False 0 0 Q out)  : ∀ (a0 : Nat) (x1 : Int32) (x2 : Int32) (x3 : Int32) (h : HP), f_X9_sitterIn_e  a0 x1 x2 x3 h = some out → ∀ (H : Heap) (locs : List Loc) (ls : Array Slot), ST G b False s h H locs → lv_has ls 5 [(0, .ref (b + a0)), (1, .int x1), (2, .int x2), (3, .int x3)] → W p l e RM_X9_sitterIn s m args below meth c H locs 0 0 Q (F0 m 0 ls []) := by
  intro a0 x1 x2 x3 h hf H locs ls S hl
  unfold f_X9_sitterIn_e at hf
  have hx := X.1
  have hb := X.2.1
  refine lv_iconst (v := 0) hx hb dX9_sitterIn_0 (by decide) ?_
  refine lv_istore (lv' := [(4, .int 0), (0, .ref (b + a0)), (1, .int x1), (2, .int x2), (3, .int x3)]) hx hb dX9_sitterIn_1 hl (by decide) rfl (fun ls hl => ?_)
  exact wl_X9_sitterIn_3 X Z  FU _ _ _ _ _ _ hf _ _ _ S (lv_sub hl [1, 2, 3, 4, 0] rfl)
def f_X9_sitterIn (a0 : Nat) (x1 : Int32) (x2 : Int32) (x3 : Int32) (h : HP) : Option (Int32 × HP) := ck h a0 9 (f_X9_sitterIn_e a0 x1 x2 x3 h)
theorem o_X9_sitterIn {a0 : Nat} {x1 : Int32} {x2 : Int32} {x3 : Int32} {h : HP} {out : Int32 × HP} (hf : f_X9_sitterIn a0 x1 x2 x3 h = some out) : ∃ fs, h[a0]? = some (.inl (9, fs)) := (ck_spec hf).1
set_option maxRecDepth 100000 in
theorem c_X9_sitterIn {l : Launch} {G : GT} {b : Nat} {a0 : Nat} {x1 : Int32} {x2 : Int32} {x3 : Int32} {h : HP} {out : Int32 × HP} (hf : f_X9_sitterIn a0 x1 x2 x3 h = some out) : MT l G b False False yX9_sitterIn cX9_sitterIn 5 (some .int) RM_X9_sitterIn [.ref (b + a0), .int x1, .int x2, .int x3] h (some (.int out.1)) out.2 0 0 := by
  refine met_of (by decide) (Nat.le_of_ble_eq_true rfl) ?_
  intro p e s m below meth c ls X hnm S hl
  have hl : lv_has ls 5 [(0, .ref (b + a0)), (1, .int x1), (2, .int x2), (3, .int x3)] := hl
  replace hf := (ck_spec hf).2
  exact w_X9_sitterIn_e X (z_i X) _ _ _ _ _ hf _ _ _ S hl
/-! RoomRingsModel.placeOfLike(III)I -/
abbrev RM_X9_placeOfLike : Room := { frames := 0, cells := 0, slots := 0, locals := 0 }
def f_X9_placeOfLike_b3 (K3 : Nat → Int32 → Int32 → Int32 → Int32 → HP → Option (Int32 × HP)) (a0 : Nat) (x1 : Int32) (x2 : Int32) (x3 : Int32) (x4 : Int32) (h : HP) : Option (Int32 × HP) :=
  (gR h a0 9 0).bind fun r1 =>
  (ald h r1 ((x1 + 48) + x2)).bind fun v2 =>
  if v2 ≤ x4 then
    some ((-1), h)
  else
    (gR h a0 9 0).bind fun r3 =>
    (ald h r3 ((x1 + (8 * x2)) + x4)).bind fun v4 =>
    if v4 = x3 then
      some (x4, h)
    else
      K3 a0 x1 x2 x3 (x4 + 1) h
set_option maxRecDepth 100000 in
set_option maxHeartbeats 4000000 in
theorem w_X9_placeOfLike_b3 (X : CX RX9 cX9_placeOfLike 5 (some .int) p s m args meth c G b) {out : Int32 × HP} (Z : ZI p l e RM_X9_placeOfLike s m args below meth c cX9_placeOfLike G b False 0 0 Q out) {K3 : Nat → Int32 → Int32 → Int32 → Int32 → HP → Option (Int32 × HP)} (hK3 : ∀ (a0 : Nat) (x1 : Int32) (x2 : Int32) (x3 : Int32) (x4 : Int32) (h : HP), K3 a0 x1 x2 x3 x4 h = some out → ∀ (H : Heap) (locs : List Loc) (ls : Array Slot), ST G b False s h H locs → lv_has ls 5 [(0, .ref (b + a0)), (1, .int x1), (2, .int x2), (3, .int x3), (4, .int x4)] → W p l e RM_X9_placeOfLike s m args below meth c H locs 0 0 Q (F0 m 3 ls [])) : ∀ (a0 : Nat) (x1 : Int32) (x2 : Int32) (x3 : Int32) (x4 : Int32) (h : HP), f_X9_placeOfLike_b3 K3 a0 x1 x2 x3 x4 h = some out → ∀ (H : Heap) (locs : List Loc) (ls : Array Slot), ST G b False s h H locs → lv_has ls 5 [(0, .ref (b + a0)), (1, .int x1), (2, .int x2), (3, .int x3), (4, .int x4)] → W p l e RM_X9_placeOfLike s m args below meth c H locs 0 0 Q (F0 m 3 ls []) := by
  intro a0 x1 x2 x3 x4 h hf H locs ls S hl
  unfold f_X9_placeOfLike_b3 at hf
  have hx := X.1
  have hb := X.2.1
  refine lv_iload hx hb dX9_placeOfLike_3 (lv_at hl 4 rfl) ?_
  refine lv_aload_n hx hb dX9_placeOfLike_5 rfl (lv_at hl 0 rfl) ?_
  obtain ⟨r1, e_r1, hf⟩ := ob hf
  refine r_getR X S fl_X9_7 e_r1 dX9_placeOfLike_6 ?_
  refine lv_iload_n hx hb dX9_placeOfLike_9 rfl (lv_at hl 1 rfl) ?_
  refine lv_bipush (v := 48) hx hb dX9_placeOfLike_10 (by decide) ?_
  refine lv_iadd hx hb dX9_placeOfLike_12 ?_
  refine lv_iload_n hx hb dX9_placeOfLike_13 rfl (lv_at hl 2 rfl) ?_
  refine lv_iadd hx hb dX9_placeOfLike_14 ?_
  obtain ⟨v2, e_v2, hf⟩ := ob hf
  refine r_ald X S e_v2 dX9_placeOfLike_15 ?_
  refine lv_icmp_ge (tgt := 46) hx hb dX9_placeOfLike_16 (by decide) (fun hc => ?_) (fun hc => ?_)
  · replace hf := ip hf hc
    refine lv_iconst (v := (-1)) hx hb dX9_placeOfLike_46 (by decide) ?_
    obtain rfl := Option.some.inj hf
    exact Z _ _ _ _ dX9_placeOfLike_47 S
  · replace hf := im hf hc
    refine lv_aload_n hx hb dX9_placeOfLike_19 rfl (lv_at hl 0 rfl) ?_
    obtain ⟨r3, e_r3, hf⟩ := ob hf
    refine r_getR X S fl_X9_7 e_r3 dX9_placeOfLike_20 ?_
    refine lv_iload_n hx hb dX9_placeOfLike_23 rfl (lv_at hl 1 rfl) ?_
    refine lv_bipush (v := 8) hx hb dX9_placeOfLike_24 (by decide) ?_
    refine lv_iload_n hx hb dX9_placeOfLike_26 rfl (lv_at hl 2 rfl) ?_
    refine lv_imul hx hb dX9_placeOfLike_27 ?_
    refine lv_iadd hx hb dX9_placeOfLike_28 ?_
    refine lv_iload hx hb dX9_placeOfLike_29 (lv_at hl 4 rfl) ?_
    refine lv_iadd hx hb dX9_placeOfLike_31 ?_
    obtain ⟨v4, e_v4, hf⟩ := ob hf
    refine r_ald X S e_v4 dX9_placeOfLike_32 ?_
    refine lv_iload_n hx hb dX9_placeOfLike_33 rfl (lv_at hl 3 rfl) ?_
    refine lv_icmp_ne (tgt := 40) hx hb dX9_placeOfLike_34 (by decide) (fun hc => ?_) (fun hc => ?_)
    · replace hf := im hf hc
      refine lv_iinc (v := x4 + 1) (lv' := [(4, .int (x4 + 1)), (0, .ref (b + a0)), (1, .int x1), (2, .int x2), (3, .int x3)]) hx hb dX9_placeOfLike_40 hl (k := 4) rfl rfl (by decide) rfl (fun ls hl => ?_)
      refine lv_goto (tgt := 3) hx hb dX9_placeOfLike_43 (by decide) ?_
      exact hK3 _ _ _ _ _ _ hf _ _ _ S (lv_sub hl [1, 2, 3, 4, 0] rfl)
    · replace hf := ip hf hc
      refine lv_iload hx hb dX9_placeOfLike_37 (lv_at hl 4 rfl) ?_
      obtain rfl := Option.some.inj hf
      exact Z _ _ _ _ dX9_placeOfLike_39 S
def F_X9_placeOfLike_3  : Nat → Nat → Int32 → Int32 → Int32 → Int32 → HP → Option (Int32 × HP)
  | 0 => fun _ _ _ _ _ _ => none
  | n + 1 => fun a0 x1 x2 x3 x4 h => f_X9_placeOfLike_b3 (F_X9_placeOfLike_3  n) a0 x1 x2 x3 x4 h
theorem wl_X9_placeOfLike_3 (X : CX RX9 cX9_placeOfLike 5 (some .int) p s m args meth c G b) {out : Int32 × HP} (Z : ZI p l e RM_X9_placeOfLike s m args below meth c cX9_placeOfLike G b False 0 0 Q out)  : ∀ (n : Nat) (a0 : Nat) (x1 : Int32) (x2 : Int32) (x3 : Int32) (x4 : Int32) (h : HP), F_X9_placeOfLike_3  n a0 x1 x2 x3 x4 h = some out → ∀ (H : Heap) (locs : List Loc) (ls : Array Slot), ST G b False s h H locs → lv_has ls 5 [(0, .ref (b + a0)), (1, .int x1), (2, .int x2), (3, .int x3), (4, .int x4)] → W p l e RM_X9_placeOfLike s m args below meth c H locs 0 0 Q (F0 m 3 ls []) := by
  intro n
  induction n with
  | zero => intro a0 x1 x2 x3 x4 h hf; exact nn hf
  | succ n ih => exact w_X9_placeOfLike_b3 X Z ih
def f_X9_placeOfLike_e  (a0 : Nat) (x1 : Int32) (x2 : Int32) (x3 : Int32) (h : HP) : Option (Int32 × HP) :=
  F_X9_placeOfLike_3  FU a0 x1 x2 x3 0 h
set_option maxRecDepth 100000 in
set_option maxHeartbeats 4000000 in
theorem w_X9_placeOfLike_e (X : CX RX9 cX9_placeOfLike 5 (some .int) p s m args meth c G b) {out : Int32 × HP} (Z : ZI p l e RM_X9_placeOfLike s m args below meth c cX9_placeOfLike G b False 0 0 Q out)  : ∀ (a0 : Nat) (x1 : Int32) (x2 : Int32) (x3 : Int32) (h : HP), f_X9_placeOfLike_e  a0 x1 x2 x3 h = some out → ∀ (H : Heap) (locs : List Loc) (ls : Array Slot), ST G b False s h H locs → lv_has ls 5 [(0, .ref (b + a0)), (1, .int x1), (2, .int x2), (3, .int x3)] → W p l e RM_X9_placeOfLike s m args below meth c H locs 0 0 Q (F0 m 0 ls []) := by
  intro a0 x1 x2 x3 h hf H locs ls S hl
  unfold f_X9_placeOfLike_e at hf
  have hx := X.1
  have hb := X.2.1
  refine lv_iconst (v := 0) hx hb dX9_placeOfLike_0 (by decide) ?_
  refine lv_istore (lv' := [(4, .int 0), (0, .ref (b + a0)), (1, .int x1), (2, .int x2), (3, .int x3)]) hx hb dX9_placeOfLike_1 hl (by decide) rfl (fun ls hl => ?_)
  exact wl_X9_placeOfLike_3 X Z  FU _ _ _ _ _ _ hf _ _ _ S (lv_sub hl [1, 2, 3, 4, 0] rfl)
def f_X9_placeOfLike (a0 : Nat) (x1 : Int32) (x2 : Int32) (x3 : Int32) (h : HP) : Option (Int32 × HP) := ck h a0 9 (f_X9_placeOfLike_e a0 x1 x2 x3 h)
theorem o_X9_placeOfLike {a0 : Nat} {x1 : Int32} {x2 : Int32} {x3 : Int32} {h : HP} {out : Int32 × HP} (hf : f_X9_placeOfLike a0 x1 x2 x3 h = some out) : ∃ fs, h[a0]? = some (.inl (9, fs)) := (ck_spec hf).1
set_option maxRecDepth 100000 in
theorem c_X9_placeOfLike {l : Launch} {G : GT} {b : Nat} {a0 : Nat} {x1 : Int32} {x2 : Int32} {x3 : Int32} {h : HP} {out : Int32 × HP} (hf : f_X9_placeOfLike a0 x1 x2 x3 h = some out) : MT l G b False False yX9_placeOfLike cX9_placeOfLike 5 (some .int) RM_X9_placeOfLike [.ref (b + a0), .int x1, .int x2, .int x3] h (some (.int out.1)) out.2 0 0 := by
  refine met_of (by decide) (Nat.le_of_ble_eq_true rfl) ?_
  intro p e s m below meth c ls X hnm S hl
  have hl : lv_has ls 5 [(0, .ref (b + a0)), (1, .int x1), (2, .int x2), (3, .int x3)] := hl
  replace hf := (ck_spec hf).2
  exact w_X9_placeOfLike_e X (z_i X) _ _ _ _ _ hf _ _ _ S hl
/-! RoomRingsModel.readLike(I)V -/
abbrev RM_X9_readLike : Room := { frames := 3, cells := 0, slots := 0, locals := 66 }
def f_X9_readLike_b87   (h : HP) : Option (HP) :=
  some h
set_option maxRecDepth 100000 in
set_option maxHeartbeats 4000000 in
theorem w_X9_readLike_b87 (X : CX RX9 cX9_readLike 3 none p s m args meth c G b) {out : HP} (Z : ZV p l e RM_X9_readLike s m args below meth c cX9_readLike G b False 0 0 Q out)  : ∀  (h : HP), f_X9_readLike_b87   h = some out → ∀ (H : Heap) (locs : List Loc) (ls : Array Slot), ST G b False s h H locs → lv_has ls 3 [] → W p l e RM_X9_readLike s m args below meth c H locs 0 0 Q (F0 m 87 ls []) := by
  intro  h hf H locs ls S hl
  unfold f_X9_readLike_b87 at hf
  have hx := X.1
  have hb := X.2.1
  obtain rfl := Option.some.inj hf
  exact Z _ _ _ _ dX9_readLike_87 S
def f_X9_readLike_b41  (a0 : Nat) (x1 : Int32) (x2 : Int32) (h : HP) : Option (HP) :=
  (f_X9_fine a0 h).bind fun q1 =>
  if q1.1 = 0 then
    f_X9_readLike_b87   q1.2
  else
    (gR q1.2 a0 9 0).bind fun r2 =>
    (gR q1.2 a0 9 0).bind fun r3 =>
    (ald q1.2 r3 (1589 + x1)).bind fun v4 =>
    (ast q1.2 r2 ((1541 + (8 * x1)) + v4) x2).bind fun h5 =>
    (gR h5 a0 9 0).bind fun r6 =>
    (ald h5 r6 (1589 + x1)).bind fun v7 =>
    (ast h5 r6 (1589 + x1) (v7 + 1)).bind fun h8 =>
    f_X9_readLike_b87   h8
set_option maxRecDepth 100000 in
set_option maxHeartbeats 4000000 in
theorem w_X9_readLike_b41 (X : CX RX9 cX9_readLike 3 none p s m args meth c G b) {out : HP} (Z : ZV p l e RM_X9_readLike s m args below meth c cX9_readLike G b False 0 0 Q out)  : ∀ (a0 : Nat) (x1 : Int32) (x2 : Int32) (h : HP), f_X9_readLike_b41  a0 x1 x2 h = some out → ∀ (H : Heap) (locs : List Loc) (ls : Array Slot), ST G b False s h H locs → lv_has ls 3 [(0, .ref (b + a0)), (1, .int x1), (2, .int x2)] → W p l e RM_X9_readLike s m args below meth c H locs 0 0 Q (F0 m 41 ls []) := by
  intro a0 x1 x2 h hf H locs ls S hl
  unfold f_X9_readLike_b41 at hf
  have hx := X.1
  have hb := X.2.1
  refine lv_aload_n hx hb dX9_readLike_41 rfl (lv_at hl 0 rfl) ?_
  obtain ⟨q1, e_q1, hf⟩ := ob hf
  refine r_callV X S hl.1 (As := []) (rest := []) (c_X9_fine e_q1) my_X9_fine mv_X9_fine ml_X9_69 rfl (o_X9_fine e_q1) ⟨rfl, rfl, Nat.le_of_ble_eq_true rfl, Nat.le_of_ble_eq_true rfl⟩ rfl rfl (Nat.le_of_ble_eq_true rfl) dX9_readLike_42 ⟨Nat.le_of_ble_eq_true rfl, Nat.le_of_ble_eq_true rfl⟩ (fun H locs S => ?_)
  refine W.eq (g2 := F0 m 45 ls [.int q1.1]) rfl ?_
  refine lv_if_eq (tgt := 87) hx hb dX9_readLike_45 (by decide) (fun hc => ?_) (fun hc => ?_)
  · replace hf := ip hf hc
    exact w_X9_readLike_b87 X Z  _ hf _ _ _ S (lv_sub hl [] rfl)
  · replace hf := im hf hc
    refine lv_aload_n hx hb dX9_readLike_48 rfl (lv_at hl 0 rfl) ?_
    obtain ⟨r2, e_r2, hf⟩ := ob hf
    refine r_getR X S fl_X9_7 e_r2 dX9_readLike_49 ?_
    refine lv_sipush (v := 1541) hx hb dX9_readLike_52 (by decide) ?_
    refine lv_bipush (v := 8) hx hb dX9_readLike_55 (by decide) ?_
    refine lv_iload_n hx hb dX9_readLike_57 rfl (lv_at hl 1 rfl) ?_
    refine lv_imul hx hb dX9_readLike_58 ?_
    refine lv_iadd hx hb dX9_readLike_59 ?_
    refine lv_aload_n hx hb dX9_readLike_60 rfl (lv_at hl 0 rfl) ?_
    obtain ⟨r3, e_r3, hf⟩ := ob hf
    refine r_getR X S fl_X9_7 e_r3 dX9_readLike_61 ?_
    refine lv_sipush (v := 1589) hx hb dX9_readLike_64 (by decide) ?_
    refine lv_iload_n hx hb dX9_readLike_67 rfl (lv_at hl 1 rfl) ?_
    refine lv_iadd hx hb dX9_readLike_68 ?_
    obtain ⟨v4, e_v4, hf⟩ := ob hf
    refine r_ald X S e_v4 dX9_readLike_69 ?_
    refine lv_iadd hx hb dX9_readLike_70 ?_
    refine lv_iload_n hx hb dX9_readLike_71 rfl (lv_at hl 2 rfl) ?_
    obtain ⟨h5, e_h5, hf⟩ := ob hf
    refine r_ast X S e_h5 dX9_readLike_72 (fun H locs S => ?_)
    refine lv_aload_n hx hb dX9_readLike_73 rfl (lv_at hl 0 rfl) ?_
    obtain ⟨r6, e_r6, hf⟩ := ob hf
    refine r_getR X S fl_X9_7 e_r6 dX9_readLike_74 ?_
    refine lv_sipush (v := 1589) hx hb dX9_readLike_77 (by decide) ?_
    refine lv_iload_n hx hb dX9_readLike_80 rfl (lv_at hl 1 rfl) ?_
    refine lv_iadd hx hb dX9_readLike_81 ?_
    refine lv_dup2_11 hx hb dX9_readLike_82 rfl rfl ?_
    obtain ⟨v7, e_v7, hf⟩ := ob hf
    refine r_ald X S e_v7 dX9_readLike_83 ?_
    refine lv_iconst (v := 1) hx hb dX9_readLike_84 (by decide) ?_
    refine lv_iadd hx hb dX9_readLike_85 ?_
    obtain ⟨h8, e_h8, hf⟩ := ob hf
    refine r_ast X S e_h8 dX9_readLike_86 (fun H locs S => ?_)
    exact w_X9_readLike_b87 X Z  _ hf _ _ _ S (lv_sub hl [] rfl)
def f_X9_readLike_e  (a0 : Nat) (x1 : Int32) (h : HP) : Option (HP) :=
  (gI h a0 9 22).bind fun v1 =>
  (f_X9_number a0 0 (v1 - 1) h).bind fun q2 =>
  (f_X9_fine a0 q2.2).bind fun q3 =>
  if q3.1 = 0 then
    f_X9_readLike_b41  a0 x1 q2.1 q3.2
  else
    (f_X9_placeOfLike a0 1541 x1 q2.1 q3.2).bind fun q4 =>
    if q4.1 = (-1) then
      f_X9_readLike_b41  a0 x1 q2.1 q4.2
    else
      (gI q4.2 a0 9 24).bind fun v5 =>
      (f_X9_fail a0 4 v5 q4.2).bind fun h6 =>
      f_X9_readLike_b41  a0 x1 q2.1 h6
set_option maxRecDepth 100000 in
set_option maxHeartbeats 4000000 in
theorem w_X9_readLike_e (X : CX RX9 cX9_readLike 3 none p s m args meth c G b) {out : HP} (Z : ZV p l e RM_X9_readLike s m args below meth c cX9_readLike G b False 0 0 Q out)  : ∀ (a0 : Nat) (x1 : Int32) (h : HP), f_X9_readLike_e  a0 x1 h = some out → ∀ (H : Heap) (locs : List Loc) (ls : Array Slot), ST G b False s h H locs → lv_has ls 3 [(0, .ref (b + a0)), (1, .int x1)] → W p l e RM_X9_readLike s m args below meth c H locs 0 0 Q (F0 m 0 ls []) := by
  intro a0 x1 h hf H locs ls S hl
  unfold f_X9_readLike_e at hf
  have hx := X.1
  have hb := X.2.1
  refine lv_aload_n hx hb dX9_readLike_0 rfl (lv_at hl 0 rfl) ?_
  refine lv_iconst (v := 0) hx hb dX9_readLike_1 (by decide) ?_
  refine lv_aload_n hx hb dX9_readLike_2 rfl (lv_at hl 0 rfl) ?_
  obtain ⟨v1, e_v1, hf⟩ := ob hf
  refine r_getI X S fl_X9_90 e_v1 dX9_readLike_3 ?_
  refine lv_iconst (v := 1) hx hb dX9_readLike_6 (by decide) ?_
  refine lv_isub hx hb dX9_readLike_7 ?_
  obtain ⟨q2, e_q2, hf⟩ := ob hf
  refine r_callV X S hl.1 (As := [.int 0, .int (v1 - 1)]) (rest := []) (c_X9_number e_q2) my_X9_number mv_X9_number ml_X9_93 rfl (o_X9_number e_q2) ⟨rfl, rfl, Nat.le_of_ble_eq_true rfl, Nat.le_of_ble_eq_true rfl⟩ rfl rfl (Nat.le_of_ble_eq_true rfl) dX9_readLike_8 ⟨Nat.le_of_ble_eq_true rfl, Nat.le_of_ble_eq_true rfl⟩ (fun H locs S => ?_)
  refine W.eq (g2 := F0 m 11 ls [.int q2.1]) rfl ?_
  refine lv_istore_n (lv' := [(2, .int q2.1), (0, .ref (b + a0)), (1, .int x1)]) hx hb dX9_readLike_11 rfl hl (by decide) rfl (fun ls hl => ?_)
  refine lv_aload_n hx hb dX9_readLike_12 rfl (lv_at hl 1 rfl) ?_
  obtain ⟨q3, e_q3, hf⟩ := ob hf
  refine r_callV X S hl.1 (As := []) (rest := []) (c_X9_fine e_q3) my_X9_fine mv_X9_fine ml_X9_69 rfl (o_X9_fine e_q3) ⟨rfl, rfl, Nat.le_of_ble_eq_true rfl, Nat.le_of_ble_eq_true rfl⟩ rfl rfl (Nat.le_of_ble_eq_true rfl) dX9_readLike_13 ⟨Nat.le_of_ble_eq_true rfl, Nat.le_of_ble_eq_true rfl⟩ (fun H locs S => ?_)
  refine W.eq (g2 := F0 m 16 ls [.int q3.1]) rfl ?_
  refine lv_if_eq (tgt := 41) hx hb dX9_readLike_16 (by decide) (fun hc => ?_) (fun hc => ?_)
  · replace hf := ip hf hc
    exact w_X9_readLike_b41 X Z  _ _ _ _ hf _ _ _ S (lv_sub hl [1, 2, 0] rfl)
  · replace hf := im hf hc
    refine lv_aload_n hx hb dX9_readLike_19 rfl (lv_at hl 1 rfl) ?_
    refine lv_sipush (v := 1541) hx hb dX9_readLike_20 (by decide) ?_
    refine lv_iload_n hx hb dX9_readLike_23 rfl (lv_at hl 2 rfl) ?_
    refine lv_iload_n hx hb dX9_readLike_24 rfl (lv_at hl 0 rfl) ?_
    obtain ⟨q4, e_q4, hf⟩ := ob hf
    refine r_callV X S hl.1 (As := [.int 1541, .int x1, .int q2.1]) (rest := []) (c_X9_placeOfLike e_q4) my_X9_placeOfLike mv_X9_placeOfLike ml_X9_97 rfl (o_X9_placeOfLike e_q4) ⟨rfl, rfl, Nat.le_of_ble_eq_true rfl, Nat.le_of_ble_eq_true rfl⟩ rfl rfl (Nat.le_of_ble_eq_true rfl) dX9_readLike_25 ⟨Nat.le_of_ble_eq_true rfl, Nat.le_of_ble_eq_true rfl⟩ (fun H locs S => ?_)
    refine W.eq (g2 := F0 m 28 ls [.int q4.1]) rfl ?_
    refine lv_iconst (v := (-1)) hx hb dX9_readLike_28 (by decide) ?_
    refine lv_icmp_eq (tgt := 41) hx hb dX9_readLike_29 (by decide) (fun hc => ?_) (fun hc => ?_)
    · replace hf := ip hf hc
      exact w_X9_readLike_b41 X Z  _ _ _ _ hf _ _ _ S (lv_sub hl [1, 2, 0] rfl)
    · replace hf := im hf hc
      refine lv_aload_n hx hb dX9_readLike_32 rfl (lv_at hl 1 rfl) ?_
      refine lv_iconst (v := 4) hx hb dX9_readLike_33 (by decide) ?_
      refine lv_aload_n hx hb dX9_readLike_34 rfl (lv_at hl 1 rfl) ?_
      obtain ⟨v5, e_v5, hf⟩ := ob hf
      refine r_getI X S fl_X9_83 e_v5 dX9_readLike_35 ?_
      obtain ⟨h6, e_h6, hf⟩ := ob hf
      refine r_callV X S hl.1 (As := [.int 4, .int v5]) (rest := []) (c_X9_fail e_h6) my_X9_fail mv_X9_fail ml_X9_86 rfl (o_X9_fail e_h6) ⟨rfl, rfl, Nat.le_of_ble_eq_true rfl, Nat.le_of_ble_eq_true rfl⟩ rfl rfl (Nat.le_of_ble_eq_true rfl) dX9_readLike_38 ⟨Nat.le_of_ble_eq_true rfl, Nat.le_of_ble_eq_true rfl⟩ (fun H locs S => ?_)
      refine W.eq (g2 := F0 m 41 ls []) rfl ?_
      exact w_X9_readLike_b41 X Z  _ _ _ _ hf _ _ _ S (lv_sub hl [1, 2, 0] rfl)
def f_X9_readLike (a0 : Nat) (x1 : Int32) (h : HP) : Option (HP) := ck h a0 9 (f_X9_readLike_e a0 x1 h)
theorem o_X9_readLike {a0 : Nat} {x1 : Int32} {h : HP} {out : HP} (hf : f_X9_readLike a0 x1 h = some out) : ∃ fs, h[a0]? = some (.inl (9, fs)) := (ck_spec hf).1
set_option maxRecDepth 100000 in
theorem c_X9_readLike {l : Launch} {G : GT} {b : Nat} {a0 : Nat} {x1 : Int32} {h : HP} {out : HP} (hf : f_X9_readLike a0 x1 h = some out) : MT l G b False False yX9_readLike cX9_readLike 3 none RM_X9_readLike [.ref (b + a0), .int x1] h none out 0 0 := by
  refine met_of (by decide) (Nat.le_of_ble_eq_true rfl) ?_
  intro p e s m below meth c ls X hnm S hl
  have hl : lv_has ls 3 [(0, .ref (b + a0)), (1, .int x1)] := hl
  replace hf := (ck_spec hf).2
  exact w_X9_readLike_e X (z_v X) _ _ _ hf _ _ _ S hl
/-! RoomRingsModel.readPerson(I)V -/
abbrev RM_X9_readPerson : Room := { frames := 4, cells := 0, slots := 0, locals := 88 }
def f_X9_readPerson_b127  (a0 : Nat) (h : HP) : Option (HP) :=
  (gI h a0 9 23).bind fun v1 =>
  (pI h a0 9 23 (v1 + 1)).bind fun h2 =>
  some h2
set_option maxRecDepth 100000 in
set_option maxHeartbeats 4000000 in
theorem w_X9_readPerson_b127 (X : CX RX9 cX9_readPerson 4 none p s m args meth c G b) {out : HP} (Z : ZV p l e RM_X9_readPerson s m args below meth c cX9_readPerson G b False 0 0 Q out)  : ∀ (a0 : Nat) (h : HP), f_X9_readPerson_b127  a0 h = some out → ∀ (H : Heap) (locs : List Loc) (ls : Array Slot), ST G b False s h H locs → lv_has ls 4 [(0, .ref (b + a0))] → W p l e RM_X9_readPerson s m args below meth c H locs 0 0 Q (F0 m 127 ls []) := by
  intro a0 h hf H locs ls S hl
  unfold f_X9_readPerson_b127 at hf
  have hx := X.1
  have hb := X.2.1
  refine lv_aload_n hx hb dX9_readPerson_127 rfl (lv_at hl 0 rfl) ?_
  refine lv_dup hx hb dX9_readPerson_128 rfl ?_
  obtain ⟨v1, e_v1, hf⟩ := ob hf
  refine r_getI X S fl_X9_101 e_v1 dX9_readPerson_129 ?_
  refine lv_iconst (v := 1) hx hb dX9_readPerson_132 (by decide) ?_
  refine lv_iadd hx hb dX9_readPerson_133 ?_
  obtain ⟨h2, e_h2, hf⟩ := ob hf
  refine r_put X S fp_X9_101 (fun h9 => by cases h9) rfl rfl rfl e_h2 dX9_readPerson_134 (fun H locs S => ?_)
  obtain rfl := Option.some.inj hf
  exact Z _ _ _ _ dX9_readPerson_137 S
def f_X9_readPerson_b93 (K93 : Nat → Int32 → HP → Option (HP)) (a0 : Nat) (x2 : Int32) (h : HP) : Option (HP) :=
  (f_X9_fine a0 h).bind fun q1 =>
  if q1.1 = 0 then
    f_X9_readPerson_b127  a0 q1.2
  else
    (f_X9_here a0 q1.2).bind fun q2 =>
    if q2.1 = 44 then
      (gI q2.2 a0 9 19).bind fun v3 =>
      (pI q2.2 a0 9 19 (v3 + 1)).bind fun h4 =>
      (f_X9_readLike a0 x2 h4).bind fun h5 =>
      K93 a0 x2 h5
    else
      f_X9_readPerson_b127  a0 q2.2
set_option maxRecDepth 100000 in
set_option maxHeartbeats 4000000 in
theorem w_X9_readPerson_b93 (X : CX RX9 cX9_readPerson 4 none p s m args meth c G b) {out : HP} (Z : ZV p l e RM_X9_readPerson s m args below meth c cX9_readPerson G b False 0 0 Q out) {K93 : Nat → Int32 → HP → Option (HP)} (hK93 : ∀ (a0 : Nat) (x2 : Int32) (h : HP), K93 a0 x2 h = some out → ∀ (H : Heap) (locs : List Loc) (ls : Array Slot), ST G b False s h H locs → lv_has ls 4 [(0, .ref (b + a0)), (2, .int x2)] → W p l e RM_X9_readPerson s m args below meth c H locs 0 0 Q (F0 m 93 ls [])) : ∀ (a0 : Nat) (x2 : Int32) (h : HP), f_X9_readPerson_b93 K93 a0 x2 h = some out → ∀ (H : Heap) (locs : List Loc) (ls : Array Slot), ST G b False s h H locs → lv_has ls 4 [(0, .ref (b + a0)), (2, .int x2)] → W p l e RM_X9_readPerson s m args below meth c H locs 0 0 Q (F0 m 93 ls []) := by
  intro a0 x2 h hf H locs ls S hl
  unfold f_X9_readPerson_b93 at hf
  have hx := X.1
  have hb := X.2.1
  refine lv_aload_n hx hb dX9_readPerson_93 rfl (lv_at hl 0 rfl) ?_
  obtain ⟨q1, e_q1, hf⟩ := ob hf
  refine r_callV X S hl.1 (As := []) (rest := []) (c_X9_fine e_q1) my_X9_fine mv_X9_fine ml_X9_69 rfl (o_X9_fine e_q1) ⟨rfl, rfl, Nat.le_of_ble_eq_true rfl, Nat.le_of_ble_eq_true rfl⟩ rfl rfl (Nat.le_of_ble_eq_true rfl) dX9_readPerson_94 ⟨Nat.le_of_ble_eq_true rfl, Nat.le_of_ble_eq_true rfl⟩ (fun H locs S => ?_)
  refine W.eq (g2 := F0 m 97 ls [.int q1.1]) rfl ?_
  refine lv_if_eq (tgt := 127) hx hb dX9_readPerson_97 (by decide) (fun hc => ?_) (fun hc => ?_)
  · replace hf := ip hf hc
    exact w_X9_readPerson_b127 X Z  _ _ hf _ _ _ S (lv_sub hl [0] rfl)
  · replace hf := im hf hc
    refine lv_aload_n hx hb dX9_readPerson_100 rfl (lv_at hl 0 rfl) ?_
    obtain ⟨q2, e_q2, hf⟩ := ob hf
    refine r_callV X S hl.1 (As := []) (rest := []) (c_X9_here e_q2) my_X9_here mv_X9_here ml_X9_79 rfl (o_X9_here e_q2) ⟨rfl, rfl, Nat.le_of_ble_eq_true rfl, Nat.le_of_ble_eq_true rfl⟩ rfl rfl (Nat.le_of_ble_eq_true rfl) dX9_readPerson_101 ⟨Nat.le_of_ble_eq_true rfl, Nat.le_of_ble_eq_true rfl⟩ (fun H locs S => ?_)
    refine W.eq (g2 := F0 m 104 ls [.int q2.1]) rfl ?_
    refine lv_bipush (v := 44) hx hb dX9_readPerson_104 (by decide) ?_
    refine lv_icmp_ne (tgt := 127) hx hb dX9_readPerson_106 (by decide) (fun hc => ?_) (fun hc => ?_)
    · replace hf := im hf hc
      exact w_X9_readPerson_b127 X Z  _ _ hf _ _ _ S (lv_sub hl [0] rfl)
    · replace hf := ip hf hc
      refine lv_aload_n hx hb dX9_readPerson_109 rfl (lv_at hl 0 rfl) ?_
      refine lv_dup hx hb dX9_readPerson_110 rfl ?_
      obtain ⟨v3, e_v3, hf⟩ := ob hf
      refine r_getI X S fl_X9_76 e_v3 dX9_readPerson_111 ?_
      refine lv_iconst (v := 1) hx hb dX9_readPerson_114 (by decide) ?_
      refine lv_iadd hx hb dX9_readPerson_115 ?_
      obtain ⟨h4, e_h4, hf⟩ := ob hf
      refine r_put X S fp_X9_76 (fun h9 => by cases h9) rfl rfl rfl e_h4 dX9_readPerson_116 (fun H locs S => ?_)
      refine lv_aload_n hx hb dX9_readPerson_119 rfl (lv_at hl 0 rfl) ?_
      refine lv_iload_n hx hb dX9_readPerson_120 rfl (lv_at hl 1 rfl) ?_
      obtain ⟨h5, e_h5, hf⟩ := ob hf
      refine r_callV X S hl.1 (As := [.int x2]) (rest := []) (c_X9_readLike e_h5) my_X9_readLike mv_X9_readLike ml_X9_107 rfl (o_X9_readLike e_h5) ⟨rfl, rfl, Nat.le_of_ble_eq_true rfl, Nat.le_of_ble_eq_true rfl⟩ rfl rfl (Nat.le_of_ble_eq_true rfl) dX9_readPerson_121 ⟨Nat.le_of_ble_eq_true rfl, Nat.le_of_ble_eq_true rfl⟩ (fun H locs S => ?_)
      refine W.eq (g2 := F0 m 124 ls []) rfl ?_
      refine lv_goto (tgt := 93) hx hb dX9_readPerson_124 (by decide) ?_
      exact hK93 _ _ _ hf _ _ _ S (lv_sub hl [0, 1] rfl)
def F_X9_readPerson_93  : Nat → Nat → Int32 → HP → Option (HP)
  | 0 => fun _ _ _ => none
  | n + 1 => fun a0 x2 h => f_X9_readPerson_b93 (F_X9_readPerson_93  n) a0 x2 h
theorem wl_X9_readPerson_93 (X : CX RX9 cX9_readPerson 4 none p s m args meth c G b) {out : HP} (Z : ZV p l e RM_X9_readPerson s m args below meth c cX9_readPerson G b False 0 0 Q out)  : ∀ (n : Nat) (a0 : Nat) (x2 : Int32) (h : HP), F_X9_readPerson_93  n a0 x2 h = some out → ∀ (H : Heap) (locs : List Loc) (ls : Array Slot), ST G b False s h H locs → lv_has ls 4 [(0, .ref (b + a0)), (2, .int x2)] → W p l e RM_X9_readPerson s m args below meth c H locs 0 0 Q (F0 m 93 ls []) := by
  intro n
  induction n with
  | zero => intro a0 x2 h hf; exact nn hf
  | succ n ih => exact w_X9_readPerson_b93 X Z ih
def f_X9_readPerson_b74  (a0 : Nat) (x2 : Int32) (x3 : Int32) (h : HP) : Option (HP) :=
  (gR h a0 9 0).bind fun r1 =>
  (ast h r1 (1595 + x2) x3).bind fun h2 =>
  F_X9_readPerson_93  FU a0 x2 h2
set_option maxRecDepth 100000 in
set_option maxHeartbeats 4000000 in
theorem w_X9_readPerson_b74 (X : CX RX9 cX9_readPerson 4 none p s m args meth c G b) {out : HP} (Z : ZV p l e RM_X9_readPerson s m args below meth c cX9_readPerson G b False 0 0 Q out)  : ∀ (a0 : Nat) (x2 : Int32) (x3 : Int32) (h : HP), f_X9_readPerson_b74  a0 x2 x3 h = some out → ∀ (H : Heap) (locs : List Loc) (ls : Array Slot), ST G b False s h H locs → lv_has ls 4 [(0, .ref (b + a0)), (2, .int x2), (3, .int x3)] → W p l e RM_X9_readPerson s m args below meth c H locs 0 0 Q (F0 m 74 ls []) := by
  intro a0 x2 x3 h hf H locs ls S hl
  unfold f_X9_readPerson_b74 at hf
  have hx := X.1
  have hb := X.2.1
  refine lv_aload_n hx hb dX9_readPerson_74 rfl (lv_at hl 0 rfl) ?_
  obtain ⟨r1, e_r1, hf⟩ := ob hf
  refine r_getR X S fl_X9_7 e_r1 dX9_readPerson_75 ?_
  refine lv_sipush (v := 1595) hx hb dX9_readPerson_78 (by decide) ?_
  refine lv_iload_n hx hb dX9_readPerson_81 rfl (lv_at hl 1 rfl) ?_
  refine lv_iadd hx hb dX9_readPerson_82 ?_
  refine lv_iload_n hx hb dX9_readPerson_83 rfl (lv_at hl 2 rfl) ?_
  obtain ⟨h2, e_h2, hf⟩ := ob hf
  refine r_ast X S e_h2 dX9_readPerson_84 (fun H locs S => ?_)
  refine lv_goto (tgt := 93) hx hb dX9_readPerson_85 (by decide) ?_
  exact wl_X9_readPerson_93 X Z  FU _ _ _ hf _ _ _ S (lv_sub hl [0, 1] rfl)
def f_X9_readPerson_e  (a0 : Nat) (x1 : Int32) (h : HP) : Option (HP) :=
  (gI h a0 9 23).bind fun v1 =>
  (gR h a0 9 0).bind fun r2 =>
  (ast h r2 (1589 + v1) 0).bind fun h3 =>
  (gR h3 a0 9 0).bind fun r4 =>
  (ast h3 r4 (1595 + v1) (-1)).bind fun h5 =>
  if x1 = 116 then
    (gI h5 a0 9 22).bind fun v6 =>
    (f_X9_number a0 0 (v6 - 1) h5).bind fun q7 =>
    (f_X9_fine a0 q7.2).bind fun q8 =>
    if q8.1 = 0 then
      f_X9_readPerson_b74  a0 v1 q7.1 q8.2
    else
      (f_X9_sitterIn a0 1541 v1 q7.1 q8.2).bind fun q9 =>
      if q9.1 = (-1) then
        f_X9_readPerson_b74  a0 v1 q7.1 q9.2
      else
        (gI q9.2 a0 9 24).bind fun v10 =>
        (f_X9_fail a0 4 v10 q9.2).bind fun h11 =>
        f_X9_readPerson_b74  a0 v1 q7.1 h11
  else
    (f_X9_readLike a0 v1 h5).bind fun h12 =>
    F_X9_readPerson_93  FU a0 v1 h12
set_option maxRecDepth 100000 in
set_option maxHeartbeats 4000000 in
theorem w_X9_readPerson_e (X : CX RX9 cX9_readPerson 4 none p s m args meth c G b) {out : HP} (Z : ZV p l e RM_X9_readPerson s m args below meth c cX9_readPerson G b False 0 0 Q out)  : ∀ (a0 : Nat) (x1 : Int32) (h : HP), f_X9_readPerson_e  a0 x1 h = some out → ∀ (H : Heap) (locs : List Loc) (ls : Array Slot), ST G b False s h H locs → lv_has ls 4 [(0, .ref (b + a0)), (1, .int x1)] → W p l e RM_X9_readPerson s m args below meth c H locs 0 0 Q (F0 m 0 ls []) := by
  intro a0 x1 h hf H locs ls S hl
  unfold f_X9_readPerson_e at hf
  have hx := X.1
  have hb := X.2.1
  refine lv_aload_n hx hb dX9_readPerson_0 rfl (lv_at hl 0 rfl) ?_
  obtain ⟨v1, e_v1, hf⟩ := ob hf
  refine r_getI X S fl_X9_101 e_v1 dX9_readPerson_1 ?_
  refine lv_istore_n (lv' := [(2, .int v1), (0, .ref (b + a0)), (1, .int x1)]) hx hb dX9_readPerson_4 rfl hl (by decide) rfl (fun ls hl => ?_)
  refine lv_aload_n hx hb dX9_readPerson_5 rfl (lv_at hl 1 rfl) ?_
  obtain ⟨r2, e_r2, hf⟩ := ob hf
  refine r_getR X S fl_X9_7 e_r2 dX9_readPerson_6 ?_
  refine lv_sipush (v := 1589) hx hb dX9_readPerson_9 (by decide) ?_
  refine lv_iload_n hx hb dX9_readPerson_12 rfl (lv_at hl 0 rfl) ?_
  refine lv_iadd hx hb dX9_readPerson_13 ?_
  refine lv_iconst (v := 0) hx hb dX9_readPerson_14 (by decide) ?_
  obtain ⟨h3, e_h3, hf⟩ := ob hf
  refine r_ast X S e_h3 dX9_readPerson_15 (fun H locs S => ?_)
  refine lv_aload_n hx hb dX9_readPerson_16 rfl (lv_at hl 1 rfl) ?_
  obtain ⟨r4, e_r4, hf⟩ := ob hf
  refine r_getR X S fl_X9_7 e_r4 dX9_readPerson_17 ?_
  refine lv_sipush (v := 1595) hx hb dX9_readPerson_20 (by decide) ?_
  refine lv_iload_n hx hb dX9_readPerson_23 rfl (lv_at hl 0 rfl) ?_
  refine lv_iadd hx hb dX9_readPerson_24 ?_
  refine lv_iconst (v := (-1)) hx hb dX9_readPerson_25 (by decide) ?_
  obtain ⟨h5, e_h5, hf⟩ := ob hf
  refine r_ast X S e_h5 dX9_readPerson_26 (fun H locs S => ?_)
  refine lv_iload_n hx hb dX9_readPerson_27 rfl (lv_at hl 2 rfl) ?_
  refine lv_bipush (v := 116) hx hb dX9_readPerson_28 (by decide) ?_
  refine lv_icmp_ne (tgt := 88) hx hb dX9_readPerson_30 (by decide) (fun hc => ?_) (fun hc => ?_)
  · replace hf := im hf hc
    refine lv_aload_n hx hb dX9_readPerson_88 rfl (lv_at hl 1 rfl) ?_
    refine lv_iload_n hx hb dX9_readPerson_89 rfl (lv_at hl 0 rfl) ?_
    obtain ⟨h12, e_h12, hf⟩ := ob hf
    refine r_callV X S hl.1 (As := [.int v1]) (rest := []) (c_X9_readLike e_h12) my_X9_readLike mv_X9_readLike ml_X9_107 rfl (o_X9_readLike e_h12) ⟨rfl, rfl, Nat.le_of_ble_eq_true rfl, Nat.le_of_ble_eq_true rfl⟩ rfl rfl (Nat.le_of_ble_eq_true rfl) dX9_readPerson_90 ⟨Nat.le_of_ble_eq_true rfl, Nat.le_of_ble_eq_true rfl⟩ (fun H locs S => ?_)
    refine W.eq (g2 := F0 m 93 ls []) rfl ?_
    exact wl_X9_readPerson_93 X Z  FU _ _ _ hf _ _ _ S (lv_sub hl [1, 0] rfl)
  · replace hf := ip hf hc
    refine lv_aload_n hx hb dX9_readPerson_33 rfl (lv_at hl 1 rfl) ?_
    refine lv_iconst (v := 0) hx hb dX9_readPerson_34 (by decide) ?_
    refine lv_aload_n hx hb dX9_readPerson_35 rfl (lv_at hl 1 rfl) ?_
    obtain ⟨v6, e_v6, hf⟩ := ob hf
    refine r_getI X S fl_X9_90 e_v6 dX9_readPerson_36 ?_
    refine lv_iconst (v := 1) hx hb dX9_readPerson_39 (by decide) ?_
    refine lv_isub hx hb dX9_readPerson_40 ?_
    obtain ⟨q7, e_q7, hf⟩ := ob hf
    refine r_callV X S hl.1 (As := [.int 0, .int (v6 - 1)]) (rest := []) (c_X9_number e_q7) my_X9_number mv_X9_number ml_X9_93 rfl (o_X9_number e_q7) ⟨rfl, rfl, Nat.le_of_ble_eq_true rfl, Nat.le_of_ble_eq_true rfl⟩ rfl rfl (Nat.le_of_ble_eq_true rfl) dX9_readPerson_41 ⟨Nat.le_of_ble_eq_true rfl, Nat.le_of_ble_eq_true rfl⟩ (fun H locs S => ?_)
    refine W.eq (g2 := F0 m 44 ls [.int q7.1]) rfl ?_
    refine lv_istore_n (lv' := [(3, .int q7.1), (2, .int v1), (0, .ref (b + a0)), (1, .int x1)]) hx hb dX9_readPerson_44 rfl hl (by decide) rfl (fun ls hl => ?_)
    refine lv_aload_n hx hb dX9_readPerson_45 rfl (lv_at hl 2 rfl) ?_
    obtain ⟨q8, e_q8, hf⟩ := ob hf
    refine r_callV X S hl.1 (As := []) (rest := []) (c_X9_fine e_q8) my_X9_fine mv_X9_fine ml_X9_69 rfl (o_X9_fine e_q8) ⟨rfl, rfl, Nat.le_of_ble_eq_true rfl, Nat.le_of_ble_eq_true rfl⟩ rfl rfl (Nat.le_of_ble_eq_true rfl) dX9_readPerson_46 ⟨Nat.le_of_ble_eq_true rfl, Nat.le_of_ble_eq_true rfl⟩ (fun H locs S => ?_)
    refine W.eq (g2 := F0 m 49 ls [.int q8.1]) rfl ?_
    refine lv_if_eq (tgt := 74) hx hb dX9_readPerson_49 (by decide) (fun hc => ?_) (fun hc => ?_)
    · replace hf := ip hf hc
      exact w_X9_readPerson_b74 X Z  _ _ _ _ hf _ _ _ S (lv_sub hl [2, 1, 0] rfl)
    · replace hf := im hf hc
      refine lv_aload_n hx hb dX9_readPerson_52 rfl (lv_at hl 2 rfl) ?_
      refine lv_sipush (v := 1541) hx hb dX9_readPerson_53 (by decide) ?_
      refine lv_iload_n hx hb dX9_readPerson_56 rfl (lv_at hl 1 rfl) ?_
      refine lv_iload_n hx hb dX9_readPerson_57 rfl (lv_at hl 0 rfl) ?_
      obtain ⟨q9, e_q9, hf⟩ := ob hf
      refine r_callV X S hl.1 (As := [.int 1541, .int v1, .int q7.1]) (rest := []) (c_X9_sitterIn e_q9) my_X9_sitterIn mv_X9_sitterIn ml_X9_104 rfl (o_X9_sitterIn e_q9) ⟨rfl, rfl, Nat.le_of_ble_eq_true rfl, Nat.le_of_ble_eq_true rfl⟩ rfl rfl (Nat.le_of_ble_eq_true rfl) dX9_readPerson_58 ⟨Nat.le_of_ble_eq_true rfl, Nat.le_of_ble_eq_true rfl⟩ (fun H locs S => ?_)
      refine W.eq (g2 := F0 m 61 ls [.int q9.1]) rfl ?_
      refine lv_iconst (v := (-1)) hx hb dX9_readPerson_61 (by decide) ?_
      refine lv_icmp_eq (tgt := 74) hx hb dX9_readPerson_62 (by decide) (fun hc => ?_) (fun hc => ?_)
      · replace hf := ip hf hc
        exact w_X9_readPerson_b74 X Z  _ _ _ _ hf _ _ _ S (lv_sub hl [2, 1, 0] rfl)
      · replace hf := im hf hc
        refine lv_aload_n hx hb dX9_readPerson_65 rfl (lv_at hl 2 rfl) ?_
        refine lv_iconst (v := 4) hx hb dX9_readPerson_66 (by decide) ?_
        refine lv_aload_n hx hb dX9_readPerson_67 rfl (lv_at hl 2 rfl) ?_
        obtain ⟨v10, e_v10, hf⟩ := ob hf
        refine r_getI X S fl_X9_83 e_v10 dX9_readPerson_68 ?_
        obtain ⟨h11, e_h11, hf⟩ := ob hf
        refine r_callV X S hl.1 (As := [.int 4, .int v10]) (rest := []) (c_X9_fail e_h11) my_X9_fail mv_X9_fail ml_X9_86 rfl (o_X9_fail e_h11) ⟨rfl, rfl, Nat.le_of_ble_eq_true rfl, Nat.le_of_ble_eq_true rfl⟩ rfl rfl (Nat.le_of_ble_eq_true rfl) dX9_readPerson_71 ⟨Nat.le_of_ble_eq_true rfl, Nat.le_of_ble_eq_true rfl⟩ (fun H locs S => ?_)
        refine W.eq (g2 := F0 m 74 ls []) rfl ?_
        exact w_X9_readPerson_b74 X Z  _ _ _ _ hf _ _ _ S (lv_sub hl [2, 1, 0] rfl)
def f_X9_readPerson (a0 : Nat) (x1 : Int32) (h : HP) : Option (HP) := ck h a0 9 (f_X9_readPerson_e a0 x1 h)
theorem o_X9_readPerson {a0 : Nat} {x1 : Int32} {h : HP} {out : HP} (hf : f_X9_readPerson a0 x1 h = some out) : ∃ fs, h[a0]? = some (.inl (9, fs)) := (ck_spec hf).1
set_option maxRecDepth 100000 in
theorem c_X9_readPerson {l : Launch} {G : GT} {b : Nat} {a0 : Nat} {x1 : Int32} {h : HP} {out : HP} (hf : f_X9_readPerson a0 x1 h = some out) : MT l G b False False yX9_readPerson cX9_readPerson 4 none RM_X9_readPerson [.ref (b + a0), .int x1] h none out 0 0 := by
  refine met_of (by decide) (Nat.le_of_ble_eq_true rfl) ?_
  intro p e s m below meth c ls X hnm S hl
  have hl : lv_has ls 4 [(0, .ref (b + a0)), (1, .int x1)] := hl
  replace hf := (ck_spec hf).2
  exact w_X9_readPerson_e X (z_v X) _ _ _ hf _ _ _ S hl
end M12
