section M13
variable {p : Program} {l : Launch} {e : Env} {s : State} {m : MethodId} {args : Array Value} {below : List Frame} {meth : Method} {c : Code} {Q : State → Prop} {G : GT} {b : Nat}
/-! RoomRingsModel.readClause()V -/
abbrev RM_X9_readClause : Room := { frames := 5, cells := 0, slots := 0, locals := 111 }
def f_X9_readClause_b167   (h : HP) : Option (HP) :=
  some h
set_option maxRecDepth 100000 in
set_option maxHeartbeats 4000000 in
theorem w_X9_readClause_b167 (X : CX RX9 cX9_readClause 4 none p s m args meth c G b) {out : HP} (Z : ZV p l e RM_X9_readClause s m args below meth c cX9_readClause G b False 0 0 Q out)  : ∀  (h : HP), f_X9_readClause_b167   h = some out → ∀ (H : Heap) (locs : List Loc) (ls : Array Slot), ST G b False s h H locs → lv_has ls 4 [] → W p l e RM_X9_readClause s m args below meth c H locs 0 0 Q (F0 m 167 ls []) := by
  intro  h hf H locs ls S hl
  unfold f_X9_readClause_b167 at hf
  have hx := X.1
  have hb := X.2.1
  obtain rfl := Option.some.inj hf
  exact Z _ _ _ _ dX9_readClause_167 S
def f_X9_readClause_b157  (a0 : Nat) (h : HP) : Option (HP) :=
  (gI h a0 9 19).bind fun v1 =>
  (pI h a0 9 19 (v1 + 1)).bind fun h2 =>
  f_X9_readClause_b167   h2
set_option maxRecDepth 100000 in
set_option maxHeartbeats 4000000 in
theorem w_X9_readClause_b157 (X : CX RX9 cX9_readClause 4 none p s m args meth c G b) {out : HP} (Z : ZV p l e RM_X9_readClause s m args below meth c cX9_readClause G b False 0 0 Q out)  : ∀ (a0 : Nat) (h : HP), f_X9_readClause_b157  a0 h = some out → ∀ (H : Heap) (locs : List Loc) (ls : Array Slot), ST G b False s h H locs → lv_has ls 4 [(0, .ref (b + a0))] → W p l e RM_X9_readClause s m args below meth c H locs 0 0 Q (F0 m 157 ls []) := by
  intro a0 h hf H locs ls S hl
  unfold f_X9_readClause_b157 at hf
  have hx := X.1
  have hb := X.2.1
  refine lv_aload_n hx hb dX9_readClause_157 rfl (lv_at hl 0 rfl) ?_
  refine lv_dup hx hb dX9_readClause_158 rfl ?_
  obtain ⟨v1, e_v1, hf⟩ := ob hf
  refine r_getI X S fl_X9_76 e_v1 dX9_readClause_159 ?_
  refine lv_iconst (v := 1) hx hb dX9_readClause_162 (by decide) ?_
  refine lv_iadd hx hb dX9_readClause_163 ?_
  obtain ⟨h2, e_h2, hf⟩ := ob hf
  refine r_put X S fp_X9_76 (fun h9 => by cases h9) rfl rfl rfl e_h2 dX9_readClause_164 (fun H locs S => ?_)
  exact w_X9_readClause_b167 X Z  _ hf _ _ _ S (lv_sub hl [] rfl)
def f_X9_readClause_b132  (a0 : Nat) (h : HP) : Option (HP) :=
  (f_X9_fine a0 h).bind fun q1 =>
  if q1.1 = 0 then
    f_X9_readClause_b167   q1.2
  else
    (f_X9_here a0 q1.2).bind fun q2 =>
    if q2.1 = 59 then
      f_X9_readClause_b157  a0 q2.2
    else
      (gI q2.2 a0 9 19).bind fun v3 =>
      (f_X9_fail a0 1 v3 q2.2).bind fun h4 =>
      f_X9_readClause_b157  a0 h4
set_option maxRecDepth 100000 in
set_option maxHeartbeats 4000000 in
theorem w_X9_readClause_b132 (X : CX RX9 cX9_readClause 4 none p s m args meth c G b) {out : HP} (Z : ZV p l e RM_X9_readClause s m args below meth c cX9_readClause G b False 0 0 Q out)  : ∀ (a0 : Nat) (h : HP), f_X9_readClause_b132  a0 h = some out → ∀ (H : Heap) (locs : List Loc) (ls : Array Slot), ST G b False s h H locs → lv_has ls 4 [(0, .ref (b + a0))] → W p l e RM_X9_readClause s m args below meth c H locs 0 0 Q (F0 m 132 ls []) := by
  intro a0 h hf H locs ls S hl
  unfold f_X9_readClause_b132 at hf
  have hx := X.1
  have hb := X.2.1
  refine lv_aload_n hx hb dX9_readClause_132 rfl (lv_at hl 0 rfl) ?_
  obtain ⟨q1, e_q1, hf⟩ := ob hf
  refine r_callV X S hl.1 (As := []) (rest := []) (c_X9_fine e_q1) my_X9_fine mv_X9_fine ml_X9_69 rfl (o_X9_fine e_q1) ⟨rfl, rfl, Nat.le_of_ble_eq_true rfl, Nat.le_of_ble_eq_true rfl⟩ rfl rfl (Nat.le_of_ble_eq_true rfl) dX9_readClause_133 ⟨Nat.le_of_ble_eq_true rfl, Nat.le_of_ble_eq_true rfl⟩ (fun H locs S => ?_)
  refine W.eq (g2 := F0 m 136 ls [.int q1.1]) rfl ?_
  refine lv_if_eq (tgt := 167) hx hb dX9_readClause_136 (by decide) (fun hc => ?_) (fun hc => ?_)
  · replace hf := ip hf hc
    exact w_X9_readClause_b167 X Z  _ hf _ _ _ S (lv_sub hl [] rfl)
  · replace hf := im hf hc
    refine lv_aload_n hx hb dX9_readClause_139 rfl (lv_at hl 0 rfl) ?_
    obtain ⟨q2, e_q2, hf⟩ := ob hf
    refine r_callV X S hl.1 (As := []) (rest := []) (c_X9_here e_q2) my_X9_here mv_X9_here ml_X9_79 rfl (o_X9_here e_q2) ⟨rfl, rfl, Nat.le_of_ble_eq_true rfl, Nat.le_of_ble_eq_true rfl⟩ rfl rfl (Nat.le_of_ble_eq_true rfl) dX9_readClause_140 ⟨Nat.le_of_ble_eq_true rfl, Nat.le_of_ble_eq_true rfl⟩ (fun H locs S => ?_)
    refine W.eq (g2 := F0 m 143 ls [.int q2.1]) rfl ?_
    refine lv_bipush (v := 59) hx hb dX9_readClause_143 (by decide) ?_
    refine lv_icmp_eq (tgt := 157) hx hb dX9_readClause_145 (by decide) (fun hc => ?_) (fun hc => ?_)
    · replace hf := ip hf hc
      exact w_X9_readClause_b157 X Z  _ _ hf _ _ _ S (lv_sub hl [0] rfl)
    · replace hf := im hf hc
      refine lv_aload_n hx hb dX9_readClause_148 rfl (lv_at hl 0 rfl) ?_
      refine lv_iconst (v := 1) hx hb dX9_readClause_149 (by decide) ?_
      refine lv_aload_n hx hb dX9_readClause_150 rfl (lv_at hl 0 rfl) ?_
      obtain ⟨v3, e_v3, hf⟩ := ob hf
      refine r_getI X S fl_X9_76 e_v3 dX9_readClause_151 ?_
      obtain ⟨h4, e_h4, hf⟩ := ob hf
      refine r_callV X S hl.1 (As := [.int 1, .int v3]) (rest := []) (c_X9_fail e_h4) my_X9_fail mv_X9_fail ml_X9_86 rfl (o_X9_fail e_h4) ⟨rfl, rfl, Nat.le_of_ble_eq_true rfl, Nat.le_of_ble_eq_true rfl⟩ rfl rfl (Nat.le_of_ble_eq_true rfl) dX9_readClause_154 ⟨Nat.le_of_ble_eq_true rfl, Nat.le_of_ble_eq_true rfl⟩ (fun H locs S => ?_)
      refine W.eq (g2 := F0 m 157 ls []) rfl ?_
      exact w_X9_readClause_b157 X Z  _ _ hf _ _ _ S (lv_sub hl [0] rfl)
def f_X9_readClause_b61  (a0 : Nat) (x2 : Int32) (h : HP) : Option (HP) :=
  (f_X9_fail a0 1 x2 h).bind fun h1 =>
  f_X9_readClause_b132  a0 h1
set_option maxRecDepth 100000 in
set_option maxHeartbeats 4000000 in
theorem w_X9_readClause_b61 (X : CX RX9 cX9_readClause 4 none p s m args meth c G b) {out : HP} (Z : ZV p l e RM_X9_readClause s m args below meth c cX9_readClause G b False 0 0 Q out)  : ∀ (a0 : Nat) (x2 : Int32) (h : HP), f_X9_readClause_b61  a0 x2 h = some out → ∀ (H : Heap) (locs : List Loc) (ls : Array Slot), ST G b False s h H locs → lv_has ls 4 [(0, .ref (b + a0)), (2, .int x2)] → W p l e RM_X9_readClause s m args below meth c H locs 0 0 Q (F0 m 61 ls []) := by
  intro a0 x2 h hf H locs ls S hl
  unfold f_X9_readClause_b61 at hf
  have hx := X.1
  have hb := X.2.1
  refine lv_aload_n hx hb dX9_readClause_61 rfl (lv_at hl 0 rfl) ?_
  refine lv_iconst (v := 1) hx hb dX9_readClause_62 (by decide) ?_
  refine lv_iload_n hx hb dX9_readClause_63 rfl (lv_at hl 1 rfl) ?_
  obtain ⟨h1, e_h1, hf⟩ := ob hf
  refine r_callV X S hl.1 (As := [.int 1, .int x2]) (rest := []) (c_X9_fail e_h1) my_X9_fail mv_X9_fail ml_X9_86 rfl (o_X9_fail e_h1) ⟨rfl, rfl, Nat.le_of_ble_eq_true rfl, Nat.le_of_ble_eq_true rfl⟩ rfl rfl (Nat.le_of_ble_eq_true rfl) dX9_readClause_64 ⟨Nat.le_of_ble_eq_true rfl, Nat.le_of_ble_eq_true rfl⟩ (fun H locs S => ?_)
  refine W.eq (g2 := F0 m 67 ls []) rfl ?_
  refine lv_goto (tgt := 132) hx hb dX9_readClause_67 (by decide) ?_
  exact w_X9_readClause_b132 X Z  _ _ hf _ _ _ S (lv_sub hl [0] rfl)
def f_X9_readClause_b98  (a0 : Nat) (x2 : Int32) (h : HP) : Option (HP) :=
  (f_X9_fail a0 3 x2 h).bind fun h1 =>
  f_X9_readClause_b132  a0 h1
set_option maxRecDepth 100000 in
set_option maxHeartbeats 4000000 in
theorem w_X9_readClause_b98 (X : CX RX9 cX9_readClause 4 none p s m args meth c G b) {out : HP} (Z : ZV p l e RM_X9_readClause s m args below meth c cX9_readClause G b False 0 0 Q out)  : ∀ (a0 : Nat) (x2 : Int32) (h : HP), f_X9_readClause_b98  a0 x2 h = some out → ∀ (H : Heap) (locs : List Loc) (ls : Array Slot), ST G b False s h H locs → lv_has ls 4 [(0, .ref (b + a0)), (2, .int x2)] → W p l e RM_X9_readClause s m args below meth c H locs 0 0 Q (F0 m 98 ls []) := by
  intro a0 x2 h hf H locs ls S hl
  unfold f_X9_readClause_b98 at hf
  have hx := X.1
  have hb := X.2.1
  refine lv_aload_n hx hb dX9_readClause_98 rfl (lv_at hl 0 rfl) ?_
  refine lv_iconst (v := 3) hx hb dX9_readClause_99 (by decide) ?_
  refine lv_iload_n hx hb dX9_readClause_100 rfl (lv_at hl 1 rfl) ?_
  obtain ⟨h1, e_h1, hf⟩ := ob hf
  refine r_callV X S hl.1 (As := [.int 3, .int x2]) (rest := []) (c_X9_fail e_h1) my_X9_fail mv_X9_fail ml_X9_86 rfl (o_X9_fail e_h1) ⟨rfl, rfl, Nat.le_of_ble_eq_true rfl, Nat.le_of_ble_eq_true rfl⟩ rfl rfl (Nat.le_of_ble_eq_true rfl) dX9_readClause_101 ⟨Nat.le_of_ble_eq_true rfl, Nat.le_of_ble_eq_true rfl⟩ (fun H locs S => ?_)
  refine W.eq (g2 := F0 m 104 ls []) rfl ?_
  refine lv_goto (tgt := 132) hx hb dX9_readClause_104 (by decide) ?_
  exact w_X9_readClause_b132 X Z  _ _ hf _ _ _ S (lv_sub hl [0] rfl)
def f_X9_readClause_b107  (a0 : Nat) (x1 : Int32) (h : HP) : Option (HP) :=
  if x1 = 114 then
    (f_X9_number a0 1 8 h).bind fun q1 =>
    (pI q1.2 a0 9 22 q1.1).bind fun h2 =>
    f_X9_readClause_b132  a0 h2
  else
    (f_X9_readPerson a0 x1 h).bind fun h3 =>
    f_X9_readClause_b132  a0 h3
set_option maxRecDepth 100000 in
set_option maxHeartbeats 4000000 in
theorem w_X9_readClause_b107 (X : CX RX9 cX9_readClause 4 none p s m args meth c G b) {out : HP} (Z : ZV p l e RM_X9_readClause s m args below meth c cX9_readClause G b False 0 0 Q out)  : ∀ (a0 : Nat) (x1 : Int32) (h : HP), f_X9_readClause_b107  a0 x1 h = some out → ∀ (H : Heap) (locs : List Loc) (ls : Array Slot), ST G b False s h H locs → lv_has ls 4 [(0, .ref (b + a0)), (1, .int x1)] → W p l e RM_X9_readClause s m args below meth c H locs 0 0 Q (F0 m 107 ls []) := by
  intro a0 x1 h hf H locs ls S hl
  unfold f_X9_readClause_b107 at hf
  have hx := X.1
  have hb := X.2.1
  refine lv_iload_n hx hb dX9_readClause_107 rfl (lv_at hl 1 rfl) ?_
  refine lv_bipush (v := 114) hx hb dX9_readClause_108 (by decide) ?_
  refine lv_icmp_ne (tgt := 127) hx hb dX9_readClause_110 (by decide) (fun hc => ?_) (fun hc => ?_)
  · replace hf := im hf hc
    refine lv_aload_n hx hb dX9_readClause_127 rfl (lv_at hl 0 rfl) ?_
    refine lv_iload_n hx hb dX9_readClause_128 rfl (lv_at hl 1 rfl) ?_
    obtain ⟨h3, e_h3, hf⟩ := ob hf
    refine r_callV X S hl.1 (As := [.int x1]) (rest := []) (c_X9_readPerson e_h3) my_X9_readPerson mv_X9_readPerson ml_X9_110 rfl (o_X9_readPerson e_h3) ⟨rfl, rfl, Nat.le_of_ble_eq_true rfl, Nat.le_of_ble_eq_true rfl⟩ rfl rfl (Nat.le_of_ble_eq_true rfl) dX9_readClause_129 ⟨Nat.le_of_ble_eq_true rfl, Nat.le_of_ble_eq_true rfl⟩ (fun H locs S => ?_)
    refine W.eq (g2 := F0 m 132 ls []) rfl ?_
    exact w_X9_readClause_b132 X Z  _ _ hf _ _ _ S (lv_sub hl [0] rfl)
  · replace hf := ip hf hc
    refine lv_aload_n hx hb dX9_readClause_113 rfl (lv_at hl 0 rfl) ?_
    refine lv_aload_n hx hb dX9_readClause_114 rfl (lv_at hl 0 rfl) ?_
    refine lv_iconst (v := 1) hx hb dX9_readClause_115 (by decide) ?_
    refine lv_bipush (v := 8) hx hb dX9_readClause_116 (by decide) ?_
    obtain ⟨q1, e_q1, hf⟩ := ob hf
    refine r_callV X S hl.1 (As := [.int 1, .int 8]) (rest := [.ref (b + a0)]) (c_X9_number e_q1) my_X9_number mv_X9_number ml_X9_93 rfl (o_X9_number e_q1) ⟨rfl, rfl, Nat.le_of_ble_eq_true rfl, Nat.le_of_ble_eq_true rfl⟩ rfl rfl (Nat.le_of_ble_eq_true rfl) dX9_readClause_118 ⟨Nat.le_of_ble_eq_true rfl, Nat.le_of_ble_eq_true rfl⟩ (fun H locs S => ?_)
    refine W.eq (g2 := F0 m 121 ls [.int q1.1, .ref (b + a0)]) rfl ?_
    obtain ⟨h2, e_h2, hf⟩ := ob hf
    refine r_put X S fp_X9_90 (fun h9 => by cases h9) rfl rfl rfl e_h2 dX9_readClause_121 (fun H locs S => ?_)
    refine lv_goto (tgt := 132) hx hb dX9_readClause_124 (by decide) ?_
    exact w_X9_readClause_b132 X Z  _ _ hf _ _ _ S (lv_sub hl [0] rfl)
def f_X9_readClause_b83  (a0 : Nat) (x1 : Int32) (x2 : Int32) (h : HP) : Option (HP) :=
  if x1 = 114 then
    f_X9_readClause_b107  a0 x1 h
  else
    (gI h a0 9 23).bind fun v1 =>
    if v1 = 6 then
      f_X9_readClause_b98  a0 x2 h
    else
      f_X9_readClause_b107  a0 x1 h
set_option maxRecDepth 100000 in
set_option maxHeartbeats 4000000 in
theorem w_X9_readClause_b83 (X : CX RX9 cX9_readClause 4 none p s m args meth c G b) {out : HP} (Z : ZV p l e RM_X9_readClause s m args below meth c cX9_readClause G b False 0 0 Q out)  : ∀ (a0 : Nat) (x1 : Int32) (x2 : Int32) (h : HP), f_X9_readClause_b83  a0 x1 x2 h = some out → ∀ (H : Heap) (locs : List Loc) (ls : Array Slot), ST G b False s h H locs → lv_has ls 4 [(0, .ref (b + a0)), (1, .int x1), (2, .int x2)] → W p l e RM_X9_readClause s m args below meth c H locs 0 0 Q (F0 m 83 ls []) := by
  intro a0 x1 x2 h hf H locs ls S hl
  unfold f_X9_readClause_b83 at hf
  have hx := X.1
  have hb := X.2.1
  refine lv_iload_n hx hb dX9_readClause_83 rfl (lv_at hl 1 rfl) ?_
  refine lv_bipush (v := 114) hx hb dX9_readClause_84 (by decide) ?_
  refine lv_icmp_eq (tgt := 107) hx hb dX9_readClause_86 (by decide) (fun hc => ?_) (fun hc => ?_)
  · replace hf := ip hf hc
    exact w_X9_readClause_b107 X Z  _ _ _ hf _ _ _ S (lv_sub hl [0, 1] rfl)
  · replace hf := im hf hc
    refine lv_aload_n hx hb dX9_readClause_89 rfl (lv_at hl 0 rfl) ?_
    obtain ⟨v1, e_v1, hf⟩ := ob hf
    refine r_getI X S fl_X9_101 e_v1 dX9_readClause_90 ?_
    refine lv_bipush (v := 6) hx hb dX9_readClause_93 (by decide) ?_
    refine lv_icmp_ne (tgt := 107) hx hb dX9_readClause_95 (by decide) (fun hc => ?_) (fun hc => ?_)
    · replace hf := im hf hc
      exact w_X9_readClause_b107 X Z  _ _ _ hf _ _ _ S (lv_sub hl [0, 1] rfl)
    · replace hf := ip hf hc
      exact w_X9_readClause_b98 X Z  _ _ _ hf _ _ _ S (lv_sub hl [0, 2] rfl)
def f_X9_readClause_b70  (a0 : Nat) (x1 : Int32) (x2 : Int32) (h : HP) : Option (HP) :=
  if x1 = 114 then
    (gI h a0 9 22).bind fun v1 =>
    if 0 < v1 then
      f_X9_readClause_b98  a0 x2 h
    else
      f_X9_readClause_b83  a0 x1 x2 h
  else
    f_X9_readClause_b83  a0 x1 x2 h
set_option maxRecDepth 100000 in
set_option maxHeartbeats 4000000 in
theorem w_X9_readClause_b70 (X : CX RX9 cX9_readClause 4 none p s m args meth c G b) {out : HP} (Z : ZV p l e RM_X9_readClause s m args below meth c cX9_readClause G b False 0 0 Q out)  : ∀ (a0 : Nat) (x1 : Int32) (x2 : Int32) (h : HP), f_X9_readClause_b70  a0 x1 x2 h = some out → ∀ (H : Heap) (locs : List Loc) (ls : Array Slot), ST G b False s h H locs → lv_has ls 4 [(0, .ref (b + a0)), (1, .int x1), (2, .int x2)] → W p l e RM_X9_readClause s m args below meth c H locs 0 0 Q (F0 m 70 ls []) := by
  intro a0 x1 x2 h hf H locs ls S hl
  unfold f_X9_readClause_b70 at hf
  have hx := X.1
  have hb := X.2.1
  refine lv_iload_n hx hb dX9_readClause_70 rfl (lv_at hl 1 rfl) ?_
  refine lv_bipush (v := 114) hx hb dX9_readClause_71 (by decide) ?_
  refine lv_icmp_ne (tgt := 83) hx hb dX9_readClause_73 (by decide) (fun hc => ?_) (fun hc => ?_)
  · replace hf := im hf hc
    exact w_X9_readClause_b83 X Z  _ _ _ _ hf _ _ _ S (lv_sub hl [0, 1, 2] rfl)
  · replace hf := ip hf hc
    refine lv_aload_n hx hb dX9_readClause_76 rfl (lv_at hl 0 rfl) ?_
    obtain ⟨v1, e_v1, hf⟩ := ob hf
    refine r_getI X S fl_X9_90 e_v1 dX9_readClause_77 ?_
    refine lv_if_gt (tgt := 98) hx hb dX9_readClause_80 (by decide) (fun hc => ?_) (fun hc => ?_)
    · replace hf := ip hf hc
      exact w_X9_readClause_b98 X Z  _ _ _ hf _ _ _ S (lv_sub hl [0, 2] rfl)
    · replace hf := im hf hc
      exact w_X9_readClause_b83 X Z  _ _ _ _ hf _ _ _ S (lv_sub hl [0, 1, 2] rfl)
def f_X9_readClause_b43  (a0 : Nat) (x1 : Int32) (x2 : Int32) (s0 : Int32) (h : HP) : Option (HP) :=
  if s0 = 0 then
    f_X9_readClause_b61  a0 x2 h
  else
    if x1 = 114 then
      f_X9_readClause_b70  a0 x1 x2 h
    else
      (gI h a0 9 22).bind fun v1 =>
      if v1 = 0 then
        f_X9_readClause_b61  a0 x2 h
      else
        f_X9_readClause_b70  a0 x1 x2 h
set_option maxRecDepth 100000 in
set_option maxHeartbeats 4000000 in
theorem w_X9_readClause_b43 (X : CX RX9 cX9_readClause 4 none p s m args meth c G b) {out : HP} (Z : ZV p l e RM_X9_readClause s m args below meth c cX9_readClause G b False 0 0 Q out)  : ∀ (a0 : Nat) (x1 : Int32) (x2 : Int32) (s0 : Int32) (h : HP), f_X9_readClause_b43  a0 x1 x2 s0 h = some out → ∀ (H : Heap) (locs : List Loc) (ls : Array Slot), ST G b False s h H locs → lv_has ls 4 [(0, .ref (b + a0)), (1, .int x1), (2, .int x2)] → W p l e RM_X9_readClause s m args below meth c H locs 0 0 Q (F0 m 43 ls [.int s0]) := by
  intro a0 x1 x2 s0 h hf H locs ls S hl
  unfold f_X9_readClause_b43 at hf
  have hx := X.1
  have hb := X.2.1
  refine lv_istore_n (lv' := [(3, .int s0), (0, .ref (b + a0)), (1, .int x1), (2, .int x2)]) hx hb dX9_readClause_43 rfl hl (by decide) rfl (fun ls hl => ?_)
  refine lv_iload_n hx hb dX9_readClause_44 rfl (lv_at hl 0 rfl) ?_
  refine lv_if_eq (tgt := 61) hx hb dX9_readClause_45 (by decide) (fun hc => ?_) (fun hc => ?_)
  · replace hf := ip hf hc
    exact w_X9_readClause_b61 X Z  _ _ _ hf _ _ _ S (lv_sub hl [1, 3] rfl)
  · replace hf := im hf hc
    refine lv_iload_n hx hb dX9_readClause_48 rfl (lv_at hl 2 rfl) ?_
    refine lv_bipush (v := 114) hx hb dX9_readClause_49 (by decide) ?_
    refine lv_icmp_eq (tgt := 70) hx hb dX9_readClause_51 (by decide) (fun hc => ?_) (fun hc => ?_)
    · replace hf := ip hf hc
      exact w_X9_readClause_b70 X Z  _ _ _ _ hf _ _ _ S (lv_sub hl [1, 2, 3] rfl)
    · replace hf := im hf hc
      refine lv_aload_n hx hb dX9_readClause_54 rfl (lv_at hl 1 rfl) ?_
      obtain ⟨v1, e_v1, hf⟩ := ob hf
      refine r_getI X S fl_X9_90 e_v1 dX9_readClause_55 ?_
      refine lv_if_ne (tgt := 70) hx hb dX9_readClause_58 (by decide) (fun hc => ?_) (fun hc => ?_)
      · replace hf := im hf hc
        exact w_X9_readClause_b70 X Z  _ _ _ _ hf _ _ _ S (lv_sub hl [1, 2, 3] rfl)
      · replace hf := ip hf hc
        exact w_X9_readClause_b61 X Z  _ _ _ hf _ _ _ S (lv_sub hl [1, 3] rfl)
def f_X9_readClause_b38  (a0 : Nat) (x1 : Int32) (x2 : Int32) (h : HP) : Option (HP) :=
  f_X9_readClause_b43  a0 x1 x2 1 h
set_option maxRecDepth 100000 in
set_option maxHeartbeats 4000000 in
theorem w_X9_readClause_b38 (X : CX RX9 cX9_readClause 4 none p s m args meth c G b) {out : HP} (Z : ZV p l e RM_X9_readClause s m args below meth c cX9_readClause G b False 0 0 Q out)  : ∀ (a0 : Nat) (x1 : Int32) (x2 : Int32) (h : HP), f_X9_readClause_b38  a0 x1 x2 h = some out → ∀ (H : Heap) (locs : List Loc) (ls : Array Slot), ST G b False s h H locs → lv_has ls 4 [(0, .ref (b + a0)), (1, .int x1), (2, .int x2)] → W p l e RM_X9_readClause s m args below meth c H locs 0 0 Q (F0 m 38 ls []) := by
  intro a0 x1 x2 h hf H locs ls S hl
  unfold f_X9_readClause_b38 at hf
  have hx := X.1
  have hb := X.2.1
  refine lv_iconst (v := 1) hx hb dX9_readClause_38 (by decide) ?_
  refine lv_goto (tgt := 43) hx hb dX9_readClause_39 (by decide) ?_
  exact w_X9_readClause_b43 X Z  _ _ _ _ _ hf _ _ _ S (lv_sub hl [0, 1, 2] rfl)
def f_X9_readClause_e  (a0 : Nat) (h : HP) : Option (HP) :=
  (f_X9_here a0 h).bind fun q1 =>
  (gI q1.2 a0 9 19).bind fun v2 =>
  (gI q1.2 a0 9 19).bind fun v3 =>
  (pI q1.2 a0 9 19 (v3 + 1)).bind fun h4 =>
  if q1.1 = 114 then
    f_X9_readClause_b38  a0 q1.1 v2 h4
  else
    if q1.1 = 116 then
      f_X9_readClause_b38  a0 q1.1 v2 h4
    else
      if q1.1 = 110 then
        f_X9_readClause_b38  a0 q1.1 v2 h4
      else
        f_X9_readClause_b43  a0 q1.1 v2 0 h4
set_option maxRecDepth 100000 in
set_option maxHeartbeats 4000000 in
theorem w_X9_readClause_e (X : CX RX9 cX9_readClause 4 none p s m args meth c G b) {out : HP} (Z : ZV p l e RM_X9_readClause s m args below meth c cX9_readClause G b False 0 0 Q out)  : ∀ (a0 : Nat) (h : HP), f_X9_readClause_e  a0 h = some out → ∀ (H : Heap) (locs : List Loc) (ls : Array Slot), ST G b False s h H locs → lv_has ls 4 [(0, .ref (b + a0))] → W p l e RM_X9_readClause s m args below meth c H locs 0 0 Q (F0 m 0 ls []) := by
  intro a0 h hf H locs ls S hl
  unfold f_X9_readClause_e at hf
  have hx := X.1
  have hb := X.2.1
  refine lv_aload_n hx hb dX9_readClause_0 rfl (lv_at hl 0 rfl) ?_
  obtain ⟨q1, e_q1, hf⟩ := ob hf
  refine r_callV X S hl.1 (As := []) (rest := []) (c_X9_here e_q1) my_X9_here mv_X9_here ml_X9_79 rfl (o_X9_here e_q1) ⟨rfl, rfl, Nat.le_of_ble_eq_true rfl, Nat.le_of_ble_eq_true rfl⟩ rfl rfl (Nat.le_of_ble_eq_true rfl) dX9_readClause_1 ⟨Nat.le_of_ble_eq_true rfl, Nat.le_of_ble_eq_true rfl⟩ (fun H locs S => ?_)
  refine W.eq (g2 := F0 m 4 ls [.int q1.1]) rfl ?_
  refine lv_istore_n (lv' := [(1, .int q1.1), (0, .ref (b + a0))]) hx hb dX9_readClause_4 rfl hl (by decide) rfl (fun ls hl => ?_)
  refine lv_aload_n hx hb dX9_readClause_5 rfl (lv_at hl 1 rfl) ?_
  obtain ⟨v2, e_v2, hf⟩ := ob hf
  refine r_getI X S fl_X9_76 e_v2 dX9_readClause_6 ?_
  refine lv_istore_n (lv' := [(2, .int v2), (1, .int q1.1), (0, .ref (b + a0))]) hx hb dX9_readClause_9 rfl hl (by decide) rfl (fun ls hl => ?_)
  refine lv_aload_n hx hb dX9_readClause_10 rfl (lv_at hl 2 rfl) ?_
  refine lv_dup hx hb dX9_readClause_11 rfl ?_
  obtain ⟨v3, e_v3, hf⟩ := ob hf
  refine r_getI X S fl_X9_76 e_v3 dX9_readClause_12 ?_
  refine lv_iconst (v := 1) hx hb dX9_readClause_15 (by decide) ?_
  refine lv_iadd hx hb dX9_readClause_16 ?_
  obtain ⟨h4, e_h4, hf⟩ := ob hf
  refine r_put X S fp_X9_76 (fun h9 => by cases h9) rfl rfl rfl e_h4 dX9_readClause_17 (fun H locs S => ?_)
  refine lv_iload_n hx hb dX9_readClause_20 rfl (lv_at hl 1 rfl) ?_
  refine lv_bipush (v := 114) hx hb dX9_readClause_21 (by decide) ?_
  refine lv_icmp_eq (tgt := 38) hx hb dX9_readClause_23 (by decide) (fun hc => ?_) (fun hc => ?_)
  · replace hf := ip hf hc
    exact w_X9_readClause_b38 X Z  _ _ _ _ hf _ _ _ S (lv_sub hl [2, 1, 0] rfl)
  · replace hf := im hf hc
    refine lv_iload_n hx hb dX9_readClause_26 rfl (lv_at hl 1 rfl) ?_
    refine lv_bipush (v := 116) hx hb dX9_readClause_27 (by decide) ?_
    refine lv_icmp_eq (tgt := 38) hx hb dX9_readClause_29 (by decide) (fun hc => ?_) (fun hc => ?_)
    · replace hf := ip hf hc
      exact w_X9_readClause_b38 X Z  _ _ _ _ hf _ _ _ S (lv_sub hl [2, 1, 0] rfl)
    · replace hf := im hf hc
      refine lv_iload_n hx hb dX9_readClause_32 rfl (lv_at hl 1 rfl) ?_
      refine lv_bipush (v := 110) hx hb dX9_readClause_33 (by decide) ?_
      refine lv_icmp_ne (tgt := 42) hx hb dX9_readClause_35 (by decide) (fun hc => ?_) (fun hc => ?_)
      · replace hf := im hf hc
        refine lv_iconst (v := 0) hx hb dX9_readClause_42 (by decide) ?_
        exact w_X9_readClause_b43 X Z  _ _ _ _ _ hf _ _ _ S (lv_sub hl [2, 1, 0] rfl)
      · replace hf := ip hf hc
        exact w_X9_readClause_b38 X Z  _ _ _ _ hf _ _ _ S (lv_sub hl [2, 1, 0] rfl)
def f_X9_readClause (a0 : Nat) (h : HP) : Option (HP) := ck h a0 9 (f_X9_readClause_e a0 h)
theorem o_X9_readClause {a0 : Nat} {h : HP} {out : HP} (hf : f_X9_readClause a0 h = some out) : ∃ fs, h[a0]? = some (.inl (9, fs)) := (ck_spec hf).1
set_option maxRecDepth 100000 in
theorem c_X9_readClause {l : Launch} {G : GT} {b : Nat} {a0 : Nat} {h : HP} {out : HP} (hf : f_X9_readClause a0 h = some out) : MT l G b False False yX9_readClause cX9_readClause 4 none RM_X9_readClause [.ref (b + a0)] h none out 0 0 := by
  refine met_of (by decide) (Nat.le_of_ble_eq_true rfl) ?_
  intro p e s m below meth c ls X hnm S hl
  have hl : lv_has ls 4 [(0, .ref (b + a0))] := hl
  replace hf := (ck_spec hf).2
  exact w_X9_readClause_e X (z_v X) _ _ hf _ _ _ S hl
/-! RoomRingsModel.hostel()I -/
abbrev RM_X9_hostel : Room := { frames := 6, cells := 0, slots := 0, locals := 134 }
def f_X9_hostel_b60  (a0 : Nat) (h : HP) : Option (Int32 × HP) :=
  (pI h a0 9 6 0).bind fun h1 =>
  (f_X9_fine a0 h1).bind fun q2 =>
  if q2.1 = 0 then
    (gI q2.2 a0 9 21).bind fun v3 =>
    (pI q2.2 a0 9 7 v3).bind fun h4 =>
    (gI h4 a0 9 20).bind fun v5 =>
    some (((-10) - v5), h4)
  else
    (f_X9_beginLots a0 1541 q2.2).bind fun h6 =>
    (gR h6 a0 9 0).bind fun r7 =>
    (gR h6 a0 9 0).bind fun r8 =>
    (ald h6 r8 66).bind fun v9 =>
    (ast h6 r7 1607 v9).bind fun h10 =>
    (f_X9_copyRow a0 1541 0 h10).bind fun h11 =>
    (gI h11 a0 9 22).bind fun v12 =>
    (pI h11 a0 9 1 v12).bind fun h13 =>
    (gI h13 a0 9 23).bind fun v14 =>
    (pI h13 a0 9 2 v14).bind fun h15 =>
    (pI h15 a0 9 3 0).bind fun h16 =>
    (pI h16 a0 9 4 0).bind fun h17 =>
    (pI h17 a0 9 15 0).bind fun h18 =>
    (pI h18 a0 9 18 0).bind fun h19 =>
    (gI h19 a0 9 2).bind fun v20 =>
    some (v20, h19)
set_option maxRecDepth 100000 in
set_option maxHeartbeats 4000000 in
theorem w_X9_hostel_b60 (X : CX RX9 cX9_hostel 2 (some .int) p s m args meth c G b) {out : Int32 × HP} (Z : ZI p l e RM_X9_hostel s m args below meth c cX9_hostel G b False 0 0 Q out)  : ∀ (a0 : Nat) (h : HP), f_X9_hostel_b60  a0 h = some out → ∀ (H : Heap) (locs : List Loc) (ls : Array Slot), ST G b False s h H locs → lv_has ls 2 [(0, .ref (b + a0))] → W p l e RM_X9_hostel s m args below meth c H locs 0 0 Q (F0 m 60 ls []) := by
  intro a0 h hf H locs ls S hl
  unfold f_X9_hostel_b60 at hf
  have hx := X.1
  have hb := X.2.1
  refine lv_aload_n hx hb dX9_hostel_60 rfl (lv_at hl 0 rfl) ?_
  refine lv_iconst (v := 0) hx hb dX9_hostel_61 (by decide) ?_
  obtain ⟨h1, e_h1, hf⟩ := ob hf
  refine r_put X S fp_X9_62 (fun h9 => by cases h9) rfl rfl rfl e_h1 dX9_hostel_62 (fun H locs S => ?_)
  refine lv_aload_n hx hb dX9_hostel_65 rfl (lv_at hl 0 rfl) ?_
  obtain ⟨q2, e_q2, hf⟩ := ob hf
  refine r_callV X S hl.1 (As := []) (rest := []) (c_X9_fine e_q2) my_X9_fine mv_X9_fine ml_X9_69 rfl (o_X9_fine e_q2) ⟨rfl, rfl, Nat.le_of_ble_eq_true rfl, Nat.le_of_ble_eq_true rfl⟩ rfl rfl (Nat.le_of_ble_eq_true rfl) dX9_hostel_66 ⟨Nat.le_of_ble_eq_true rfl, Nat.le_of_ble_eq_true rfl⟩ (fun H locs S => ?_)
  refine W.eq (g2 := F0 m 69 ls [.int q2.1]) rfl ?_
  refine lv_if_ne (tgt := 88) hx hb dX9_hostel_69 (by decide) (fun hc => ?_) (fun hc => ?_)
  · replace hf := im hf hc
    refine lv_aload_n hx hb dX9_hostel_88 rfl (lv_at hl 0 rfl) ?_
    refine lv_sipush (v := 1541) hx hb dX9_hostel_89 (by decide) ?_
    obtain ⟨h6, e_h6, hf⟩ := ob hf
    refine r_callV X S hl.1 (As := [.int 1541]) (rest := []) (c_X9_beginLots e_h6) my_X9_beginLots mv_X9_beginLots ml_X9_47 rfl (o_X9_beginLots e_h6) ⟨rfl, rfl, Nat.le_of_ble_eq_true rfl, Nat.le_of_ble_eq_true rfl⟩ rfl rfl (Nat.le_of_ble_eq_true rfl) dX9_hostel_92 ⟨Nat.le_of_ble_eq_true rfl, Nat.le_of_ble_eq_true rfl⟩ (fun H locs S => ?_)
    refine W.eq (g2 := F0 m 95 ls []) rfl ?_
    refine lv_aload_n hx hb dX9_hostel_95 rfl (lv_at hl 0 rfl) ?_
    obtain ⟨r7, e_r7, hf⟩ := ob hf
    refine r_getR X S fl_X9_7 e_r7 dX9_hostel_96 ?_
    refine lv_sipush (v := 1607) hx hb dX9_hostel_99 (by decide) ?_
    refine lv_aload_n hx hb dX9_hostel_102 rfl (lv_at hl 0 rfl) ?_
    obtain ⟨r8, e_r8, hf⟩ := ob hf
    refine r_getR X S fl_X9_7 e_r8 dX9_hostel_103 ?_
    refine lv_bipush (v := 66) hx hb dX9_hostel_106 (by decide) ?_
    obtain ⟨v9, e_v9, hf⟩ := ob hf
    refine r_ald X S e_v9 dX9_hostel_108 ?_
    obtain ⟨h10, e_h10, hf⟩ := ob hf
    refine r_ast X S e_h10 dX9_hostel_109 (fun H locs S => ?_)
    refine lv_aload_n hx hb dX9_hostel_110 rfl (lv_at hl 0 rfl) ?_
    refine lv_sipush (v := 1541) hx hb dX9_hostel_111 (by decide) ?_
    refine lv_iconst (v := 0) hx hb dX9_hostel_114 (by decide) ?_
    obtain ⟨h11, e_h11, hf⟩ := ob hf
    refine r_callV X S hl.1 (As := [.int 1541, .int 0]) (rest := []) (c_X9_copyRow e_h11) my_X9_copyRow mv_X9_copyRow ml_X9_116 rfl (o_X9_copyRow e_h11) ⟨rfl, rfl, Nat.le_of_ble_eq_true rfl, Nat.le_of_ble_eq_true rfl⟩ rfl rfl (Nat.le_of_ble_eq_true rfl) dX9_hostel_115 ⟨Nat.le_of_ble_eq_true rfl, Nat.le_of_ble_eq_true rfl⟩ (fun H locs S => ?_)
    refine W.eq (g2 := F0 m 118 ls []) rfl ?_
    refine lv_aload_n hx hb dX9_hostel_118 rfl (lv_at hl 0 rfl) ?_
    refine lv_aload_n hx hb dX9_hostel_119 rfl (lv_at hl 0 rfl) ?_
    obtain ⟨v12, e_v12, hf⟩ := ob hf
    refine r_getI X S fl_X9_90 e_v12 dX9_hostel_120 ?_
    obtain ⟨h13, e_h13, hf⟩ := ob hf
    refine r_put X S fp_X9_58 (fun h9 => by cases h9) rfl rfl rfl e_h13 dX9_hostel_123 (fun H locs S => ?_)
    refine lv_aload_n hx hb dX9_hostel_126 rfl (lv_at hl 0 rfl) ?_
    refine lv_aload_n hx hb dX9_hostel_127 rfl (lv_at hl 0 rfl) ?_
    obtain ⟨v14, e_v14, hf⟩ := ob hf
    refine r_getI X S fl_X9_101 e_v14 dX9_hostel_128 ?_
    obtain ⟨h15, e_h15, hf⟩ := ob hf
    refine r_put X S fp_X9_51 (fun h9 => by cases h9) rfl rfl rfl e_h15 dX9_hostel_131 (fun H locs S => ?_)
    refine lv_aload_n hx hb dX9_hostel_134 rfl (lv_at hl 0 rfl) ?_
    refine lv_iconst (v := 0) hx hb dX9_hostel_135 (by decide) ?_
    obtain ⟨h16, e_h16, hf⟩ := ob hf
    refine r_put X S fp_X9_119 (fun h9 => by cases h9) rfl rfl rfl e_h16 dX9_hostel_136 (fun H locs S => ?_)
    refine lv_aload_n hx hb dX9_hostel_139 rfl (lv_at hl 0 rfl) ?_
    refine lv_iconst (v := 0) hx hb dX9_hostel_140 (by decide) ?_
    obtain ⟨h17, e_h17, hf⟩ := ob hf
    refine r_put X S fp_X9_122 (fun h9 => by cases h9) rfl rfl rfl e_h17 dX9_hostel_141 (fun H locs S => ?_)
    refine lv_aload_n hx hb dX9_hostel_144 rfl (lv_at hl 0 rfl) ?_
    refine lv_iconst (v := 0) hx hb dX9_hostel_145 (by decide) ?_
    obtain ⟨h18, e_h18, hf⟩ := ob hf
    refine r_put X S fp_X9_125 (fun h9 => by cases h9) rfl rfl rfl e_h18 dX9_hostel_146 (fun H locs S => ?_)
    refine lv_aload_n hx hb dX9_hostel_149 rfl (lv_at hl 0 rfl) ?_
    refine lv_iconst (v := 0) hx hb dX9_hostel_150 (by decide) ?_
    obtain ⟨h19, e_h19, hf⟩ := ob hf
    refine r_put X S fp_X9_128 (fun h9 => by cases h9) rfl rfl rfl e_h19 dX9_hostel_151 (fun H locs S => ?_)
    refine lv_aload_n hx hb dX9_hostel_154 rfl (lv_at hl 0 rfl) ?_
    obtain ⟨v20, e_v20, hf⟩ := ob hf
    refine r_getI X S fl_X9_51 e_v20 dX9_hostel_155 ?_
    obtain rfl := Option.some.inj hf
    exact Z _ _ _ _ dX9_hostel_158 S
  · replace hf := ip hf hc
    refine lv_aload_n hx hb dX9_hostel_72 rfl (lv_at hl 0 rfl) ?_
    refine lv_aload_n hx hb dX9_hostel_73 rfl (lv_at hl 0 rfl) ?_
    obtain ⟨v3, e_v3, hf⟩ := ob hf
    refine r_getI X S fl_X9_73 e_v3 dX9_hostel_74 ?_
    obtain ⟨h4, e_h4, hf⟩ := ob hf
    refine r_put X S fp_X9_16 (fun h9 => by cases h9) rfl rfl rfl e_h4 dX9_hostel_77 (fun H locs S => ?_)
    refine lv_bipush (v := (-10)) hx hb dX9_hostel_80 (by decide) ?_
    refine lv_aload_n hx hb dX9_hostel_82 rfl (lv_at hl 0 rfl) ?_
    obtain ⟨v5, e_v5, hf⟩ := ob hf
    refine r_getI X S fl_X9_66 e_v5 dX9_hostel_83 ?_
    refine lv_isub hx hb dX9_hostel_86 ?_
    obtain rfl := Option.some.inj hf
    exact Z _ _ _ _ dX9_hostel_87 S
def f_X9_hostel_b30 (K30 : Nat → HP → Option (Int32 × HP)) (a0 : Nat) (h : HP) : Option (Int32 × HP) :=
  (f_X9_fine a0 h).bind fun q1 =>
  if q1.1 = 0 then
    f_X9_hostel_b60  a0 q1.2
  else
    (gI q1.2 a0 9 19).bind fun v2 =>
    (gI q1.2 a0 9 6).bind fun v3 =>
    if v3 ≤ v2 then
      f_X9_hostel_b60  a0 q1.2
    else
      (f_X9_readClause a0 q1.2).bind fun h4 =>
      (f_X9_here a0 h4).bind fun q5 =>
      K30 a0 q5.2
set_option maxRecDepth 100000 in
set_option maxHeartbeats 4000000 in
theorem w_X9_hostel_b30 (X : CX RX9 cX9_hostel 2 (some .int) p s m args meth c G b) {out : Int32 × HP} (Z : ZI p l e RM_X9_hostel s m args below meth c cX9_hostel G b False 0 0 Q out) {K30 : Nat → HP → Option (Int32 × HP)} (hK30 : ∀ (a0 : Nat) (h : HP), K30 a0 h = some out → ∀ (H : Heap) (locs : List Loc) (ls : Array Slot), ST G b False s h H locs → lv_has ls 2 [(0, .ref (b + a0))] → W p l e RM_X9_hostel s m args below meth c H locs 0 0 Q (F0 m 30 ls [])) : ∀ (a0 : Nat) (h : HP), f_X9_hostel_b30 K30 a0 h = some out → ∀ (H : Heap) (locs : List Loc) (ls : Array Slot), ST G b False s h H locs → lv_has ls 2 [(0, .ref (b + a0))] → W p l e RM_X9_hostel s m args below meth c H locs 0 0 Q (F0 m 30 ls []) := by
  intro a0 h hf H locs ls S hl
  unfold f_X9_hostel_b30 at hf
  have hx := X.1
  have hb := X.2.1
  refine lv_aload_n hx hb dX9_hostel_30 rfl (lv_at hl 0 rfl) ?_
  obtain ⟨q1, e_q1, hf⟩ := ob hf
  refine r_callV X S hl.1 (As := []) (rest := []) (c_X9_fine e_q1) my_X9_fine mv_X9_fine ml_X9_69 rfl (o_X9_fine e_q1) ⟨rfl, rfl, Nat.le_of_ble_eq_true rfl, Nat.le_of_ble_eq_true rfl⟩ rfl rfl (Nat.le_of_ble_eq_true rfl) dX9_hostel_31 ⟨Nat.le_of_ble_eq_true rfl, Nat.le_of_ble_eq_true rfl⟩ (fun H locs S => ?_)
  refine W.eq (g2 := F0 m 34 ls [.int q1.1]) rfl ?_
  refine lv_if_eq (tgt := 60) hx hb dX9_hostel_34 (by decide) (fun hc => ?_) (fun hc => ?_)
  · replace hf := ip hf hc
    exact w_X9_hostel_b60 X Z  _ _ hf _ _ _ S (lv_sub hl [0] rfl)
  · replace hf := im hf hc
    refine lv_aload_n hx hb dX9_hostel_37 rfl (lv_at hl 0 rfl) ?_
    obtain ⟨v2, e_v2, hf⟩ := ob hf
    refine r_getI X S fl_X9_76 e_v2 dX9_hostel_38 ?_
    refine lv_aload_n hx hb dX9_hostel_41 rfl (lv_at hl 0 rfl) ?_
    obtain ⟨v3, e_v3, hf⟩ := ob hf
    refine r_getI X S fl_X9_62 e_v3 dX9_hostel_42 ?_
    refine lv_icmp_ge (tgt := 60) hx hb dX9_hostel_45 (by decide) (fun hc => ?_) (fun hc => ?_)
    · replace hf := ip hf hc
      exact w_X9_hostel_b60 X Z  _ _ hf _ _ _ S (lv_sub hl [0] rfl)
    · replace hf := im hf hc
      refine lv_aload_n hx hb dX9_hostel_48 rfl (lv_at hl 0 rfl) ?_
      obtain ⟨h4, e_h4, hf⟩ := ob hf
      refine r_callV X S hl.1 (As := []) (rest := []) (c_X9_readClause e_h4) my_X9_readClause mv_X9_readClause ml_X9_113 rfl (o_X9_readClause e_h4) ⟨rfl, rfl, Nat.le_of_ble_eq_true rfl, Nat.le_of_ble_eq_true rfl⟩ rfl rfl (Nat.le_of_ble_eq_true rfl) dX9_hostel_49 ⟨Nat.le_of_ble_eq_true rfl, Nat.le_of_ble_eq_true rfl⟩ (fun H locs S => ?_)
      refine W.eq (g2 := F0 m 52 ls []) rfl ?_
      refine lv_aload_n hx hb dX9_hostel_52 rfl (lv_at hl 0 rfl) ?_
      obtain ⟨q5, e_q5, hf⟩ := ob hf
      refine r_callV X S hl.1 (As := []) (rest := []) (c_X9_here e_q5) my_X9_here mv_X9_here ml_X9_79 rfl (o_X9_here e_q5) ⟨rfl, rfl, Nat.le_of_ble_eq_true rfl, Nat.le_of_ble_eq_true rfl⟩ rfl rfl (Nat.le_of_ble_eq_true rfl) dX9_hostel_53 ⟨Nat.le_of_ble_eq_true rfl, Nat.le_of_ble_eq_true rfl⟩ (fun H locs S => ?_)
      refine W.eq (g2 := F0 m 56 ls [.int q5.1]) rfl ?_
      refine lv_istore_n (lv' := [(1, .int q5.1), (0, .ref (b + a0))]) hx hb dX9_hostel_56 rfl hl (by decide) rfl (fun ls hl => ?_)
      refine lv_goto (tgt := 30) hx hb dX9_hostel_57 (by decide) ?_
      exact hK30 _ _ hf _ _ _ S (lv_sub hl [1] rfl)
def F_X9_hostel_30  : Nat → Nat → HP → Option (Int32 × HP)
  | 0 => fun _ _ => none
  | n + 1 => fun a0 h => f_X9_hostel_b30 (F_X9_hostel_30  n) a0 h
theorem wl_X9_hostel_30 (X : CX RX9 cX9_hostel 2 (some .int) p s m args meth c G b) {out : Int32 × HP} (Z : ZI p l e RM_X9_hostel s m args below meth c cX9_hostel G b False 0 0 Q out)  : ∀ (n : Nat) (a0 : Nat) (h : HP), F_X9_hostel_30  n a0 h = some out → ∀ (H : Heap) (locs : List Loc) (ls : Array Slot), ST G b False s h H locs → lv_has ls 2 [(0, .ref (b + a0))] → W p l e RM_X9_hostel s m args below meth c H locs 0 0 Q (F0 m 30 ls []) := by
  intro n
  induction n with
  | zero => intro a0 h hf; exact nn hf
  | succ n ih => exact w_X9_hostel_b30 X Z ih
def f_X9_hostel_e  (a0 : Nat) (h : HP) : Option (Int32 × HP) :=
  (pI h a0 9 19 0).bind fun h1 =>
  (pI h1 a0 9 20 0).bind fun h2 =>
  (pI h2 a0 9 7 (-1)).bind fun h3 =>
  (pI h3 a0 9 22 0).bind fun h4 =>
  (pI h4 a0 9 23 0).bind fun h5 =>
  (f_X9_here a0 h5).bind fun q6 =>
  F_X9_hostel_30  FU a0 q6.2
set_option maxRecDepth 100000 in
set_option maxHeartbeats 4000000 in
theorem w_X9_hostel_e (X : CX RX9 cX9_hostel 2 (some .int) p s m args meth c G b) {out : Int32 × HP} (Z : ZI p l e RM_X9_hostel s m args below meth c cX9_hostel G b False 0 0 Q out)  : ∀ (a0 : Nat) (h : HP), f_X9_hostel_e  a0 h = some out → ∀ (H : Heap) (locs : List Loc) (ls : Array Slot), ST G b False s h H locs → lv_has ls 2 [(0, .ref (b + a0))] → W p l e RM_X9_hostel s m args below meth c H locs 0 0 Q (F0 m 0 ls []) := by
  intro a0 h hf H locs ls S hl
  unfold f_X9_hostel_e at hf
  have hx := X.1
  have hb := X.2.1
  refine lv_aload_n hx hb dX9_hostel_0 rfl (lv_at hl 0 rfl) ?_
  refine lv_iconst (v := 0) hx hb dX9_hostel_1 (by decide) ?_
  obtain ⟨h1, e_h1, hf⟩ := ob hf
  refine r_put X S fp_X9_76 (fun h9 => by cases h9) rfl rfl rfl e_h1 dX9_hostel_2 (fun H locs S => ?_)
  refine lv_aload_n hx hb dX9_hostel_5 rfl (lv_at hl 0 rfl) ?_
  refine lv_iconst (v := 0) hx hb dX9_hostel_6 (by decide) ?_
  obtain ⟨h2, e_h2, hf⟩ := ob hf
  refine r_put X S fp_X9_66 (fun h9 => by cases h9) rfl rfl rfl e_h2 dX9_hostel_7 (fun H locs S => ?_)
  refine lv_aload_n hx hb dX9_hostel_10 rfl (lv_at hl 0 rfl) ?_
  refine lv_iconst (v := (-1)) hx hb dX9_hostel_11 (by decide) ?_
  obtain ⟨h3, e_h3, hf⟩ := ob hf
  refine r_put X S fp_X9_16 (fun h9 => by cases h9) rfl rfl rfl e_h3 dX9_hostel_12 (fun H locs S => ?_)
  refine lv_aload_n hx hb dX9_hostel_15 rfl (lv_at hl 0 rfl) ?_
  refine lv_iconst (v := 0) hx hb dX9_hostel_16 (by decide) ?_
  obtain ⟨h4, e_h4, hf⟩ := ob hf
  refine r_put X S fp_X9_90 (fun h9 => by cases h9) rfl rfl rfl e_h4 dX9_hostel_17 (fun H locs S => ?_)
  refine lv_aload_n hx hb dX9_hostel_20 rfl (lv_at hl 0 rfl) ?_
  refine lv_iconst (v := 0) hx hb dX9_hostel_21 (by decide) ?_
  obtain ⟨h5, e_h5, hf⟩ := ob hf
  refine r_put X S fp_X9_101 (fun h9 => by cases h9) rfl rfl rfl e_h5 dX9_hostel_22 (fun H locs S => ?_)
  refine lv_aload_n hx hb dX9_hostel_25 rfl (lv_at hl 0 rfl) ?_
  obtain ⟨q6, e_q6, hf⟩ := ob hf
  refine r_callV X S hl.1 (As := []) (rest := []) (c_X9_here e_q6) my_X9_here mv_X9_here ml_X9_79 rfl (o_X9_here e_q6) ⟨rfl, rfl, Nat.le_of_ble_eq_true rfl, Nat.le_of_ble_eq_true rfl⟩ rfl rfl (Nat.le_of_ble_eq_true rfl) dX9_hostel_26 ⟨Nat.le_of_ble_eq_true rfl, Nat.le_of_ble_eq_true rfl⟩ (fun H locs S => ?_)
  refine W.eq (g2 := F0 m 29 ls [.int q6.1]) rfl ?_
  refine lv_istore_n (lv' := [(1, .int q6.1), (0, .ref (b + a0))]) hx hb dX9_hostel_29 rfl hl (by decide) rfl (fun ls hl => ?_)
  exact wl_X9_hostel_30 X Z  FU _ _ hf _ _ _ S (lv_sub hl [1] rfl)
def f_X9_hostel (a0 : Nat) (h : HP) : Option (Int32 × HP) := ck h a0 9 (f_X9_hostel_e a0 h)
theorem o_X9_hostel {a0 : Nat} {h : HP} {out : Int32 × HP} (hf : f_X9_hostel a0 h = some out) : ∃ fs, h[a0]? = some (.inl (9, fs)) := (ck_spec hf).1
set_option maxRecDepth 100000 in
theorem c_X9_hostel {l : Launch} {G : GT} {b : Nat} {a0 : Nat} {h : HP} {out : Int32 × HP} (hf : f_X9_hostel a0 h = some out) : MT l G b False False yX9_hostel cX9_hostel 2 (some .int) RM_X9_hostel [.ref (b + a0)] h (some (.int out.1)) out.2 0 0 := by
  refine met_of (by decide) (Nat.le_of_ble_eq_true rfl) ?_
  intro p e s m below meth c ls X hnm S hl
  have hl : lv_has ls 2 [(0, .ref (b + a0))] := hl
  replace hf := (ck_spec hf).2
  exact w_X9_hostel_e X (z_i X) _ _ hf _ _ _ S hl
/-! RoomRingsModel.fault()I -/
abbrev RM_X9_fault : Room := { frames := 0, cells := 0, slots := 0, locals := 0 }
def f_X9_fault_e  (a0 : Nat) (h : HP) : Option (Int32 × HP) :=
  (gI h a0 9 7).bind fun v1 =>
  some (v1, h)
set_option maxRecDepth 100000 in
set_option maxHeartbeats 4000000 in
theorem w_X9_fault_e (X : CX RX9 cX9_fault 1 (some .int) p s m args meth c G b) {out : Int32 × HP} (Z : ZI p l e RM_X9_fault s m args below meth c cX9_fault G b False 0 0 Q out)  : ∀ (a0 : Nat) (h : HP), f_X9_fault_e  a0 h = some out → ∀ (H : Heap) (locs : List Loc) (ls : Array Slot), ST G b False s h H locs → lv_has ls 1 [(0, .ref (b + a0))] → W p l e RM_X9_fault s m args below meth c H locs 0 0 Q (F0 m 0 ls []) := by
  intro a0 h hf H locs ls S hl
  unfold f_X9_fault_e at hf
  have hx := X.1
  have hb := X.2.1
  refine lv_aload_n hx hb dX9_fault_0 rfl (lv_at hl 0 rfl) ?_
  obtain ⟨v1, e_v1, hf⟩ := ob hf
  refine r_getI X S fl_X9_16 e_v1 dX9_fault_1 ?_
  obtain rfl := Option.some.inj hf
  exact Z _ _ _ _ dX9_fault_4 S
def f_X9_fault (a0 : Nat) (h : HP) : Option (Int32 × HP) := ck h a0 9 (f_X9_fault_e a0 h)
theorem o_X9_fault {a0 : Nat} {h : HP} {out : Int32 × HP} (hf : f_X9_fault a0 h = some out) : ∃ fs, h[a0]? = some (.inl (9, fs)) := (ck_spec hf).1
set_option maxRecDepth 100000 in
theorem c_X9_fault {l : Launch} {G : GT} {b : Nat} {a0 : Nat} {h : HP} {out : Int32 × HP} (hf : f_X9_fault a0 h = some out) : MT l G b False False yX9_fault cX9_fault 1 (some .int) RM_X9_fault [.ref (b + a0)] h (some (.int out.1)) out.2 0 0 := by
  refine met_of (by decide) (Nat.le_of_ble_eq_true rfl) ?_
  intro p e s m below meth c ls X hnm S hl
  have hl : lv_has ls 1 [(0, .ref (b + a0))] := hl
  replace hf := (ck_spec hf).2
  exact w_X9_fault_e X (z_i X) _ _ hf _ _ _ S hl
/-! RoomRingsModel.layWants(II)I -/
abbrev RM_X9_layWants : Room := { frames := 0, cells := 0, slots := 0, locals := 0 }
def f_X9_layWants_b78 (K21 : Nat → Int32 → Int32 → Int32 → Int32 → Int32 → Int32 → HP → Option (Int32 × HP)) (a0 : Nat) (x1 : Int32) (x2 : Int32) (x3 : Int32) (x4 : Int32) (x6 : Int32) (s0 : Int32) (h : HP) : Option (Int32 × HP) :=
  K21 a0 x1 x2 (x3 + 1) x4 s0 (x6 + 1) h
set_option maxRecDepth 100000 in
set_option maxHeartbeats 4000000 in
theorem w_X9_layWants_b78 (X : CX RX9 cX9_layWants 7 (some .int) p s m args meth c G b) {out : Int32 × HP} (Z : ZI p l e RM_X9_layWants s m args below meth c cX9_layWants G b False 0 0 Q out) {K21 : Nat → Int32 → Int32 → Int32 → Int32 → Int32 → Int32 → HP → Option (Int32 × HP)} (hK21 : ∀ (a0 : Nat) (x1 : Int32) (x2 : Int32) (x3 : Int32) (x4 : Int32) (x5 : Int32) (x6 : Int32) (h : HP), K21 a0 x1 x2 x3 x4 x5 x6 h = some out → ∀ (H : Heap) (locs : List Loc) (ls : Array Slot), ST G b False s h H locs → lv_has ls 7 [(0, .ref (b + a0)), (1, .int x1), (2, .int x2), (3, .int x3), (4, .int x4), (5, .int x5), (6, .int x6)] → W p l e RM_X9_layWants s m args below meth c H locs 0 0 Q (F0 m 21 ls [])) : ∀ (a0 : Nat) (x1 : Int32) (x2 : Int32) (x3 : Int32) (x4 : Int32) (x6 : Int32) (s0 : Int32) (h : HP), f_X9_layWants_b78 K21 a0 x1 x2 x3 x4 x6 s0 h = some out → ∀ (H : Heap) (locs : List Loc) (ls : Array Slot), ST G b False s h H locs → lv_has ls 7 [(0, .ref (b + a0)), (1, .int x1), (2, .int x2), (3, .int x3), (4, .int x4), (6, .int x6)] → W p l e RM_X9_layWants s m args below meth c H locs 0 0 Q (F0 m 78 ls [.int s0]) := by
  intro a0 x1 x2 x3 x4 x6 s0 h hf H locs ls S hl
  unfold f_X9_layWants_b78 at hf
  have hx := X.1
  have hb := X.2.1
  refine lv_istore (lv' := [(5, .int s0), (0, .ref (b + a0)), (1, .int x1), (2, .int x2), (3, .int x3), (4, .int x4), (6, .int x6)]) hx hb dX9_layWants_78 hl (by decide) rfl (fun ls hl => ?_)
  refine lv_iinc (v := x3 + 1) (lv' := [(3, .int (x3 + 1)), (5, .int s0), (0, .ref (b + a0)), (1, .int x1), (2, .int x2), (4, .int x4), (6, .int x6)]) hx hb dX9_layWants_80 hl (k := 4) rfl rfl (by decide) rfl (fun ls hl => ?_)
  refine lv_iinc (v := x6 + 1) (lv' := [(6, .int (x6 + 1)), (3, .int (x3 + 1)), (5, .int s0), (0, .ref (b + a0)), (1, .int x1), (2, .int x2), (4, .int x4)]) hx hb dX9_layWants_83 hl (k := 6) rfl rfl (by decide) rfl (fun ls hl => ?_)
  refine lv_goto (tgt := 21) hx hb dX9_layWants_86 (by decide) ?_
  exact hK21 _ _ _ _ _ _ _ _ hf _ _ _ S (lv_sub hl [3, 4, 5, 1, 6, 2, 0] rfl)
def f_X9_layWants_b111  (x3 : Int32) (h : HP) : Option (Int32 × HP) :=
  some (x3, h)
set_option maxRecDepth 100000 in
set_option maxHeartbeats 4000000 in
theorem w_X9_layWants_b111 (X : CX RX9 cX9_layWants 7 (some .int) p s m args meth c G b) {out : Int32 × HP} (Z : ZI p l e RM_X9_layWants s m args below meth c cX9_layWants G b False 0 0 Q out)  : ∀ (x3 : Int32) (h : HP), f_X9_layWants_b111  x3 h = some out → ∀ (H : Heap) (locs : List Loc) (ls : Array Slot), ST G b False s h H locs → lv_has ls 7 [(3, .int x3)] → W p l e RM_X9_layWants s m args below meth c H locs 0 0 Q (F0 m 111 ls []) := by
  intro x3 h hf H locs ls S hl
  unfold f_X9_layWants_b111 at hf
  have hx := X.1
  have hb := X.2.1
  refine lv_iload_n hx hb dX9_layWants_111 rfl (lv_at hl 0 rfl) ?_
  obtain rfl := Option.some.inj hf
  exact Z _ _ _ _ dX9_layWants_112 S
def f_X9_layWants_b89  (a0 : Nat) (x3 : Int32) (x4 : Int32) (x5 : Int32) (h : HP) : Option (Int32 × HP) :=
  if x5 = 0 then
    f_X9_layWants_b111  x3 h
  else
    if x4 = (-1) then
      f_X9_layWants_b111  x3 h
    else
      (gR h a0 9 12).bind fun r1 =>
      (ast h r1 x3 x4).bind fun h2 =>
      f_X9_layWants_b111  (x3 + 1) h2
set_option maxRecDepth 100000 in
set_option maxHeartbeats 4000000 in
theorem w_X9_layWants_b89 (X : CX RX9 cX9_layWants 7 (some .int) p s m args meth c G b) {out : Int32 × HP} (Z : ZI p l e RM_X9_layWants s m args below meth c cX9_layWants G b False 0 0 Q out)  : ∀ (a0 : Nat) (x3 : Int32) (x4 : Int32) (x5 : Int32) (h : HP), f_X9_layWants_b89  a0 x3 x4 x5 h = some out → ∀ (H : Heap) (locs : List Loc) (ls : Array Slot), ST G b False s h H locs → lv_has ls 7 [(0, .ref (b + a0)), (3, .int x3), (4, .int x4), (5, .int x5)] → W p l e RM_X9_layWants s m args below meth c H locs 0 0 Q (F0 m 89 ls []) := by
  intro a0 x3 x4 x5 h hf H locs ls S hl
  unfold f_X9_layWants_b89 at hf
  have hx := X.1
  have hb := X.2.1
  refine lv_iload hx hb dX9_layWants_89 (lv_at hl 3 rfl) ?_
  refine lv_if_eq (tgt := 111) hx hb dX9_layWants_91 (by decide) (fun hc => ?_) (fun hc => ?_)
  · replace hf := ip hf hc
    exact w_X9_layWants_b111 X Z  _ _ hf _ _ _ S (lv_sub hl [1] rfl)
  · replace hf := im hf hc
    refine lv_iload hx hb dX9_layWants_94 (lv_at hl 2 rfl) ?_
    refine lv_iconst (v := (-1)) hx hb dX9_layWants_96 (by decide) ?_
    refine lv_icmp_eq (tgt := 111) hx hb dX9_layWants_97 (by decide) (fun hc => ?_) (fun hc => ?_)
    · replace hf := ip hf hc
      exact w_X9_layWants_b111 X Z  _ _ hf _ _ _ S (lv_sub hl [1] rfl)
    · replace hf := im hf hc
      refine lv_aload_n hx hb dX9_layWants_100 rfl (lv_at hl 0 rfl) ?_
      obtain ⟨r1, e_r1, hf⟩ := ob hf
      refine r_getR X S fl_X9_29 e_r1 dX9_layWants_101 ?_
      refine lv_iload_n hx hb dX9_layWants_104 rfl (lv_at hl 1 rfl) ?_
      refine lv_iload hx hb dX9_layWants_105 (lv_at hl 2 rfl) ?_
      obtain ⟨h2, e_h2, hf⟩ := ob hf
      refine r_ast X S e_h2 dX9_layWants_107 (fun H locs S => ?_)
      refine lv_iinc (v := x3 + 1) (lv' := [(3, .int (x3 + 1)), (0, .ref (b + a0)), (4, .int x4), (5, .int x5)]) hx hb dX9_layWants_108 hl (k := 1) rfl rfl (by decide) rfl (fun ls hl => ?_)
      exact w_X9_layWants_b111 X Z  _ _ hf _ _ _ S (lv_sub hl [0] rfl)
def f_X9_layWants_b21 (K21 : Nat → Int32 → Int32 → Int32 → Int32 → Int32 → Int32 → HP → Option (Int32 × HP)) (a0 : Nat) (x1 : Int32) (x2 : Int32) (x3 : Int32) (x4 : Int32) (x5 : Int32) (x6 : Int32) (h : HP) : Option (Int32 × HP) :=
  (gR h a0 9 0).bind fun r1 =>
  (ald h r1 ((x1 + 48) + x2)).bind fun v2 =>
  if v2 ≤ x6 then
    f_X9_layWants_b89  a0 x3 x4 x5 h
  else
    if x5 = 0 then
      f_X9_layWants_b89  a0 x3 x4 x5 h
    else
      (gR h a0 9 12).bind fun r3 =>
      (gR h a0 9 0).bind fun r4 =>
      (ald h r4 ((x1 + (8 * x2)) + x6)).bind fun v5 =>
      (ast h r3 x3 v5).bind fun h6 =>
      (gR h6 a0 9 12).bind fun r7 =>
      (ald h6 r7 x3).bind fun v8 =>
      if v8 = x4 then
        f_X9_layWants_b78 K21 a0 x1 x2 x3 x4 x6 0 h6
      else
        f_X9_layWants_b78 K21 a0 x1 x2 x3 x4 x6 1 h6
set_option maxRecDepth 100000 in
set_option maxHeartbeats 4000000 in
theorem w_X9_layWants_b21 (X : CX RX9 cX9_layWants 7 (some .int) p s m args meth c G b) {out : Int32 × HP} (Z : ZI p l e RM_X9_layWants s m args below meth c cX9_layWants G b False 0 0 Q out) {K21 : Nat → Int32 → Int32 → Int32 → Int32 → Int32 → Int32 → HP → Option (Int32 × HP)} (hK21 : ∀ (a0 : Nat) (x1 : Int32) (x2 : Int32) (x3 : Int32) (x4 : Int32) (x5 : Int32) (x6 : Int32) (h : HP), K21 a0 x1 x2 x3 x4 x5 x6 h = some out → ∀ (H : Heap) (locs : List Loc) (ls : Array Slot), ST G b False s h H locs → lv_has ls 7 [(0, .ref (b + a0)), (1, .int x1), (2, .int x2), (3, .int x3), (4, .int x4), (5, .int x5), (6, .int x6)] → W p l e RM_X9_layWants s m args below meth c H locs 0 0 Q (F0 m 21 ls [])) : ∀ (a0 : Nat) (x1 : Int32) (x2 : Int32) (x3 : Int32) (x4 : Int32) (x5 : Int32) (x6 : Int32) (h : HP), f_X9_layWants_b21 K21 a0 x1 x2 x3 x4 x5 x6 h = some out → ∀ (H : Heap) (locs : List Loc) (ls : Array Slot), ST G b False s h H locs → lv_has ls 7 [(0, .ref (b + a0)), (1, .int x1), (2, .int x2), (3, .int x3), (4, .int x4), (5, .int x5), (6, .int x6)] → W p l e RM_X9_layWants s m args below meth c H locs 0 0 Q (F0 m 21 ls []) := by
  intro a0 x1 x2 x3 x4 x5 x6 h hf H locs ls S hl
  unfold f_X9_layWants_b21 at hf
  have hx := X.1
  have hb := X.2.1
  refine lv_iload hx hb dX9_layWants_21 (lv_at hl 6 rfl) ?_
  refine lv_aload_n hx hb dX9_layWants_23 rfl (lv_at hl 0 rfl) ?_
  obtain ⟨r1, e_r1, hf⟩ := ob hf
  refine r_getR X S fl_X9_7 e_r1 dX9_layWants_24 ?_
  refine lv_iload_n hx hb dX9_layWants_27 rfl (lv_at hl 1 rfl) ?_
  refine lv_bipush (v := 48) hx hb dX9_layWants_28 (by decide) ?_
  refine lv_iadd hx hb dX9_layWants_30 ?_
  refine lv_iload_n hx hb dX9_layWants_31 rfl (lv_at hl 2 rfl) ?_
  refine lv_iadd hx hb dX9_layWants_32 ?_
  obtain ⟨v2, e_v2, hf⟩ := ob hf
  refine r_ald X S e_v2 dX9_layWants_33 ?_
  refine lv_icmp_ge (tgt := 89) hx hb dX9_layWants_34 (by decide) (fun hc => ?_) (fun hc => ?_)
  · replace hf := ip hf hc
    exact w_X9_layWants_b89 X Z  _ _ _ _ _ hf _ _ _ S (lv_sub hl [0, 3, 4, 5] rfl)
  · replace hf := im hf hc
    refine lv_iload hx hb dX9_layWants_37 (lv_at hl 5 rfl) ?_
    refine lv_if_eq (tgt := 89) hx hb dX9_layWants_39 (by decide) (fun hc => ?_) (fun hc => ?_)
    · replace hf := ip hf hc
      exact w_X9_layWants_b89 X Z  _ _ _ _ _ hf _ _ _ S (lv_sub hl [0, 3, 4, 5] rfl)
    · replace hf := im hf hc
      refine lv_aload_n hx hb dX9_layWants_42 rfl (lv_at hl 0 rfl) ?_
      obtain ⟨r3, e_r3, hf⟩ := ob hf
      refine r_getR X S fl_X9_29 e_r3 dX9_layWants_43 ?_
      refine lv_iload_n hx hb dX9_layWants_46 rfl (lv_at hl 3 rfl) ?_
      refine lv_aload_n hx hb dX9_layWants_47 rfl (lv_at hl 0 rfl) ?_
      obtain ⟨r4, e_r4, hf⟩ := ob hf
      refine r_getR X S fl_X9_7 e_r4 dX9_layWants_48 ?_
      refine lv_iload_n hx hb dX9_layWants_51 rfl (lv_at hl 1 rfl) ?_
      refine lv_bipush (v := 8) hx hb dX9_layWants_52 (by decide) ?_
      refine lv_iload_n hx hb dX9_layWants_54 rfl (lv_at hl 2 rfl) ?_
      refine lv_imul hx hb dX9_layWants_55 ?_
      refine lv_iadd hx hb dX9_layWants_56 ?_
      refine lv_iload hx hb dX9_layWants_57 (lv_at hl 6 rfl) ?_
      refine lv_iadd hx hb dX9_layWants_59 ?_
      obtain ⟨v5, e_v5, hf⟩ := ob hf
      refine r_ald X S e_v5 dX9_layWants_60 ?_
      obtain ⟨h6, e_h6, hf⟩ := ob hf
      refine r_ast X S e_h6 dX9_layWants_61 (fun H locs S => ?_)
      refine lv_aload_n hx hb dX9_layWants_62 rfl (lv_at hl 0 rfl) ?_
      obtain ⟨r7, e_r7, hf⟩ := ob hf
      refine r_getR X S fl_X9_29 e_r7 dX9_layWants_63 ?_
      refine lv_iload_n hx hb dX9_layWants_66 rfl (lv_at hl 3 rfl) ?_
      obtain ⟨v8, e_v8, hf⟩ := ob hf
      refine r_ald X S e_v8 dX9_layWants_67 ?_
      refine lv_iload hx hb dX9_layWants_68 (lv_at hl 4 rfl) ?_
      refine lv_icmp_eq (tgt := 77) hx hb dX9_layWants_70 (by decide) (fun hc => ?_) (fun hc => ?_)
      · replace hf := ip hf hc
        refine lv_iconst (v := 0) hx hb dX9_layWants_77 (by decide) ?_
        exact w_X9_layWants_b78 X Z hK21 _ _ _ _ _ _ _ _ hf _ _ _ S (lv_sub hl [0, 1, 2, 3, 4, 6] rfl)
      · replace hf := im hf hc
        refine lv_iconst (v := 1) hx hb dX9_layWants_73 (by decide) ?_
        refine lv_goto (tgt := 78) hx hb dX9_layWants_74 (by decide) ?_
        exact w_X9_layWants_b78 X Z hK21 _ _ _ _ _ _ _ _ hf _ _ _ S (lv_sub hl [0, 1, 2, 3, 4, 6] rfl)
def F_X9_layWants_21  : Nat → Nat → Int32 → Int32 → Int32 → Int32 → Int32 → Int32 → HP → Option (Int32 × HP)
  | 0 => fun _ _ _ _ _ _ _ _ => none
  | n + 1 => fun a0 x1 x2 x3 x4 x5 x6 h => f_X9_layWants_b21 (F_X9_layWants_21  n) a0 x1 x2 x3 x4 x5 x6 h
theorem wl_X9_layWants_21 (X : CX RX9 cX9_layWants 7 (some .int) p s m args meth c G b) {out : Int32 × HP} (Z : ZI p l e RM_X9_layWants s m args below meth c cX9_layWants G b False 0 0 Q out)  : ∀ (n : Nat) (a0 : Nat) (x1 : Int32) (x2 : Int32) (x3 : Int32) (x4 : Int32) (x5 : Int32) (x6 : Int32) (h : HP), F_X9_layWants_21  n a0 x1 x2 x3 x4 x5 x6 h = some out → ∀ (H : Heap) (locs : List Loc) (ls : Array Slot), ST G b False s h H locs → lv_has ls 7 [(0, .ref (b + a0)), (1, .int x1), (2, .int x2), (3, .int x3), (4, .int x4), (5, .int x5), (6, .int x6)] → W p l e RM_X9_layWants s m args below meth c H locs 0 0 Q (F0 m 21 ls []) := by
  intro n
  induction n with
  | zero => intro a0 x1 x2 x3 x4 x5 x6 h hf; exact nn hf
  | succ n ih => exact w_X9_layWants_b21 X Z ih
def f_X9_layWants_e  (a0 : Nat) (x1 : Int32) (x2 : Int32) (h : HP) : Option (Int32 × HP) :=
  (gR h a0 9 0).bind fun r1 =>
  (ald h r1 ((x1 + 54) + x2)).bind fun v2 =>
  F_X9_layWants_21  FU a0 x1 x2 0 v2 1 0 h
set_option maxRecDepth 100000 in
set_option maxHeartbeats 4000000 in
theorem w_X9_layWants_e (X : CX RX9 cX9_layWants 7 (some .int) p s m args meth c G b) {out : Int32 × HP} (Z : ZI p l e RM_X9_layWants s m args below meth c cX9_layWants G b False 0 0 Q out)  : ∀ (a0 : Nat) (x1 : Int32) (x2 : Int32) (h : HP), f_X9_layWants_e  a0 x1 x2 h = some out → ∀ (H : Heap) (locs : List Loc) (ls : Array Slot), ST G b False s h H locs → lv_has ls 7 [(0, .ref (b + a0)), (1, .int x1), (2, .int x2)] → W p l e RM_X9_layWants s m args below meth c H locs 0 0 Q (F0 m 0 ls []) := by
  intro a0 x1 x2 h hf H locs ls S hl
  unfold f_X9_layWants_e at hf
  have hx := X.1
  have hb := X.2.1
  refine lv_iconst (v := 0) hx hb dX9_layWants_0 (by decide) ?_
  refine lv_istore_n (lv' := [(3, .int 0), (0, .ref (b + a0)), (1, .int x1), (2, .int x2)]) hx hb dX9_layWants_1 rfl hl (by decide) rfl (fun ls hl => ?_)
  refine lv_aload_n hx hb dX9_layWants_2 rfl (lv_at hl 1 rfl) ?_
  obtain ⟨r1, e_r1, hf⟩ := ob hf
  refine r_getR X S fl_X9_7 e_r1 dX9_layWants_3 ?_
  refine lv_iload_n hx hb dX9_layWants_6 rfl (lv_at hl 2 rfl) ?_
  refine lv_bipush (v := 54) hx hb dX9_layWants_7 (by decide) ?_
  refine lv_iadd hx hb dX9_layWants_9 ?_
  refine lv_iload_n hx hb dX9_layWants_10 rfl (lv_at hl 3 rfl) ?_
  refine lv_iadd hx hb dX9_layWants_11 ?_
  obtain ⟨v2, e_v2, hf⟩ := ob hf
  refine r_ald X S e_v2 dX9_layWants_12 ?_
  refine lv_istore (lv' := [(4, .int v2), (3, .int 0), (0, .ref (b + a0)), (1, .int x1), (2, .int x2)]) hx hb dX9_layWants_13 hl (by decide) rfl (fun ls hl => ?_)
  refine lv_iconst (v := 1) hx hb dX9_layWants_15 (by decide) ?_
  refine lv_istore (lv' := [(5, .int 1), (4, .int v2), (3, .int 0), (0, .ref (b + a0)), (1, .int x1), (2, .int x2)]) hx hb dX9_layWants_16 hl (by decide) rfl (fun ls hl => ?_)
  refine lv_iconst (v := 0) hx hb dX9_layWants_18 (by decide) ?_
  refine lv_istore (lv' := [(6, .int 0), (5, .int 1), (4, .int v2), (3, .int 0), (0, .ref (b + a0)), (1, .int x1), (2, .int x2)]) hx hb dX9_layWants_19 hl (by decide) rfl (fun ls hl => ?_)
  exact wl_X9_layWants_21 X Z  FU _ _ _ _ _ _ _ _ hf _ _ _ S (lv_sub hl [4, 5, 6, 3, 2, 1, 0] rfl)
def f_X9_layWants (a0 : Nat) (x1 : Int32) (x2 : Int32) (h : HP) : Option (Int32 × HP) := ck h a0 9 (f_X9_layWants_e a0 x1 x2 h)
theorem o_X9_layWants {a0 : Nat} {x1 : Int32} {x2 : Int32} {h : HP} {out : Int32 × HP} (hf : f_X9_layWants a0 x1 x2 h = some out) : ∃ fs, h[a0]? = some (.inl (9, fs)) := (ck_spec hf).1
set_option maxRecDepth 100000 in
theorem c_X9_layWants {l : Launch} {G : GT} {b : Nat} {a0 : Nat} {x1 : Int32} {x2 : Int32} {h : HP} {out : Int32 × HP} (hf : f_X9_layWants a0 x1 x2 h = some out) : MT l G b False False yX9_layWants cX9_layWants 7 (some .int) RM_X9_layWants [.ref (b + a0), .int x1, .int x2] h (some (.int out.1)) out.2 0 0 := by
  refine met_of (by decide) (Nat.le_of_ble_eq_true rfl) ?_
  intro p e s m below meth c ls X hnm S hl
  have hl : lv_has ls 7 [(0, .ref (b + a0)), (1, .int x1), (2, .int x2)] := hl
  replace hf := (ck_spec hf).2
  exact w_X9_layWants_e X (z_i X) _ _ _ _ hf _ _ _ S hl
/-! RoomRingsModel.rankOf(III)I -/
abbrev RM_X9_rankOf : Room := { frames := 1, cells := 0, slots := 0, locals := 26 }
def f_X9_rankOf_b11 (K11 : Nat → Int32 → Int32 → Int32 → HP → Option (Int32 × HP)) (a0 : Nat) (x3 : Int32) (x4 : Int32) (x5 : Int32) (h : HP) : Option (Int32 × HP) :=
  if x4 ≤ x5 then
    some (99, h)
  else
    (gR h a0 9 12).bind fun r1 =>
    (ald h r1 x5).bind fun v2 =>
    if v2 = x3 then
      some (x5, h)
    else
      K11 a0 x3 x4 (x5 + 1) h
set_option maxRecDepth 100000 in
set_option maxHeartbeats 4000000 in
theorem w_X9_rankOf_b11 (X : CX RX9 cX9_rankOf 6 (some .int) p s m args meth c G b) {out : Int32 × HP} (Z : ZI p l e RM_X9_rankOf s m args below meth c cX9_rankOf G b False 0 0 Q out) {K11 : Nat → Int32 → Int32 → Int32 → HP → Option (Int32 × HP)} (hK11 : ∀ (a0 : Nat) (x3 : Int32) (x4 : Int32) (x5 : Int32) (h : HP), K11 a0 x3 x4 x5 h = some out → ∀ (H : Heap) (locs : List Loc) (ls : Array Slot), ST G b False s h H locs → lv_has ls 6 [(0, .ref (b + a0)), (3, .int x3), (4, .int x4), (5, .int x5)] → W p l e RM_X9_rankOf s m args below meth c H locs 0 0 Q (F0 m 11 ls [])) : ∀ (a0 : Nat) (x3 : Int32) (x4 : Int32) (x5 : Int32) (h : HP), f_X9_rankOf_b11 K11 a0 x3 x4 x5 h = some out → ∀ (H : Heap) (locs : List Loc) (ls : Array Slot), ST G b False s h H locs → lv_has ls 6 [(0, .ref (b + a0)), (3, .int x3), (4, .int x4), (5, .int x5)] → W p l e RM_X9_rankOf s m args below meth c H locs 0 0 Q (F0 m 11 ls []) := by
  intro a0 x3 x4 x5 h hf H locs ls S hl
  unfold f_X9_rankOf_b11 at hf
  have hx := X.1
  have hb := X.2.1
  refine lv_iload hx hb dX9_rankOf_11 (lv_at hl 3 rfl) ?_
  refine lv_iload hx hb dX9_rankOf_13 (lv_at hl 2 rfl) ?_
  refine lv_icmp_ge (tgt := 38) hx hb dX9_rankOf_15 (by decide) (fun hc => ?_) (fun hc => ?_)
  · replace hf := ip hf hc
    refine lv_bipush (v := 99) hx hb dX9_rankOf_38 (by decide) ?_
    obtain rfl := Option.some.inj hf
    exact Z _ _ _ _ dX9_rankOf_40 S
  · replace hf := im hf hc
    refine lv_aload_n hx hb dX9_rankOf_18 rfl (lv_at hl 0 rfl) ?_
    obtain ⟨r1, e_r1, hf⟩ := ob hf
    refine r_getR X S fl_X9_29 e_r1 dX9_rankOf_19 ?_
    refine lv_iload hx hb dX9_rankOf_22 (lv_at hl 3 rfl) ?_
    obtain ⟨v2, e_v2, hf⟩ := ob hf
    refine r_ald X S e_v2 dX9_rankOf_24 ?_
    refine lv_iload_n hx hb dX9_rankOf_25 rfl (lv_at hl 1 rfl) ?_
    refine lv_icmp_ne (tgt := 32) hx hb dX9_rankOf_26 (by decide) (fun hc => ?_) (fun hc => ?_)
    · replace hf := im hf hc
      refine lv_iinc (v := x5 + 1) (lv' := [(5, .int (x5 + 1)), (0, .ref (b + a0)), (3, .int x3), (4, .int x4)]) hx hb dX9_rankOf_32 hl (k := 3) rfl rfl (by decide) rfl (fun ls hl => ?_)
      refine lv_goto (tgt := 11) hx hb dX9_rankOf_35 (by decide) ?_
      exact hK11 _ _ _ _ _ hf _ _ _ S (lv_sub hl [1, 2, 3, 0] rfl)
    · replace hf := ip hf hc
      refine lv_iload hx hb dX9_rankOf_29 (lv_at hl 3 rfl) ?_
      obtain rfl := Option.some.inj hf
      exact Z _ _ _ _ dX9_rankOf_31 S
def F_X9_rankOf_11  : Nat → Nat → Int32 → Int32 → Int32 → HP → Option (Int32 × HP)
  | 0 => fun _ _ _ _ _ => none
  | n + 1 => fun a0 x3 x4 x5 h => f_X9_rankOf_b11 (F_X9_rankOf_11  n) a0 x3 x4 x5 h
theorem wl_X9_rankOf_11 (X : CX RX9 cX9_rankOf 6 (some .int) p s m args meth c G b) {out : Int32 × HP} (Z : ZI p l e RM_X9_rankOf s m args below meth c cX9_rankOf G b False 0 0 Q out)  : ∀ (n : Nat) (a0 : Nat) (x3 : Int32) (x4 : Int32) (x5 : Int32) (h : HP), F_X9_rankOf_11  n a0 x3 x4 x5 h = some out → ∀ (H : Heap) (locs : List Loc) (ls : Array Slot), ST G b False s h H locs → lv_has ls 6 [(0, .ref (b + a0)), (3, .int x3), (4, .int x4), (5, .int x5)] → W p l e RM_X9_rankOf s m args below meth c H locs 0 0 Q (F0 m 11 ls []) := by
  intro n
  induction n with
  | zero => intro a0 x3 x4 x5 h hf; exact nn hf
  | succ n ih => exact w_X9_rankOf_b11 X Z ih
def f_X9_rankOf_e  (a0 : Nat) (x1 : Int32) (x2 : Int32) (x3 : Int32) (h : HP) : Option (Int32 × HP) :=
  (f_X9_layWants a0 x1 x2 h).bind fun q1 =>
  F_X9_rankOf_11  FU a0 x3 q1.1 0 q1.2
set_option maxRecDepth 100000 in
set_option maxHeartbeats 4000000 in
theorem w_X9_rankOf_e (X : CX RX9 cX9_rankOf 6 (some .int) p s m args meth c G b) {out : Int32 × HP} (Z : ZI p l e RM_X9_rankOf s m args below meth c cX9_rankOf G b False 0 0 Q out)  : ∀ (a0 : Nat) (x1 : Int32) (x2 : Int32) (x3 : Int32) (h : HP), f_X9_rankOf_e  a0 x1 x2 x3 h = some out → ∀ (H : Heap) (locs : List Loc) (ls : Array Slot), ST G b False s h H locs → lv_has ls 6 [(0, .ref (b + a0)), (1, .int x1), (2, .int x2), (3, .int x3)] → W p l e RM_X9_rankOf s m args below meth c H locs 0 0 Q (F0 m 0 ls []) := by
  intro a0 x1 x2 x3 h hf H locs ls S hl
  unfold f_X9_rankOf_e at hf
  have hx := X.1
  have hb := X.2.1
  refine lv_aload_n hx hb dX9_rankOf_0 rfl (lv_at hl 0 rfl) ?_
  refine lv_iload_n hx hb dX9_rankOf_1 rfl (lv_at hl 1 rfl) ?_
  refine lv_iload_n hx hb dX9_rankOf_2 rfl (lv_at hl 2 rfl) ?_
  obtain ⟨q1, e_q1, hf⟩ := ob hf
  refine r_callV X S hl.1 (As := [.int x1, .int x2]) (rest := []) (c_X9_layWants e_q1) my_X9_layWants mv_X9_layWants ml_X9_131 rfl (o_X9_layWants e_q1) ⟨rfl, rfl, Nat.le_of_ble_eq_true rfl, Nat.le_of_ble_eq_true rfl⟩ rfl rfl (Nat.le_of_ble_eq_true rfl) dX9_rankOf_3 ⟨Nat.le_of_ble_eq_true rfl, Nat.le_of_ble_eq_true rfl⟩ (fun H locs S => ?_)
  refine W.eq (g2 := F0 m 6 ls [.int q1.1]) rfl ?_
  refine lv_istore (lv' := [(4, .int q1.1), (0, .ref (b + a0)), (1, .int x1), (2, .int x2), (3, .int x3)]) hx hb dX9_rankOf_6 hl (by decide) rfl (fun ls hl => ?_)
  refine lv_iconst (v := 0) hx hb dX9_rankOf_8 (by decide) ?_
  refine lv_istore (lv' := [(5, .int 0), (4, .int q1.1), (0, .ref (b + a0)), (1, .int x1), (2, .int x2), (3, .int x3)]) hx hb dX9_rankOf_9 hl (by decide) rfl (fun ls hl => ?_)
  exact wl_X9_rankOf_11 X Z  FU _ _ _ _ _ hf _ _ _ S (lv_sub hl [2, 5, 1, 0] rfl)
def f_X9_rankOf (a0 : Nat) (x1 : Int32) (x2 : Int32) (x3 : Int32) (h : HP) : Option (Int32 × HP) := ck h a0 9 (f_X9_rankOf_e a0 x1 x2 x3 h)
theorem o_X9_rankOf {a0 : Nat} {x1 : Int32} {x2 : Int32} {x3 : Int32} {h : HP} {out : Int32 × HP} (hf : f_X9_rankOf a0 x1 x2 x3 h = some out) : ∃ fs, h[a0]? = some (.inl (9, fs)) := (ck_spec hf).1
set_option maxRecDepth 100000 in
theorem c_X9_rankOf {l : Launch} {G : GT} {b : Nat} {a0 : Nat} {x1 : Int32} {x2 : Int32} {x3 : Int32} {h : HP} {out : Int32 × HP} (hf : f_X9_rankOf a0 x1 x2 x3 h = some out) : MT l G b False False yX9_rankOf cX9_rankOf 6 (some .int) RM_X9_rankOf [.ref (b + a0), .int x1, .int x2, .int x3] h (some (.int out.1)) out.2 0 0 := by
  refine met_of (by decide) (Nat.le_of_ble_eq_true rfl) ?_
  intro p e s m below meth c ls X hnm S hl
  have hl : lv_has ls 6 [(0, .ref (b + a0)), (1, .int x1), (2, .int x2), (3, .int x3)] := hl
  replace hf := (ck_spec hf).2
  exact w_X9_rankOf_e X (z_i X) _ _ _ _ _ hf _ _ _ S hl
/-! RoomRingsModel.mostOf(III)I -/
abbrev RM_X9_mostOf : Room := { frames := 1, cells := 0, slots := 0, locals := 26 }
def f_X9_mostOf_b11 (K11 : Nat → Int32 → Int32 → Int32 → HP → Option (Int32 × HP)) (a0 : Nat) (x3 : Int32) (x4 : Int32) (x5 : Int32) (h : HP) : Option (Int32 × HP) :=
  if x4 ≤ x5 then
    some ((-1), h)
  else
    (gR h a0 9 12).bind fun r1 =>
    (ald h r1 x5).bind fun v2 =>
    (f_X9_has x3 v2 h).bind fun q3 =>
    if q3.1 = 0 then
      K11 a0 x3 x4 (x5 + 1) q3.2
    else
      (gR q3.2 a0 9 12).bind fun r4 =>
      (ald q3.2 r4 x5).bind fun v5 =>
      some (v5, q3.2)
set_option maxRecDepth 100000 in
set_option maxHeartbeats 4000000 in
theorem w_X9_mostOf_b11 (X : CX RX9 cX9_mostOf 6 (some .int) p s m args meth c G b) {out : Int32 × HP} (Z : ZI p l e RM_X9_mostOf s m args below meth c cX9_mostOf G b False 0 0 Q out) {K11 : Nat → Int32 → Int32 → Int32 → HP → Option (Int32 × HP)} (hK11 : ∀ (a0 : Nat) (x3 : Int32) (x4 : Int32) (x5 : Int32) (h : HP), K11 a0 x3 x4 x5 h = some out → ∀ (H : Heap) (locs : List Loc) (ls : Array Slot), ST G b False s h H locs → lv_has ls 6 [(0, .ref (b + a0)), (3, .int x3), (4, .int x4), (5, .int x5)] → W p l e RM_X9_mostOf s m args below meth c H locs 0 0 Q (F0 m 11 ls [])) : ∀ (a0 : Nat) (x3 : Int32) (x4 : Int32) (x5 : Int32) (h : HP), f_X9_mostOf_b11 K11 a0 x3 x4 x5 h = some out → ∀ (H : Heap) (locs : List Loc) (ls : Array Slot), ST G b False s h H locs → lv_has ls 6 [(0, .ref (b + a0)), (3, .int x3), (4, .int x4), (5, .int x5)] → W p l e RM_X9_mostOf s m args below meth c H locs 0 0 Q (F0 m 11 ls []) := by
  intro a0 x3 x4 x5 h hf H locs ls S hl
  unfold f_X9_mostOf_b11 at hf
  have hx := X.1
  have hb := X.2.1
  refine lv_iload hx hb dX9_mostOf_11 (lv_at hl 3 rfl) ?_
  refine lv_iload hx hb dX9_mostOf_13 (lv_at hl 2 rfl) ?_
  refine lv_icmp_ge (tgt := 46) hx hb dX9_mostOf_15 (by decide) (fun hc => ?_) (fun hc => ?_)
  · replace hf := ip hf hc
    refine lv_iconst (v := (-1)) hx hb dX9_mostOf_46 (by decide) ?_
    obtain rfl := Option.some.inj hf
    exact Z _ _ _ _ dX9_mostOf_47 S
  · replace hf := im hf hc
    refine lv_iload_n hx hb dX9_mostOf_18 rfl (lv_at hl 1 rfl) ?_
    refine lv_aload_n hx hb dX9_mostOf_19 rfl (lv_at hl 0 rfl) ?_
    obtain ⟨r1, e_r1, hf⟩ := ob hf
    refine r_getR X S fl_X9_29 e_r1 dX9_mostOf_20 ?_
    refine lv_iload hx hb dX9_mostOf_23 (lv_at hl 3 rfl) ?_
    obtain ⟨v2, e_v2, hf⟩ := ob hf
    refine r_ald X S e_v2 dX9_mostOf_25 ?_
    obtain ⟨q3, e_q3, hf⟩ := ob hf
    refine r_callS X S hl.1 (As := [.int x3, .int v2]) (rest := []) (c_X9_has e_q3) my_X9_has ms_X9_has ml_X9_134 ⟨rfl, rfl, Nat.le_of_ble_eq_true rfl, Nat.le_of_ble_eq_true rfl⟩ rfl rfl (Nat.le_of_ble_eq_true rfl) dX9_mostOf_26 ⟨Nat.le_of_ble_eq_true rfl, Nat.le_of_ble_eq_true rfl⟩ (fun H locs S => ?_)
    refine W.eq (g2 := F0 m 29 ls [.int q3.1]) rfl ?_
    refine lv_if_eq (tgt := 40) hx hb dX9_mostOf_29 (by decide) (fun hc => ?_) (fun hc => ?_)
    · replace hf := ip hf hc
      refine lv_iinc (v := x5 + 1) (lv' := [(5, .int (x5 + 1)), (0, .ref (b + a0)), (3, .int x3), (4, .int x4)]) hx hb dX9_mostOf_40 hl (k := 3) rfl rfl (by decide) rfl (fun ls hl => ?_)
      refine lv_goto (tgt := 11) hx hb dX9_mostOf_43 (by decide) ?_
      exact hK11 _ _ _ _ _ hf _ _ _ S (lv_sub hl [1, 2, 3, 0] rfl)
    · replace hf := im hf hc
      refine lv_aload_n hx hb dX9_mostOf_32 rfl (lv_at hl 0 rfl) ?_
      obtain ⟨r4, e_r4, hf⟩ := ob hf
      refine r_getR X S fl_X9_29 e_r4 dX9_mostOf_33 ?_
      refine lv_iload hx hb dX9_mostOf_36 (lv_at hl 3 rfl) ?_
      obtain ⟨v5, e_v5, hf⟩ := ob hf
      refine r_ald X S e_v5 dX9_mostOf_38 ?_
      obtain rfl := Option.some.inj hf
      exact Z _ _ _ _ dX9_mostOf_39 S
def F_X9_mostOf_11  : Nat → Nat → Int32 → Int32 → Int32 → HP → Option (Int32 × HP)
  | 0 => fun _ _ _ _ _ => none
  | n + 1 => fun a0 x3 x4 x5 h => f_X9_mostOf_b11 (F_X9_mostOf_11  n) a0 x3 x4 x5 h
theorem wl_X9_mostOf_11 (X : CX RX9 cX9_mostOf 6 (some .int) p s m args meth c G b) {out : Int32 × HP} (Z : ZI p l e RM_X9_mostOf s m args below meth c cX9_mostOf G b False 0 0 Q out)  : ∀ (n : Nat) (a0 : Nat) (x3 : Int32) (x4 : Int32) (x5 : Int32) (h : HP), F_X9_mostOf_11  n a0 x3 x4 x5 h = some out → ∀ (H : Heap) (locs : List Loc) (ls : Array Slot), ST G b False s h H locs → lv_has ls 6 [(0, .ref (b + a0)), (3, .int x3), (4, .int x4), (5, .int x5)] → W p l e RM_X9_mostOf s m args below meth c H locs 0 0 Q (F0 m 11 ls []) := by
  intro n
  induction n with
  | zero => intro a0 x3 x4 x5 h hf; exact nn hf
  | succ n ih => exact w_X9_mostOf_b11 X Z ih
def f_X9_mostOf_e  (a0 : Nat) (x1 : Int32) (x2 : Int32) (x3 : Int32) (h : HP) : Option (Int32 × HP) :=
  (f_X9_layWants a0 x1 x2 h).bind fun q1 =>
  F_X9_mostOf_11  FU a0 x3 q1.1 0 q1.2
set_option maxRecDepth 100000 in
set_option maxHeartbeats 4000000 in
theorem w_X9_mostOf_e (X : CX RX9 cX9_mostOf 6 (some .int) p s m args meth c G b) {out : Int32 × HP} (Z : ZI p l e RM_X9_mostOf s m args below meth c cX9_mostOf G b False 0 0 Q out)  : ∀ (a0 : Nat) (x1 : Int32) (x2 : Int32) (x3 : Int32) (h : HP), f_X9_mostOf_e  a0 x1 x2 x3 h = some out → ∀ (H : Heap) (locs : List Loc) (ls : Array Slot), ST G b False s h H locs → lv_has ls 6 [(0, .ref (b + a0)), (1, .int x1), (2, .int x2), (3, .int x3)] → W p l e RM_X9_mostOf s m args below meth c H locs 0 0 Q (F0 m 0 ls []) := by
  intro a0 x1 x2 x3 h hf H locs ls S hl
  unfold f_X9_mostOf_e at hf
  have hx := X.1
  have hb := X.2.1
  refine lv_aload_n hx hb dX9_mostOf_0 rfl (lv_at hl 0 rfl) ?_
  refine lv_iload_n hx hb dX9_mostOf_1 rfl (lv_at hl 1 rfl) ?_
  refine lv_iload_n hx hb dX9_mostOf_2 rfl (lv_at hl 2 rfl) ?_
  obtain ⟨q1, e_q1, hf⟩ := ob hf
  refine r_callV X S hl.1 (As := [.int x1, .int x2]) (rest := []) (c_X9_layWants e_q1) my_X9_layWants mv_X9_layWants ml_X9_131 rfl (o_X9_layWants e_q1) ⟨rfl, rfl, Nat.le_of_ble_eq_true rfl, Nat.le_of_ble_eq_true rfl⟩ rfl rfl (Nat.le_of_ble_eq_true rfl) dX9_mostOf_3 ⟨Nat.le_of_ble_eq_true rfl, Nat.le_of_ble_eq_true rfl⟩ (fun H locs S => ?_)
  refine W.eq (g2 := F0 m 6 ls [.int q1.1]) rfl ?_
  refine lv_istore (lv' := [(4, .int q1.1), (0, .ref (b + a0)), (1, .int x1), (2, .int x2), (3, .int x3)]) hx hb dX9_mostOf_6 hl (by decide) rfl (fun ls hl => ?_)
  refine lv_iconst (v := 0) hx hb dX9_mostOf_8 (by decide) ?_
  refine lv_istore (lv' := [(5, .int 0), (4, .int q1.1), (0, .ref (b + a0)), (1, .int x1), (2, .int x2), (3, .int x3)]) hx hb dX9_mostOf_9 hl (by decide) rfl (fun ls hl => ?_)
  exact wl_X9_mostOf_11 X Z  FU _ _ _ _ _ hf _ _ _ S (lv_sub hl [2, 5, 1, 0] rfl)
def f_X9_mostOf (a0 : Nat) (x1 : Int32) (x2 : Int32) (x3 : Int32) (h : HP) : Option (Int32 × HP) := ck h a0 9 (f_X9_mostOf_e a0 x1 x2 x3 h)
theorem o_X9_mostOf {a0 : Nat} {x1 : Int32} {x2 : Int32} {x3 : Int32} {h : HP} {out : Int32 × HP} (hf : f_X9_mostOf a0 x1 x2 x3 h = some out) : ∃ fs, h[a0]? = some (.inl (9, fs)) := (ck_spec hf).1
set_option maxRecDepth 100000 in
theorem c_X9_mostOf {l : Launch} {G : GT} {b : Nat} {a0 : Nat} {x1 : Int32} {x2 : Int32} {x3 : Int32} {h : HP} {out : Int32 × HP} (hf : f_X9_mostOf a0 x1 x2 x3 h = some out) : MT l G b False False yX9_mostOf cX9_mostOf 6 (some .int) RM_X9_mostOf [.ref (b + a0), .int x1, .int x2, .int x3] h (some (.int out.1)) out.2 0 0 := by
  refine met_of (by decide) (Nat.le_of_ble_eq_true rfl) ?_
  intro p e s m below meth c ls X hnm S hl
  have hl : lv_has ls 6 [(0, .ref (b + a0)), (1, .int x1), (2, .int x2), (3, .int x3)] := hl
  replace hf := (ck_spec hf).2
  exact w_X9_mostOf_e X (z_i X) _ _ _ _ _ hf _ _ _ S hl
end M13
