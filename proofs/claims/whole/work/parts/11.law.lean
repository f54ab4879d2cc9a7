/-! THE CLAIM OUT OF ONE WALK OF THE LAW'S BODY. Your part is whole_start (and what it stands on); all else here is the same for every law, but numbers. -/
def R_law : String := "RoomRingsLaw"
def lw_P (b : Addr) (xs : List Int32) (args : Array Value) (s : State) : Prop := args = #[.ref b] ∧ s.IntsAt b xs ∧ xs.length ≤ 2048 ∧ (Jvm.Cond.and given_1 narrow_1).before args s = true
def lw_Q (_ : Array Value) (s : State) (o : Outcome) (t : State) : Prop := o = .returned (some (.int 1)) ∧ Framed s o t [] 600000 7302250
def lw_Z (below : List Frame) (a : Array Value) (s : State) : State → Prop := fun t => ∃ o, t.status = .running ∧ Ended t below o ∧ lw_Q a s o t
/-- the law's own end, with 1 on the stack, nothing written that was there before, its room as the claim has it -/
theorem lw_ret {p : Program} {l : Launch} {e : Env} {s : State} {m : MethodId} {below : List Frame} {meth : Method} {c : Code} {b : Nat} (hx : p.tables.exec = Jvm.exec) (hb : c.code = code) (hr : meth.sig.returnType = ret) (hlocks : meth.locks = false) {pc : Nat} {H : Heap} {ls : Array Slot} (hdg : decode code pc = .ok (.ireturn, 1)) : W p l e room_1 s m #[Value.ref b] below meth c H [] 600000 7302250 (lw_Z below #[Value.ref b] s) (F0 m pc ls [.int 1]) := by
  intro T hT X
  obtain ⟨fs, hret, hrun, hended, hW, hframe⟩ := X.leave (v := some (.int 1)) (hlocks := hlocks) (fun h => by rw [hr] at h; cases h)
  have hmeth' : T.vm.method? m = some meth := X.method'
  refine ⟨T.setFrames fs, ?_, .returned (some (.int 1)), hrun, hended, rfl, ⟨_, rfl⟩, hW, hframe⟩
  jvm_step X.here [X.here.top, hx, hb, hdg, hmeth', hr, ret, narrow_b1]
  (try refine ⟨rfl, ?_⟩); (try refine ⟨rfl, ?_⟩)
  first | (intro acts; rw [hret _ acts rfl rfl rfl]) | rw [hret _ _ rfl rfl rfl]
  exact Steps.refl _
/-- what holds at the law's entry: the machine, the code, the tables' words (any of lw_tbl by 'hts w (by decide +kernel)'), the script of L ints xs at the cell b, what the Statement gives of the start (any of its parts by flat_of_before) -/
def lw_At (p : Program) (s : State) (m : MethodId) (meth : Method) (c : Code) (b L : Nat) (xs : Nat → Int32) : Prop :=
  p.tables.exec = Jvm.exec ∧ c.code = code ∧ meth.sig.returnType = ret ∧ c.maxLocals = 4 ∧ s.vm.findClass R_law = some m.cls ∧ (∀ w ∈ lw_tbl, w.before #[Value.ref b] s = true) ∧ va_X b L xs s s.heap ∧ b < s.heap.size ∧ meth.locks = false ∧ (Jvm.Cond.and given_1 narrow_1).before #[Value.ref b] s = true
theorem law_in {i L : Nat} (h : i + 4 ≤ L ∧ L ≤ 2048) : vp_in (nI i + 1) L ∧ vp_in (nI i + 2) L ∧ vp_in (nI i + 3) L := ⟨by rw [show nI i + 1 = nI (i + 1) from nI_add i 1]; exact vp_in_nI (by omega) (by omega), by rw [show nI i + 2 = nI (i + 2) from nI_add i 2]; exact vp_in_nI (by omega) (by omega), by rw [show nI i + 3 = nI (i + 3) from nI_add i 3]; exact vp_in_nI (by omega) (by omega)⟩
/-- one call of the class and of the reference: the same answer, and what holds goes on to hold -/
def SK0 (f g : Nat → HP → Option (Int32 × HP)) (Inv : HP → Prop) : Prop := ∀ h, Inv h → ∃ r h1 h2, f 0 h = some (r, h1) ∧ g 142 h1 = some (r, h2) ∧ Inv h2
def SK1 (f g : Nat → Int32 → HP → Option (Int32 × HP)) (Inv : HP → Prop) : Prop := ∀ h x, Inv h → ∃ r h1 h2, f 0 x h = some (r, h1) ∧ g 142 x h1 = some (r, h2) ∧ Inv h2
def SK2 (f g : Nat → Int32 → Int32 → HP → Option (Int32 × HP)) (Inv : HP → Prop) : Prop := ∀ h x y, Inv h → ∃ r h1 h2, f 0 x y h = some (r, h1) ∧ g 142 x y h1 = some (r, h2) ∧ Inv h2
def SK3 (f g : Nat → Int32 → Int32 → Int32 → HP → Option (Int32 × HP)) (Inv : HP → Prop) : Prop := ∀ h x y z, Inv h → ∃ r h1 h2, f 0 x y z h = some (r, h1) ∧ g 142 x y z h1 = some (r, h2) ∧ Inv h2
def SKZ (f g : Nat → Int32 → Int32 → HP → Option (Int32 × HP)) (Inv : HP → Prop) : Prop := ∀ h x y, y = 0 ∨ y = 1 → Inv h → ∃ r h1 h2, f 0 x y h = some (r, h1) ∧ g 142 x y h1 = some (r, h2) ∧ Inv h2
abbrev CC : Nat := 154
abbrev SS : Nat := 4138
section LAW
variable {p : Program} {l : Launch} {e : Env} {s : State} {m : MethodId} {below : List Frame} {meth : Method} {c : Code} {G : GT} {b b0 L : Nat} {xs : Nat → Int32} {Inv : HP → Prop}
theorem law_next (X : CX RL cL_law 4 (some .boolean) p s m #[Value.ref b0] meth c G b) {i : Nat} (hi4 : i + 4 ≤ L ∧ L ≤ 2048) (ih : ∀ (h : HP) (H : Heap) (locs : List Loc) (ls : Array Slot), Inv h → ST G b False s h H locs → lv_has ls 4 [(0, .ref b0), (1, .ref (b + 0)), (2, .ref (b + 142)), (3, .int (nI (i + 4)))] → W p l e room_1 s m #[Value.ref b0] below meth c H locs CC SS (lw_Z below #[Value.ref b0] s) (F0 m 18 ls [])) (h : HP) (H : Heap) (locs : List Loc) (ls : Array Slot) (hI : Inv h) (S : ST G b False s h H locs) (hl : lv_has ls 4 [(0, .ref b0), (1, .ref (b + 0)), (2, .ref (b + 142)), (3, .int (nI i))]) : W p l e room_1 s m #[Value.ref b0] below meth c H locs CC SS (lw_Z below #[Value.ref b0] s) (F0 m 843 ls []) := by
  have hx := X.1
  have hb := X.2.1
  refine lv_iinc (v := nI (i + 4)) (lv' := [(3, .int (nI (i + 4))), (0, .ref b0), (1, .ref (b + 0)), (2, .ref (b + 142))]) hx hb dL_law_843 hl (k := 3) rfl (nI_add i 4) (by decide) rfl (fun ls hl => ?_)
  refine lv_goto (tgt := 18) hx hb dL_law_846 (by decide) ?_
  exact ih _ _ _ _ hI S (lv_sub hl [1, 2, 3, 0] rfl)
set_option maxRecDepth 100000 in
set_option maxHeartbeats 4000000 in
theorem law_c0 (X : CX RL cL_law 4 (some .boolean) p s m #[Value.ref b0] meth c G b) (hX : va_X b0 L xs s s.heap) (hbl : b0 < s.heap.size) (hbA : ¬ AB b b0) {i : Nat} (hi4 : i + 4 ≤ L ∧ L ≤ 2048) (t0 : SK1 f_X8_feed f_X9_feed Inv) (ih : ∀ (h : HP) (H : Heap) (locs : List Loc) (ls : Array Slot), Inv h → ST G b False s h H locs → lv_has ls 4 [(0, .ref b0), (1, .ref (b + 0)), (2, .ref (b + 142)), (3, .int (nI (i + 4)))] → W p l e room_1 s m #[Value.ref b0] below meth c H locs CC SS (lw_Z below #[Value.ref b0] s) (F0 m 18 ls [])) (h : HP) (H : Heap) (locs : List Loc) (ls : Array Slot) (hI : Inv h) (S : ST G b False s h H locs) (hl : lv_has ls 4 [(0, .ref b0), (1, .ref (b + 0)), (2, .ref (b + 142)), (3, .int (nI i))]) : W p l e room_1 s m #[Value.ref b0] below meth c H locs CC SS (lw_Z below #[Value.ref b0] s) (F0 m 156 ls []) := by
  have hx := X.1
  have hb := X.2.1
  obtain ⟨i1, i2, i3⟩ := law_in hi4
  obtain ⟨r, h1, h2, e1, e2, hI⟩ := t0 h (xs (nI i + 1).toNatClampNeg) hI
  refine lv_aload_n hx hb dL_law_156 rfl (lv_at hl 1 rfl) ?_
  refine lv_aload_n hx hb dL_law_157 rfl (lv_at hl 0 rfl) ?_
  refine lv_iload_n hx hb dL_law_158 rfl (lv_at hl 3 rfl) ?_
  refine lv_iconst (v := 1) hx hb dL_law_159 (by decide) ?_
  refine lv_iadd hx hb dL_law_160 ?_
  refine va_sld hx hb hX hbl hbA S.2 i1 dL_law_161 ?_
  refine r_callV X S hl.1 (As := [.int (xs (nI i + 1).toNatClampNeg)]) (rest := []) (c_X8_feed e1) my_X8_feed mv_X8_feed ml_L_13 rfl (o_X8_feed e1) ⟨rfl, rfl, Nat.le_of_ble_eq_true rfl, Nat.le_of_ble_eq_true rfl⟩ rfl rfl (Nat.le_of_ble_eq_true rfl) dL_law_162 ⟨Nat.le_of_ble_eq_true rfl, Nat.le_of_ble_eq_true rfl⟩ (fun H locs S => ?_)
  refine W.eq (g2 := F0 m 165 ls [.int r]) rfl ?_
  refine lv_aload_n hx hb dL_law_165 rfl (lv_at hl 2 rfl) ?_
  refine lv_aload_n hx hb dL_law_166 rfl (lv_at hl 0 rfl) ?_
  refine lv_iload_n hx hb dL_law_167 rfl (lv_at hl 3 rfl) ?_
  refine lv_iconst (v := 1) hx hb dL_law_168 (by decide) ?_
  refine lv_iadd hx hb dL_law_169 ?_
  refine va_sld hx hb hX hbl hbA S.2 i1 dL_law_170 ?_
  refine r_callV X S hl.1 (As := [.int (xs (nI i + 1).toNatClampNeg)]) (rest := [.int r]) (c_X9_feed e2) my_X9_feed mv_X9_feed ml_L_17 rfl (o_X9_feed e2) ⟨rfl, rfl, Nat.le_of_ble_eq_true rfl, Nat.le_of_ble_eq_true rfl⟩ rfl rfl (Nat.le_of_ble_eq_true rfl) dL_law_171 ⟨Nat.le_of_ble_eq_true rfl, Nat.le_of_ble_eq_true rfl⟩ (fun H locs S => ?_)
  refine W.eq (g2 := F0 m 174 ls [.int r, .int r]) rfl ?_
  refine lv_icmp_eq (tgt := 843) hx hb dL_law_174 (by decide) (fun _ => ?_) (fun hc => absurd rfl hc)
  exact law_next X hi4 ih _ _ _ _ hI S hl
set_option maxRecDepth 100000 in
set_option maxHeartbeats 4000000 in
theorem law_c1 (X : CX RL cL_law 4 (some .boolean) p s m #[Value.ref b0] meth c G b) (hX : va_X b0 L xs s s.heap) (hbl : b0 < s.heap.size) (hbA : ¬ AB b b0) {i : Nat} (hi4 : i + 4 ≤ L ∧ L ≤ 2048) (t1 : SK0 f_X8_hostel f_X9_hostel Inv) (ih : ∀ (h : HP) (H : Heap) (locs : List Loc) (ls : Array Slot), Inv h → ST G b False s h H locs → lv_has ls 4 [(0, .ref b0), (1, .ref (b + 0)), (2, .ref (b + 142)), (3, .int (nI (i + 4)))] → W p l e room_1 s m #[Value.ref b0] below meth c H locs CC SS (lw_Z below #[Value.ref b0] s) (F0 m 18 ls [])) (h : HP) (H : Heap) (locs : List Loc) (ls : Array Slot) (hI : Inv h) (S : ST G b False s h H locs) (hl : lv_has ls 4 [(0, .ref b0), (1, .ref (b + 0)), (2, .ref (b + 142)), (3, .int (nI i))]) : W p l e room_1 s m #[Value.ref b0] below meth c H locs CC SS (lw_Z below #[Value.ref b0] s) (F0 m 179 ls []) := by
  have hx := X.1
  have hb := X.2.1
  obtain ⟨i1, i2, i3⟩ := law_in hi4
  obtain ⟨r, h1, h2, e1, e2, hI⟩ := t1 h hI
  refine lv_aload_n hx hb dL_law_179 rfl (lv_at hl 1 rfl) ?_
  refine r_callV X S hl.1 (As := []) (rest := []) (c_X8_hostel e1) my_X8_hostel mv_X8_hostel ml_L_18 rfl (o_X8_hostel e1) ⟨rfl, rfl, Nat.le_of_ble_eq_true rfl, Nat.le_of_ble_eq_true rfl⟩ rfl rfl (Nat.le_of_ble_eq_true rfl) dL_law_180 ⟨Nat.le_of_ble_eq_true rfl, Nat.le_of_ble_eq_true rfl⟩ (fun H locs S => ?_)
  refine W.eq (g2 := F0 m 183 ls [.int r]) rfl ?_
  refine lv_aload_n hx hb dL_law_183 rfl (lv_at hl 2 rfl) ?_
  refine r_callV X S hl.1 (As := []) (rest := [.int r]) (c_X9_hostel e2) my_X9_hostel mv_X9_hostel ml_L_22 rfl (o_X9_hostel e2) ⟨rfl, rfl, Nat.le_of_ble_eq_true rfl, Nat.le_of_ble_eq_true rfl⟩ rfl rfl (Nat.le_of_ble_eq_true rfl) dL_law_184 ⟨Nat.le_of_ble_eq_true rfl, Nat.le_of_ble_eq_true rfl⟩ (fun H locs S => ?_)
  refine W.eq (g2 := F0 m 187 ls [.int r, .int r]) rfl ?_
  refine lv_icmp_eq (tgt := 843) hx hb dL_law_187 (by decide) (fun _ => ?_) (fun hc => absurd rfl hc)
  exact law_next X hi4 ih _ _ _ _ hI S hl
set_option maxRecDepth 100000 in
set_option maxHeartbeats 4000000 in
theorem law_c2 (X : CX RL cL_law 4 (some .boolean) p s m #[Value.ref b0] meth c G b) (hX : va_X b0 L xs s s.heap) (hbl : b0 < s.heap.size) (hbA : ¬ AB b b0) {i : Nat} (hi4 : i + 4 ≤ L ∧ L ≤ 2048) (t2 : SK0 f_X8_fault f_X9_fault Inv) (ih : ∀ (h : HP) (H : Heap) (locs : List Loc) (ls : Array Slot), Inv h → ST G b False s h H locs → lv_has ls 4 [(0, .ref b0), (1, .ref (b + 0)), (2, .ref (b + 142)), (3, .int (nI (i + 4)))] → W p l e room_1 s m #[Value.ref b0] below meth c H locs CC SS (lw_Z below #[Value.ref b0] s) (F0 m 18 ls [])) (h : HP) (H : Heap) (locs : List Loc) (ls : Array Slot) (hI : Inv h) (S : ST G b False s h H locs) (hl : lv_has ls 4 [(0, .ref b0), (1, .ref (b + 0)), (2, .ref (b + 142)), (3, .int (nI i))]) : W p l e room_1 s m #[Value.ref b0] below meth c H locs CC SS (lw_Z below #[Value.ref b0] s) (F0 m 192 ls []) := by
  have hx := X.1
  have hb := X.2.1
  obtain ⟨i1, i2, i3⟩ := law_in hi4
  obtain ⟨r, h1, h2, e1, e2, hI⟩ := t2 h hI
  refine lv_aload_n hx hb dL_law_192 rfl (lv_at hl 1 rfl) ?_
  refine r_callV X S hl.1 (As := []) (rest := []) (c_X8_fault e1) my_X8_fault mv_X8_fault ml_L_23 rfl (o_X8_fault e1) ⟨rfl, rfl, Nat.le_of_ble_eq_true rfl, Nat.le_of_ble_eq_true rfl⟩ rfl rfl (Nat.le_of_ble_eq_true rfl) dL_law_193 ⟨Nat.le_of_ble_eq_true rfl, Nat.le_of_ble_eq_true rfl⟩ (fun H locs S => ?_)
  refine W.eq (g2 := F0 m 196 ls [.int r]) rfl ?_
  refine lv_aload_n hx hb dL_law_196 rfl (lv_at hl 2 rfl) ?_
  refine r_callV X S hl.1 (As := []) (rest := [.int r]) (c_X9_fault e2) my_X9_fault mv_X9_fault ml_L_26 rfl (o_X9_fault e2) ⟨rfl, rfl, Nat.le_of_ble_eq_true rfl, Nat.le_of_ble_eq_true rfl⟩ rfl rfl (Nat.le_of_ble_eq_true rfl) dL_law_197 ⟨Nat.le_of_ble_eq_true rfl, Nat.le_of_ble_eq_true rfl⟩ (fun H locs S => ?_)
  refine W.eq (g2 := F0 m 200 ls [.int r, .int r]) rfl ?_
  refine lv_icmp_eq (tgt := 843) hx hb dL_law_200 (by decide) (fun _ => ?_) (fun hc => absurd rfl hc)
  exact law_next X hi4 ih _ _ _ _ hI S hl
set_option maxRecDepth 100000 in
set_option maxHeartbeats 4000000 in
theorem law_c3 (X : CX RL cL_law 4 (some .boolean) p s m #[Value.ref b0] meth c G b) (hX : va_X b0 L xs s s.heap) (hbl : b0 < s.heap.size) (hbA : ¬ AB b b0) {i : Nat} (hi4 : i + 4 ≤ L ∧ L ≤ 2048) (t3 : SK1 f_X8_told f_X9_told Inv) (ih : ∀ (h : HP) (H : Heap) (locs : List Loc) (ls : Array Slot), Inv h → ST G b False s h H locs → lv_has ls 4 [(0, .ref b0), (1, .ref (b + 0)), (2, .ref (b + 142)), (3, .int (nI (i + 4)))] → W p l e room_1 s m #[Value.ref b0] below meth c H locs CC SS (lw_Z below #[Value.ref b0] s) (F0 m 18 ls [])) (h : HP) (H : Heap) (locs : List Loc) (ls : Array Slot) (hI : Inv h) (S : ST G b False s h H locs) (hl : lv_has ls 4 [(0, .ref b0), (1, .ref (b + 0)), (2, .ref (b + 142)), (3, .int (nI i))]) : W p l e room_1 s m #[Value.ref b0] below meth c H locs CC SS (lw_Z below #[Value.ref b0] s) (F0 m 205 ls []) := by
  have hx := X.1
  have hb := X.2.1
  obtain ⟨i1, i2, i3⟩ := law_in hi4
  obtain ⟨r, h1, h2, e1, e2, hI⟩ := t3 h (xs (nI i + 1).toNatClampNeg) hI
  refine lv_aload_n hx hb dL_law_205 rfl (lv_at hl 1 rfl) ?_
  refine lv_aload_n hx hb dL_law_206 rfl (lv_at hl 0 rfl) ?_
  refine lv_iload_n hx hb dL_law_207 rfl (lv_at hl 3 rfl) ?_
  refine lv_iconst (v := 1) hx hb dL_law_208 (by decide) ?_
  refine lv_iadd hx hb dL_law_209 ?_
  refine va_sld hx hb hX hbl hbA S.2 i1 dL_law_210 ?_
  refine r_callV X S hl.1 (As := [.int (xs (nI i + 1).toNatClampNeg)]) (rest := []) (c_X8_told e1) my_X8_told mv_X8_told ml_L_27 rfl (o_X8_told e1) ⟨rfl, rfl, Nat.le_of_ble_eq_true rfl, Nat.le_of_ble_eq_true rfl⟩ rfl rfl (Nat.le_of_ble_eq_true rfl) dL_law_211 ⟨Nat.le_of_ble_eq_true rfl, Nat.le_of_ble_eq_true rfl⟩ (fun H locs S => ?_)
  refine W.eq (g2 := F0 m 214 ls [.int r]) rfl ?_
  refine lv_aload_n hx hb dL_law_214 rfl (lv_at hl 2 rfl) ?_
  refine lv_aload_n hx hb dL_law_215 rfl (lv_at hl 0 rfl) ?_
  refine lv_iload_n hx hb dL_law_216 rfl (lv_at hl 3 rfl) ?_
  refine lv_iconst (v := 1) hx hb dL_law_217 (by decide) ?_
  refine lv_iadd hx hb dL_law_218 ?_
  refine va_sld hx hb hX hbl hbA S.2 i1 dL_law_219 ?_
  refine r_callV X S hl.1 (As := [.int (xs (nI i + 1).toNatClampNeg)]) (rest := [.int r]) (c_X9_told e2) my_X9_told mv_X9_told ml_L_30 rfl (o_X9_told e2) ⟨rfl, rfl, Nat.le_of_ble_eq_true rfl, Nat.le_of_ble_eq_true rfl⟩ rfl rfl (Nat.le_of_ble_eq_true rfl) dL_law_220 ⟨Nat.le_of_ble_eq_true rfl, Nat.le_of_ble_eq_true rfl⟩ (fun H locs S => ?_)
  refine W.eq (g2 := F0 m 223 ls [.int r, .int r]) rfl ?_
  refine lv_icmp_eq (tgt := 843) hx hb dL_law_223 (by decide) (fun _ => ?_) (fun hc => absurd rfl hc)
  exact law_next X hi4 ih _ _ _ _ hI S hl
set_option maxRecDepth 100000 in
set_option maxHeartbeats 4000000 in
theorem law_c4 (X : CX RL cL_law 4 (some .boolean) p s m #[Value.ref b0] meth c G b) (hX : va_X b0 L xs s s.heap) (hbl : b0 < s.heap.size) (hbA : ¬ AB b b0) {i : Nat} (hi4 : i + 4 ≤ L ∧ L ≤ 2048) (t4 : SK2 f_X8_person f_X9_person Inv) (ih : ∀ (h : HP) (H : Heap) (locs : List Loc) (ls : Array Slot), Inv h → ST G b False s h H locs → lv_has ls 4 [(0, .ref b0), (1, .ref (b + 0)), (2, .ref (b + 142)), (3, .int (nI (i + 4)))] → W p l e room_1 s m #[Value.ref b0] below meth c H locs CC SS (lw_Z below #[Value.ref b0] s) (F0 m 18 ls [])) (h : HP) (H : Heap) (locs : List Loc) (ls : Array Slot) (hI : Inv h) (S : ST G b False s h H locs) (hl : lv_has ls 4 [(0, .ref b0), (1, .ref (b + 0)), (2, .ref (b + 142)), (3, .int (nI i))]) : W p l e room_1 s m #[Value.ref b0] below meth c H locs CC SS (lw_Z below #[Value.ref b0] s) (F0 m 228 ls []) := by
  have hx := X.1
  have hb := X.2.1
  obtain ⟨i1, i2, i3⟩ := law_in hi4
  obtain ⟨r, h1, h2, e1, e2, hI⟩ := t4 h (xs (nI i + 1).toNatClampNeg) (xs (nI i + 2).toNatClampNeg) hI
  refine lv_aload_n hx hb dL_law_228 rfl (lv_at hl 1 rfl) ?_
  refine lv_aload_n hx hb dL_law_229 rfl (lv_at hl 0 rfl) ?_
  refine lv_iload_n hx hb dL_law_230 rfl (lv_at hl 3 rfl) ?_
  refine lv_iconst (v := 1) hx hb dL_law_231 (by decide) ?_
  refine lv_iadd hx hb dL_law_232 ?_
  refine va_sld hx hb hX hbl hbA S.2 i1 dL_law_233 ?_
  refine lv_aload_n hx hb dL_law_234 rfl (lv_at hl 0 rfl) ?_
  refine lv_iload_n hx hb dL_law_235 rfl (lv_at hl 3 rfl) ?_
  refine lv_iconst (v := 2) hx hb dL_law_236 (by decide) ?_
  refine lv_iadd hx hb dL_law_237 ?_
  refine va_sld hx hb hX hbl hbA S.2 i2 dL_law_238 ?_
  refine r_callV X S hl.1 (As := [.int (xs (nI i + 1).toNatClampNeg), .int (xs (nI i + 2).toNatClampNeg)]) (rest := []) (c_X8_person e1) my_X8_person mv_X8_person ml_L_31 rfl (o_X8_person e1) ⟨rfl, rfl, Nat.le_of_ble_eq_true rfl, Nat.le_of_ble_eq_true rfl⟩ rfl rfl (Nat.le_of_ble_eq_true rfl) dL_law_239 ⟨Nat.le_of_ble_eq_true rfl, Nat.le_of_ble_eq_true rfl⟩ (fun H locs S => ?_)
  refine W.eq (g2 := F0 m 242 ls [.int r]) rfl ?_
  refine lv_aload_n hx hb dL_law_242 rfl (lv_at hl 2 rfl) ?_
  refine lv_aload_n hx hb dL_law_243 rfl (lv_at hl 0 rfl) ?_
  refine lv_iload_n hx hb dL_law_244 rfl (lv_at hl 3 rfl) ?_
  refine lv_iconst (v := 1) hx hb dL_law_245 (by decide) ?_
  refine lv_iadd hx hb dL_law_246 ?_
  refine va_sld hx hb hX hbl hbA S.2 i1 dL_law_247 ?_
  refine lv_aload_n hx hb dL_law_248 rfl (lv_at hl 0 rfl) ?_
  refine lv_iload_n hx hb dL_law_249 rfl (lv_at hl 3 rfl) ?_
  refine lv_iconst (v := 2) hx hb dL_law_250 (by decide) ?_
  refine lv_iadd hx hb dL_law_251 ?_
  refine va_sld hx hb hX hbl hbA S.2 i2 dL_law_252 ?_
  refine r_callV X S hl.1 (As := [.int (xs (nI i + 1).toNatClampNeg), .int (xs (nI i + 2).toNatClampNeg)]) (rest := [.int r]) (c_X9_person e2) my_X9_person mv_X9_person ml_L_35 rfl (o_X9_person e2) ⟨rfl, rfl, Nat.le_of_ble_eq_true rfl, Nat.le_of_ble_eq_true rfl⟩ rfl rfl (Nat.le_of_ble_eq_true rfl) dL_law_253 ⟨Nat.le_of_ble_eq_true rfl, Nat.le_of_ble_eq_true rfl⟩ (fun H locs S => ?_)
  refine W.eq (g2 := F0 m 256 ls [.int r, .int r]) rfl ?_
  refine lv_icmp_eq (tgt := 843) hx hb dL_law_256 (by decide) (fun _ => ?_) (fun hc => absurd rfl hc)
  exact law_next X hi4 ih _ _ _ _ hI S hl
set_option maxRecDepth 100000 in
set_option maxHeartbeats 4000000 in
theorem law_c5 (X : CX RL cL_law 4 (some .boolean) p s m #[Value.ref b0] meth c G b) (hX : va_X b0 L xs s s.heap) (hbl : b0 < s.heap.size) (hbA : ¬ AB b b0) {i : Nat} (hi4 : i + 4 ≤ L ∧ L ≤ 2048) (t5 : SK2 f_X8_likes f_X9_likes Inv) (ih : ∀ (h : HP) (H : Heap) (locs : List Loc) (ls : Array Slot), Inv h → ST G b False s h H locs → lv_has ls 4 [(0, .ref b0), (1, .ref (b + 0)), (2, .ref (b + 142)), (3, .int (nI (i + 4)))] → W p l e room_1 s m #[Value.ref b0] below meth c H locs CC SS (lw_Z below #[Value.ref b0] s) (F0 m 18 ls [])) (h : HP) (H : Heap) (locs : List Loc) (ls : Array Slot) (hI : Inv h) (S : ST G b False s h H locs) (hl : lv_has ls 4 [(0, .ref b0), (1, .ref (b + 0)), (2, .ref (b + 142)), (3, .int (nI i))]) : W p l e room_1 s m #[Value.ref b0] below meth c H locs CC SS (lw_Z below #[Value.ref b0] s) (F0 m 261 ls []) := by
  have hx := X.1
  have hb := X.2.1
  obtain ⟨i1, i2, i3⟩ := law_in hi4
  obtain ⟨r, h1, h2, e1, e2, hI⟩ := t5 h (xs (nI i + 1).toNatClampNeg) (xs (nI i + 2).toNatClampNeg) hI
  refine lv_aload_n hx hb dL_law_261 rfl (lv_at hl 1 rfl) ?_
  refine lv_aload_n hx hb dL_law_262 rfl (lv_at hl 0 rfl) ?_
  refine lv_iload_n hx hb dL_law_263 rfl (lv_at hl 3 rfl) ?_
  refine lv_iconst (v := 1) hx hb dL_law_264 (by decide) ?_
  refine lv_iadd hx hb dL_law_265 ?_
  refine va_sld hx hb hX hbl hbA S.2 i1 dL_law_266 ?_
  refine lv_aload_n hx hb dL_law_267 rfl (lv_at hl 0 rfl) ?_
  refine lv_iload_n hx hb dL_law_268 rfl (lv_at hl 3 rfl) ?_
  refine lv_iconst (v := 2) hx hb dL_law_269 (by decide) ?_
  refine lv_iadd hx hb dL_law_270 ?_
  refine va_sld hx hb hX hbl hbA S.2 i2 dL_law_271 ?_
  refine r_callV X S hl.1 (As := [.int (xs (nI i + 1).toNatClampNeg), .int (xs (nI i + 2).toNatClampNeg)]) (rest := []) (c_X8_likes e1) my_X8_likes mv_X8_likes ml_L_36 rfl (o_X8_likes e1) ⟨rfl, rfl, Nat.le_of_ble_eq_true rfl, Nat.le_of_ble_eq_true rfl⟩ rfl rfl (Nat.le_of_ble_eq_true rfl) dL_law_272 ⟨Nat.le_of_ble_eq_true rfl, Nat.le_of_ble_eq_true rfl⟩ (fun H locs S => ?_)
  refine W.eq (g2 := F0 m 275 ls [.int r]) rfl ?_
  refine lv_aload_n hx hb dL_law_275 rfl (lv_at hl 2 rfl) ?_
  refine lv_aload_n hx hb dL_law_276 rfl (lv_at hl 0 rfl) ?_
  refine lv_iload_n hx hb dL_law_277 rfl (lv_at hl 3 rfl) ?_
  refine lv_iconst (v := 1) hx hb dL_law_278 (by decide) ?_
  refine lv_iadd hx hb dL_law_279 ?_
  refine va_sld hx hb hX hbl hbA S.2 i1 dL_law_280 ?_
  refine lv_aload_n hx hb dL_law_281 rfl (lv_at hl 0 rfl) ?_
  refine lv_iload_n hx hb dL_law_282 rfl (lv_at hl 3 rfl) ?_
  refine lv_iconst (v := 2) hx hb dL_law_283 (by decide) ?_
  refine lv_iadd hx hb dL_law_284 ?_
  refine va_sld hx hb hX hbl hbA S.2 i2 dL_law_285 ?_
  refine r_callV X S hl.1 (As := [.int (xs (nI i + 1).toNatClampNeg), .int (xs (nI i + 2).toNatClampNeg)]) (rest := [.int r]) (c_X9_likes e2) my_X9_likes mv_X9_likes ml_L_39 rfl (o_X9_likes e2) ⟨rfl, rfl, Nat.le_of_ble_eq_true rfl, Nat.le_of_ble_eq_true rfl⟩ rfl rfl (Nat.le_of_ble_eq_true rfl) dL_law_286 ⟨Nat.le_of_ble_eq_true rfl, Nat.le_of_ble_eq_true rfl⟩ (fun H locs S => ?_)
  refine W.eq (g2 := F0 m 289 ls [.int r, .int r]) rfl ?_
  refine lv_icmp_eq (tgt := 843) hx hb dL_law_289 (by decide) (fun _ => ?_) (fun hc => absurd rfl hc)
  exact law_next X hi4 ih _ _ _ _ hI S hl
set_option maxRecDepth 100000 in
set_option maxHeartbeats 4000000 in
theorem law_c6 (X : CX RL cL_law 4 (some .boolean) p s m #[Value.ref b0] meth c G b) (hX : va_X b0 L xs s s.heap) (hbl : b0 < s.heap.size) (hbA : ¬ AB b b0) {i : Nat} (hi4 : i + 4 ≤ L ∧ L ≤ 2048) (t6 : SK2 f_X8_room f_X9_room Inv) (ih : ∀ (h : HP) (H : Heap) (locs : List Loc) (ls : Array Slot), Inv h → ST G b False s h H locs → lv_has ls 4 [(0, .ref b0), (1, .ref (b + 0)), (2, .ref (b + 142)), (3, .int (nI (i + 4)))] → W p l e room_1 s m #[Value.ref b0] below meth c H locs CC SS (lw_Z below #[Value.ref b0] s) (F0 m 18 ls [])) (h : HP) (H : Heap) (locs : List Loc) (ls : Array Slot) (hI : Inv h) (S : ST G b False s h H locs) (hl : lv_has ls 4 [(0, .ref b0), (1, .ref (b + 0)), (2, .ref (b + 142)), (3, .int (nI i))]) : W p l e room_1 s m #[Value.ref b0] below meth c H locs CC SS (lw_Z below #[Value.ref b0] s) (F0 m 294 ls []) := by
  have hx := X.1
  have hb := X.2.1
  obtain ⟨i1, i2, i3⟩ := law_in hi4
  obtain ⟨r, h1, h2, e1, e2, hI⟩ := t6 h (xs (nI i + 1).toNatClampNeg) (xs (nI i + 2).toNatClampNeg) hI
  refine lv_aload_n hx hb dL_law_294 rfl (lv_at hl 1 rfl) ?_
  refine lv_aload_n hx hb dL_law_295 rfl (lv_at hl 0 rfl) ?_
  refine lv_iload_n hx hb dL_law_296 rfl (lv_at hl 3 rfl) ?_
  refine lv_iconst (v := 1) hx hb dL_law_297 (by decide) ?_
  refine lv_iadd hx hb dL_law_298 ?_
  refine va_sld hx hb hX hbl hbA S.2 i1 dL_law_299 ?_
  refine lv_aload_n hx hb dL_law_300 rfl (lv_at hl 0 rfl) ?_
  refine lv_iload_n hx hb dL_law_301 rfl (lv_at hl 3 rfl) ?_
  refine lv_iconst (v := 2) hx hb dL_law_302 (by decide) ?_
  refine lv_iadd hx hb dL_law_303 ?_
  refine va_sld hx hb hX hbl hbA S.2 i2 dL_law_304 ?_
  refine r_callV X S hl.1 (As := [.int (xs (nI i + 1).toNatClampNeg), .int (xs (nI i + 2).toNatClampNeg)]) (rest := []) (c_X8_room e1) my_X8_room mv_X8_room ml_L_40 rfl (o_X8_room e1) ⟨rfl, rfl, Nat.le_of_ble_eq_true rfl, Nat.le_of_ble_eq_true rfl⟩ rfl rfl (Nat.le_of_ble_eq_true rfl) dL_law_305 ⟨Nat.le_of_ble_eq_true rfl, Nat.le_of_ble_eq_true rfl⟩ (fun H locs S => ?_)
  refine W.eq (g2 := F0 m 308 ls [.int r]) rfl ?_
  refine lv_aload_n hx hb dL_law_308 rfl (lv_at hl 2 rfl) ?_
  refine lv_aload_n hx hb dL_law_309 rfl (lv_at hl 0 rfl) ?_
  refine lv_iload_n hx hb dL_law_310 rfl (lv_at hl 3 rfl) ?_
  refine lv_iconst (v := 1) hx hb dL_law_311 (by decide) ?_
  refine lv_iadd hx hb dL_law_312 ?_
  refine va_sld hx hb hX hbl hbA S.2 i1 dL_law_313 ?_
  refine lv_aload_n hx hb dL_law_314 rfl (lv_at hl 0 rfl) ?_
  refine lv_iload_n hx hb dL_law_315 rfl (lv_at hl 3 rfl) ?_
  refine lv_iconst (v := 2) hx hb dL_law_316 (by decide) ?_
  refine lv_iadd hx hb dL_law_317 ?_
  refine va_sld hx hb hX hbl hbA S.2 i2 dL_law_318 ?_
  refine r_callV X S hl.1 (As := [.int (xs (nI i + 1).toNatClampNeg), .int (xs (nI i + 2).toNatClampNeg)]) (rest := [.int r]) (c_X9_room e2) my_X9_room mv_X9_room ml_L_43 rfl (o_X9_room e2) ⟨rfl, rfl, Nat.le_of_ble_eq_true rfl, Nat.le_of_ble_eq_true rfl⟩ rfl rfl (Nat.le_of_ble_eq_true rfl) dL_law_319 ⟨Nat.le_of_ble_eq_true rfl, Nat.le_of_ble_eq_true rfl⟩ (fun H locs S => ?_)
  refine W.eq (g2 := F0 m 322 ls [.int r, .int r]) rfl ?_
  refine lv_icmp_eq (tgt := 843) hx hb dL_law_322 (by decide) (fun _ => ?_) (fun hc => absurd rfl hc)
  exact law_next X hi4 ih _ _ _ _ hI S hl
set_option maxRecDepth 100000 in
set_option maxHeartbeats 4000000 in
theorem law_c7 (X : CX RL cL_law 4 (some .boolean) p s m #[Value.ref b0] meth c G b) (hX : va_X b0 L xs s s.heap) (hbl : b0 < s.heap.size) (hbA : ¬ AB b b0) {i : Nat} (hi4 : i + 4 ≤ L ∧ L ≤ 2048) (t7 : SK3 f_X8_like f_X9_like Inv) (ih : ∀ (h : HP) (H : Heap) (locs : List Loc) (ls : Array Slot), Inv h → ST G b False s h H locs → lv_has ls 4 [(0, .ref b0), (1, .ref (b + 0)), (2, .ref (b + 142)), (3, .int (nI (i + 4)))] → W p l e room_1 s m #[Value.ref b0] below meth c H locs CC SS (lw_Z below #[Value.ref b0] s) (F0 m 18 ls [])) (h : HP) (H : Heap) (locs : List Loc) (ls : Array Slot) (hI : Inv h) (S : ST G b False s h H locs) (hl : lv_has ls 4 [(0, .ref b0), (1, .ref (b + 0)), (2, .ref (b + 142)), (3, .int (nI i))]) : W p l e room_1 s m #[Value.ref b0] below meth c H locs CC SS (lw_Z below #[Value.ref b0] s) (F0 m 327 ls []) := by
  have hx := X.1
  have hb := X.2.1
  obtain ⟨i1, i2, i3⟩ := law_in hi4
  obtain ⟨r, h1, h2, e1, e2, hI⟩ := t7 h (xs (nI i + 1).toNatClampNeg) (xs (nI i + 2).toNatClampNeg) (xs (nI i + 3).toNatClampNeg) hI
  refine lv_aload_n hx hb dL_law_327 rfl (lv_at hl 1 rfl) ?_
  refine lv_aload_n hx hb dL_law_328 rfl (lv_at hl 0 rfl) ?_
  refine lv_iload_n hx hb dL_law_329 rfl (lv_at hl 3 rfl) ?_
  refine lv_iconst (v := 1) hx hb dL_law_330 (by decide) ?_
  refine lv_iadd hx hb dL_law_331 ?_
  refine va_sld hx hb hX hbl hbA S.2 i1 dL_law_332 ?_
  refine lv_aload_n hx hb dL_law_333 rfl (lv_at hl 0 rfl) ?_
  refine lv_iload_n hx hb dL_law_334 rfl (lv_at hl 3 rfl) ?_
  refine lv_iconst (v := 2) hx hb dL_law_335 (by decide) ?_
  refine lv_iadd hx hb dL_law_336 ?_
  refine va_sld hx hb hX hbl hbA S.2 i2 dL_law_337 ?_
  refine lv_aload_n hx hb dL_law_338 rfl (lv_at hl 0 rfl) ?_
  refine lv_iload_n hx hb dL_law_339 rfl (lv_at hl 3 rfl) ?_
  refine lv_iconst (v := 3) hx hb dL_law_340 (by decide) ?_
  refine lv_iadd hx hb dL_law_341 ?_
  refine va_sld hx hb hX hbl hbA S.2 i3 dL_law_342 ?_
  refine r_callV X S hl.1 (As := [.int (xs (nI i + 1).toNatClampNeg), .int (xs (nI i + 2).toNatClampNeg), .int (xs (nI i + 3).toNatClampNeg)]) (rest := []) (c_X8_like e1) my_X8_like mv_X8_like ml_L_44 rfl (o_X8_like e1) ⟨rfl, rfl, Nat.le_of_ble_eq_true rfl, Nat.le_of_ble_eq_true rfl⟩ rfl rfl (Nat.le_of_ble_eq_true rfl) dL_law_343 ⟨Nat.le_of_ble_eq_true rfl, Nat.le_of_ble_eq_true rfl⟩ (fun H locs S => ?_)
  refine W.eq (g2 := F0 m 346 ls [.int r]) rfl ?_
  refine lv_aload_n hx hb dL_law_346 rfl (lv_at hl 2 rfl) ?_
  refine lv_aload_n hx hb dL_law_347 rfl (lv_at hl 0 rfl) ?_
  refine lv_iload_n hx hb dL_law_348 rfl (lv_at hl 3 rfl) ?_
  refine lv_iconst (v := 1) hx hb dL_law_349 (by decide) ?_
  refine lv_iadd hx hb dL_law_350 ?_
  refine va_sld hx hb hX hbl hbA S.2 i1 dL_law_351 ?_
  refine lv_aload_n hx hb dL_law_352 rfl (lv_at hl 0 rfl) ?_
  refine lv_iload_n hx hb dL_law_353 rfl (lv_at hl 3 rfl) ?_
  refine lv_iconst (v := 2) hx hb dL_law_354 (by decide) ?_
  refine lv_iadd hx hb dL_law_355 ?_
  refine va_sld hx hb hX hbl hbA S.2 i2 dL_law_356 ?_
  refine lv_aload_n hx hb dL_law_357 rfl (lv_at hl 0 rfl) ?_
  refine lv_iload_n hx hb dL_law_358 rfl (lv_at hl 3 rfl) ?_
  refine lv_iconst (v := 3) hx hb dL_law_359 (by decide) ?_
  refine lv_iadd hx hb dL_law_360 ?_
  refine va_sld hx hb hX hbl hbA S.2 i3 dL_law_361 ?_
  refine r_callV X S hl.1 (As := [.int (xs (nI i + 1).toNatClampNeg), .int (xs (nI i + 2).toNatClampNeg), .int (xs (nI i + 3).toNatClampNeg)]) (rest := [.int r]) (c_X9_like e2) my_X9_like mv_X9_like ml_L_48 rfl (o_X9_like e2) ⟨rfl, rfl, Nat.le_of_ble_eq_true rfl, Nat.le_of_ble_eq_true rfl⟩ rfl rfl (Nat.le_of_ble_eq_true rfl) dL_law_362 ⟨Nat.le_of_ble_eq_true rfl, Nat.le_of_ble_eq_true rfl⟩ (fun H locs S => ?_)
  refine W.eq (g2 := F0 m 365 ls [.int r, .int r]) rfl ?_
  refine lv_icmp_eq (tgt := 843) hx hb dL_law_365 (by decide) (fun _ => ?_) (fun hc => absurd rfl hc)
  exact law_next X hi4 ih _ _ _ _ hI S hl
set_option maxRecDepth 100000 in
set_option maxHeartbeats 4000000 in
theorem law_c8 (X : CX RL cL_law 4 (some .boolean) p s m #[Value.ref b0] meth c G b) (hX : va_X b0 L xs s s.heap) (hbl : b0 < s.heap.size) (hbA : ¬ AB b b0) {i : Nat} (hi4 : i + 4 ≤ L ∧ L ≤ 2048) (t8 : SK2 f_X8_strike f_X9_strike Inv) (ih : ∀ (h : HP) (H : Heap) (locs : List Loc) (ls : Array Slot), Inv h → ST G b False s h H locs → lv_has ls 4 [(0, .ref b0), (1, .ref (b + 0)), (2, .ref (b + 142)), (3, .int (nI (i + 4)))] → W p l e room_1 s m #[Value.ref b0] below meth c H locs CC SS (lw_Z below #[Value.ref b0] s) (F0 m 18 ls [])) (h : HP) (H : Heap) (locs : List Loc) (ls : Array Slot) (hI : Inv h) (S : ST G b False s h H locs) (hl : lv_has ls 4 [(0, .ref b0), (1, .ref (b + 0)), (2, .ref (b + 142)), (3, .int (nI i))]) : W p l e room_1 s m #[Value.ref b0] below meth c H locs CC SS (lw_Z below #[Value.ref b0] s) (F0 m 370 ls []) := by
  have hx := X.1
  have hb := X.2.1
  obtain ⟨i1, i2, i3⟩ := law_in hi4
  obtain ⟨r, h1, h2, e1, e2, hI⟩ := t8 h (xs (nI i + 1).toNatClampNeg) (xs (nI i + 2).toNatClampNeg) hI
  refine lv_aload_n hx hb dL_law_370 rfl (lv_at hl 1 rfl) ?_
  refine lv_aload_n hx hb dL_law_371 rfl (lv_at hl 0 rfl) ?_
  refine lv_iload_n hx hb dL_law_372 rfl (lv_at hl 3 rfl) ?_
  refine lv_iconst (v := 1) hx hb dL_law_373 (by decide) ?_
  refine lv_iadd hx hb dL_law_374 ?_
  refine va_sld hx hb hX hbl hbA S.2 i1 dL_law_375 ?_
  refine lv_aload_n hx hb dL_law_376 rfl (lv_at hl 0 rfl) ?_
  refine lv_iload_n hx hb dL_law_377 rfl (lv_at hl 3 rfl) ?_
  refine lv_iconst (v := 2) hx hb dL_law_378 (by decide) ?_
  refine lv_iadd hx hb dL_law_379 ?_
  refine va_sld hx hb hX hbl hbA S.2 i2 dL_law_380 ?_
  refine r_callV X S hl.1 (As := [.int (xs (nI i + 1).toNatClampNeg), .int (xs (nI i + 2).toNatClampNeg)]) (rest := []) (c_X8_strike e1) my_X8_strike mv_X8_strike ml_L_49 rfl (o_X8_strike e1) ⟨rfl, rfl, Nat.le_of_ble_eq_true rfl, Nat.le_of_ble_eq_true rfl⟩ rfl rfl (Nat.le_of_ble_eq_true rfl) dL_law_381 ⟨Nat.le_of_ble_eq_true rfl, Nat.le_of_ble_eq_true rfl⟩ (fun H locs S => ?_)
  refine W.eq (g2 := F0 m 384 ls [.int r]) rfl ?_
  refine lv_aload_n hx hb dL_law_384 rfl (lv_at hl 2 rfl) ?_
  refine lv_aload_n hx hb dL_law_385 rfl (lv_at hl 0 rfl) ?_
  refine lv_iload_n hx hb dL_law_386 rfl (lv_at hl 3 rfl) ?_
  refine lv_iconst (v := 1) hx hb dL_law_387 (by decide) ?_
  refine lv_iadd hx hb dL_law_388 ?_
  refine va_sld hx hb hX hbl hbA S.2 i1 dL_law_389 ?_
  refine lv_aload_n hx hb dL_law_390 rfl (lv_at hl 0 rfl) ?_
  refine lv_iload_n hx hb dL_law_391 rfl (lv_at hl 3 rfl) ?_
  refine lv_iconst (v := 2) hx hb dL_law_392 (by decide) ?_
  refine lv_iadd hx hb dL_law_393 ?_
  refine va_sld hx hb hX hbl hbA S.2 i2 dL_law_394 ?_
  refine r_callV X S hl.1 (As := [.int (xs (nI i + 1).toNatClampNeg), .int (xs (nI i + 2).toNatClampNeg)]) (rest := [.int r]) (c_X9_strike e2) my_X9_strike mv_X9_strike ml_L_52 rfl (o_X9_strike e2) ⟨rfl, rfl, Nat.le_of_ble_eq_true rfl, Nat.le_of_ble_eq_true rfl⟩ rfl rfl (Nat.le_of_ble_eq_true rfl) dL_law_395 ⟨Nat.le_of_ble_eq_true rfl, Nat.le_of_ble_eq_true rfl⟩ (fun H locs S => ?_)
  refine W.eq (g2 := F0 m 398 ls [.int r, .int r]) rfl ?_
  refine lv_icmp_eq (tgt := 843) hx hb dL_law_398 (by decide) (fun _ => ?_) (fun hc => absurd rfl hc)
  exact law_next X hi4 ih _ _ _ _ hI S hl
set_option maxRecDepth 100000 in
set_option maxHeartbeats 4000000 in
theorem law_c9 (X : CX RL cL_law 4 (some .boolean) p s m #[Value.ref b0] meth c G b) (hX : va_X b0 L xs s s.heap) (hbl : b0 < s.heap.size) (hbA : ¬ AB b b0) {i : Nat} (hi4 : i + 4 ≤ L ∧ L ≤ 2048) (t9 : SK2 f_X8_lot f_X9_lot Inv) (ih : ∀ (h : HP) (H : Heap) (locs : List Loc) (ls : Array Slot), Inv h → ST G b False s h H locs → lv_has ls 4 [(0, .ref b0), (1, .ref (b + 0)), (2, .ref (b + 142)), (3, .int (nI (i + 4)))] → W p l e room_1 s m #[Value.ref b0] below meth c H locs CC SS (lw_Z below #[Value.ref b0] s) (F0 m 18 ls [])) (h : HP) (H : Heap) (locs : List Loc) (ls : Array Slot) (hI : Inv h) (S : ST G b False s h H locs) (hl : lv_has ls 4 [(0, .ref b0), (1, .ref (b + 0)), (2, .ref (b + 142)), (3, .int (nI i))]) : W p l e room_1 s m #[Value.ref b0] below meth c H locs CC SS (lw_Z below #[Value.ref b0] s) (F0 m 403 ls []) := by
  have hx := X.1
  have hb := X.2.1
  obtain ⟨i1, i2, i3⟩ := law_in hi4
  obtain ⟨r, h1, h2, e1, e2, hI⟩ := t9 h (xs (nI i + 1).toNatClampNeg) (xs (nI i + 2).toNatClampNeg) hI
  refine lv_aload_n hx hb dL_law_403 rfl (lv_at hl 1 rfl) ?_
  refine lv_aload_n hx hb dL_law_404 rfl (lv_at hl 0 rfl) ?_
  refine lv_iload_n hx hb dL_law_405 rfl (lv_at hl 3 rfl) ?_
  refine lv_iconst (v := 1) hx hb dL_law_406 (by decide) ?_
  refine lv_iadd hx hb dL_law_407 ?_
  refine va_sld hx hb hX hbl hbA S.2 i1 dL_law_408 ?_
  refine lv_aload_n hx hb dL_law_409 rfl (lv_at hl 0 rfl) ?_
  refine lv_iload_n hx hb dL_law_410 rfl (lv_at hl 3 rfl) ?_
  refine lv_iconst (v := 2) hx hb dL_law_411 (by decide) ?_
  refine lv_iadd hx hb dL_law_412 ?_
  refine va_sld hx hb hX hbl hbA S.2 i2 dL_law_413 ?_
  refine r_callV X S hl.1 (As := [.int (xs (nI i + 1).toNatClampNeg), .int (xs (nI i + 2).toNatClampNeg)]) (rest := []) (c_X8_lot e1) my_X8_lot mv_X8_lot ml_L_53 rfl (o_X8_lot e1) ⟨rfl, rfl, Nat.le_of_ble_eq_true rfl, Nat.le_of_ble_eq_true rfl⟩ rfl rfl (Nat.le_of_ble_eq_true rfl) dL_law_414 ⟨Nat.le_of_ble_eq_true rfl, Nat.le_of_ble_eq_true rfl⟩ (fun H locs S => ?_)
  refine W.eq (g2 := F0 m 417 ls [.int r]) rfl ?_
  refine lv_aload_n hx hb dL_law_417 rfl (lv_at hl 2 rfl) ?_
  refine lv_aload_n hx hb dL_law_418 rfl (lv_at hl 0 rfl) ?_
  refine lv_iload_n hx hb dL_law_419 rfl (lv_at hl 3 rfl) ?_
  refine lv_iconst (v := 1) hx hb dL_law_420 (by decide) ?_
  refine lv_iadd hx hb dL_law_421 ?_
  refine va_sld hx hb hX hbl hbA S.2 i1 dL_law_422 ?_
  refine lv_aload_n hx hb dL_law_423 rfl (lv_at hl 0 rfl) ?_
  refine lv_iload_n hx hb dL_law_424 rfl (lv_at hl 3 rfl) ?_
  refine lv_iconst (v := 2) hx hb dL_law_425 (by decide) ?_
  refine lv_iadd hx hb dL_law_426 ?_
  refine va_sld hx hb hX hbl hbA S.2 i2 dL_law_427 ?_
  refine r_callV X S hl.1 (As := [.int (xs (nI i + 1).toNatClampNeg), .int (xs (nI i + 2).toNatClampNeg)]) (rest := [.int r]) (c_X9_lot e2) my_X9_lot mv_X9_lot ml_L_56 rfl (o_X9_lot e2) ⟨rfl, rfl, Nat.le_of_ble_eq_true rfl, Nat.le_of_ble_eq_true rfl⟩ rfl rfl (Nat.le_of_ble_eq_true rfl) dL_law_428 ⟨Nat.le_of_ble_eq_true rfl, Nat.le_of_ble_eq_true rfl⟩ (fun H locs S => ?_)
  refine W.eq (g2 := F0 m 431 ls [.int r, .int r]) rfl ?_
  refine lv_icmp_eq (tgt := 843) hx hb dL_law_431 (by decide) (fun _ => ?_) (fun hc => absurd rfl hc)
  exact law_next X hi4 ih _ _ _ _ hI S hl
set_option maxRecDepth 100000 in
set_option maxHeartbeats 4000000 in
theorem law_c10 (X : CX RL cL_law 4 (some .boolean) p s m #[Value.ref b0] meth c G b) (hX : va_X b0 L xs s s.heap) (hbl : b0 < s.heap.size) (hbA : ¬ AB b b0) {i : Nat} (hi4 : i + 4 ≤ L ∧ L ≤ 2048) (t10 : SK1 f_X8_refuse f_X9_refuse Inv) (ih : ∀ (h : HP) (H : Heap) (locs : List Loc) (ls : Array Slot), Inv h → ST G b False s h H locs → lv_has ls 4 [(0, .ref b0), (1, .ref (b + 0)), (2, .ref (b + 142)), (3, .int (nI (i + 4)))] → W p l e room_1 s m #[Value.ref b0] below meth c H locs CC SS (lw_Z below #[Value.ref b0] s) (F0 m 18 ls [])) (h : HP) (H : Heap) (locs : List Loc) (ls : Array Slot) (hI : Inv h) (S : ST G b False s h H locs) (hl : lv_has ls 4 [(0, .ref b0), (1, .ref (b + 0)), (2, .ref (b + 142)), (3, .int (nI i))]) : W p l e room_1 s m #[Value.ref b0] below meth c H locs CC SS (lw_Z below #[Value.ref b0] s) (F0 m 436 ls []) := by
  have hx := X.1
  have hb := X.2.1
  obtain ⟨i1, i2, i3⟩ := law_in hi4
  obtain ⟨r, h1, h2, e1, e2, hI⟩ := t10 h (xs (nI i + 1).toNatClampNeg) hI
  refine lv_aload_n hx hb dL_law_436 rfl (lv_at hl 1 rfl) ?_
  refine lv_aload_n hx hb dL_law_437 rfl (lv_at hl 0 rfl) ?_
  refine lv_iload_n hx hb dL_law_438 rfl (lv_at hl 3 rfl) ?_
  refine lv_iconst (v := 1) hx hb dL_law_439 (by decide) ?_
  refine lv_iadd hx hb dL_law_440 ?_
  refine va_sld hx hb hX hbl hbA S.2 i1 dL_law_441 ?_
  refine r_callV X S hl.1 (As := [.int (xs (nI i + 1).toNatClampNeg)]) (rest := []) (c_X8_refuse e1) my_X8_refuse mv_X8_refuse ml_L_57 rfl (o_X8_refuse e1) ⟨rfl, rfl, Nat.le_of_ble_eq_true rfl, Nat.le_of_ble_eq_true rfl⟩ rfl rfl (Nat.le_of_ble_eq_true rfl) dL_law_442 ⟨Nat.le_of_ble_eq_true rfl, Nat.le_of_ble_eq_true rfl⟩ (fun H locs S => ?_)
  refine W.eq (g2 := F0 m 445 ls [.int r]) rfl ?_
  refine lv_aload_n hx hb dL_law_445 rfl (lv_at hl 2 rfl) ?_
  refine lv_aload_n hx hb dL_law_446 rfl (lv_at hl 0 rfl) ?_
  refine lv_iload_n hx hb dL_law_447 rfl (lv_at hl 3 rfl) ?_
  refine lv_iconst (v := 1) hx hb dL_law_448 (by decide) ?_
  refine lv_iadd hx hb dL_law_449 ?_
  refine va_sld hx hb hX hbl hbA S.2 i1 dL_law_450 ?_
  refine r_callV X S hl.1 (As := [.int (xs (nI i + 1).toNatClampNeg)]) (rest := [.int r]) (c_X9_refuse e2) my_X9_refuse mv_X9_refuse ml_L_60 rfl (o_X9_refuse e2) ⟨rfl, rfl, Nat.le_of_ble_eq_true rfl, Nat.le_of_ble_eq_true rfl⟩ rfl rfl (Nat.le_of_ble_eq_true rfl) dL_law_451 ⟨Nat.le_of_ble_eq_true rfl, Nat.le_of_ble_eq_true rfl⟩ (fun H locs S => ?_)
  refine W.eq (g2 := F0 m 454 ls [.int r, .int r]) rfl ?_
  refine lv_icmp_eq (tgt := 843) hx hb dL_law_454 (by decide) (fun _ => ?_) (fun hc => absurd rfl hc)
  exact law_next X hi4 ih _ _ _ _ hI S hl
set_option maxRecDepth 100000 in
set_option maxHeartbeats 4000000 in
theorem law_c11 (X : CX RL cL_law 4 (some .boolean) p s m #[Value.ref b0] meth c G b) (hX : va_X b0 L xs s s.heap) (hbl : b0 < s.heap.size) (hbA : ¬ AB b b0) {i : Nat} (hi4 : i + 4 ≤ L ∧ L ≤ 2048) (t11 : SK0 f_X8_moved f_X9_moved Inv) (ih : ∀ (h : HP) (H : Heap) (locs : List Loc) (ls : Array Slot), Inv h → ST G b False s h H locs → lv_has ls 4 [(0, .ref b0), (1, .ref (b + 0)), (2, .ref (b + 142)), (3, .int (nI (i + 4)))] → W p l e room_1 s m #[Value.ref b0] below meth c H locs CC SS (lw_Z below #[Value.ref b0] s) (F0 m 18 ls [])) (h : HP) (H : Heap) (locs : List Loc) (ls : Array Slot) (hI : Inv h) (S : ST G b False s h H locs) (hl : lv_has ls 4 [(0, .ref b0), (1, .ref (b + 0)), (2, .ref (b + 142)), (3, .int (nI i))]) : W p l e room_1 s m #[Value.ref b0] below meth c H locs CC SS (lw_Z below #[Value.ref b0] s) (F0 m 459 ls []) := by
  have hx := X.1
  have hb := X.2.1
  obtain ⟨i1, i2, i3⟩ := law_in hi4
  obtain ⟨r, h1, h2, e1, e2, hI⟩ := t11 h hI
  refine lv_aload_n hx hb dL_law_459 rfl (lv_at hl 1 rfl) ?_
  refine r_callV X S hl.1 (As := []) (rest := []) (c_X8_moved e1) my_X8_moved mv_X8_moved ml_L_61 rfl (o_X8_moved e1) ⟨rfl, rfl, Nat.le_of_ble_eq_true rfl, Nat.le_of_ble_eq_true rfl⟩ rfl rfl (Nat.le_of_ble_eq_true rfl) dL_law_460 ⟨Nat.le_of_ble_eq_true rfl, Nat.le_of_ble_eq_true rfl⟩ (fun H locs S => ?_)
  refine W.eq (g2 := F0 m 463 ls [.int r]) rfl ?_
  refine lv_aload_n hx hb dL_law_463 rfl (lv_at hl 2 rfl) ?_
  refine r_callV X S hl.1 (As := []) (rest := [.int r]) (c_X9_moved e2) my_X9_moved mv_X9_moved ml_L_64 rfl (o_X9_moved e2) ⟨rfl, rfl, Nat.le_of_ble_eq_true rfl, Nat.le_of_ble_eq_true rfl⟩ rfl rfl (Nat.le_of_ble_eq_true rfl) dL_law_464 ⟨Nat.le_of_ble_eq_true rfl, Nat.le_of_ble_eq_true rfl⟩ (fun H locs S => ?_)
  refine W.eq (g2 := F0 m 467 ls [.int r, .int r]) rfl ?_
  refine lv_icmp_eq (tgt := 843) hx hb dL_law_467 (by decide) (fun _ => ?_) (fun hc => absurd rfl hc)
  exact law_next X hi4 ih _ _ _ _ hI S hl
set_option maxRecDepth 100000 in
set_option maxHeartbeats 4000000 in
theorem law_c12 (X : CX RL cL_law 4 (some .boolean) p s m #[Value.ref b0] meth c G b) (hX : va_X b0 L xs s s.heap) (hbl : b0 < s.heap.size) (hbA : ¬ AB b b0) {i : Nat} (hi4 : i + 4 ≤ L ∧ L ≤ 2048) (t12 : SK1 f_X8_leave f_X9_leave Inv) (ih : ∀ (h : HP) (H : Heap) (locs : List Loc) (ls : Array Slot), Inv h → ST G b False s h H locs → lv_has ls 4 [(0, .ref b0), (1, .ref (b + 0)), (2, .ref (b + 142)), (3, .int (nI (i + 4)))] → W p l e room_1 s m #[Value.ref b0] below meth c H locs CC SS (lw_Z below #[Value.ref b0] s) (F0 m 18 ls [])) (h : HP) (H : Heap) (locs : List Loc) (ls : Array Slot) (hI : Inv h) (S : ST G b False s h H locs) (hl : lv_has ls 4 [(0, .ref b0), (1, .ref (b + 0)), (2, .ref (b + 142)), (3, .int (nI i))]) : W p l e room_1 s m #[Value.ref b0] below meth c H locs CC SS (lw_Z below #[Value.ref b0] s) (F0 m 472 ls []) := by
  have hx := X.1
  have hb := X.2.1
  obtain ⟨i1, i2, i3⟩ := law_in hi4
  obtain ⟨r, h1, h2, e1, e2, hI⟩ := t12 h (xs (nI i + 1).toNatClampNeg) hI
  refine lv_aload_n hx hb dL_law_472 rfl (lv_at hl 1 rfl) ?_
  refine lv_aload_n hx hb dL_law_473 rfl (lv_at hl 0 rfl) ?_
  refine lv_iload_n hx hb dL_law_474 rfl (lv_at hl 3 rfl) ?_
  refine lv_iconst (v := 1) hx hb dL_law_475 (by decide) ?_
  refine lv_iadd hx hb dL_law_476 ?_
  refine va_sld hx hb hX hbl hbA S.2 i1 dL_law_477 ?_
  refine r_callV X S hl.1 (As := [.int (xs (nI i + 1).toNatClampNeg)]) (rest := []) (c_X8_leave e1) my_X8_leave mv_X8_leave ml_L_65 rfl (o_X8_leave e1) ⟨rfl, rfl, Nat.le_of_ble_eq_true rfl, Nat.le_of_ble_eq_true rfl⟩ rfl rfl (Nat.le_of_ble_eq_true rfl) dL_law_478 ⟨Nat.le_of_ble_eq_true rfl, Nat.le_of_ble_eq_true rfl⟩ (fun H locs S => ?_)
  refine W.eq (g2 := F0 m 481 ls [.int r]) rfl ?_
  refine lv_aload_n hx hb dL_law_481 rfl (lv_at hl 2 rfl) ?_
  refine lv_aload_n hx hb dL_law_482 rfl (lv_at hl 0 rfl) ?_
  refine lv_iload_n hx hb dL_law_483 rfl (lv_at hl 3 rfl) ?_
  refine lv_iconst (v := 1) hx hb dL_law_484 (by decide) ?_
  refine lv_iadd hx hb dL_law_485 ?_
  refine va_sld hx hb hX hbl hbA S.2 i1 dL_law_486 ?_
  refine r_callV X S hl.1 (As := [.int (xs (nI i + 1).toNatClampNeg)]) (rest := [.int r]) (c_X9_leave e2) my_X9_leave mv_X9_leave ml_L_68 rfl (o_X9_leave e2) ⟨rfl, rfl, Nat.le_of_ble_eq_true rfl, Nat.le_of_ble_eq_true rfl⟩ rfl rfl (Nat.le_of_ble_eq_true rfl) dL_law_487 ⟨Nat.le_of_ble_eq_true rfl, Nat.le_of_ble_eq_true rfl⟩ (fun H locs S => ?_)
  refine W.eq (g2 := F0 m 490 ls [.int r, .int r]) rfl ?_
  refine lv_icmp_eq (tgt := 843) hx hb dL_law_490 (by decide) (fun _ => ?_) (fun hc => absurd rfl hc)
  exact law_next X hi4 ih _ _ _ _ hI S hl
set_option maxRecDepth 100000 in
set_option maxHeartbeats 4000000 in
theorem law_c13 (X : CX RL cL_law 4 (some .boolean) p s m #[Value.ref b0] meth c G b) (hX : va_X b0 L xs s s.heap) (hbl : b0 < s.heap.size) (hbA : ¬ AB b b0) {i : Nat} (hi4 : i + 4 ≤ L ∧ L ≤ 2048) (t13 : SK1 f_X8_drift f_X9_drift Inv) (ih : ∀ (h : HP) (H : Heap) (locs : List Loc) (ls : Array Slot), Inv h → ST G b False s h H locs → lv_has ls 4 [(0, .ref b0), (1, .ref (b + 0)), (2, .ref (b + 142)), (3, .int (nI (i + 4)))] → W p l e room_1 s m #[Value.ref b0] below meth c H locs CC SS (lw_Z below #[Value.ref b0] s) (F0 m 18 ls [])) (h : HP) (H : Heap) (locs : List Loc) (ls : Array Slot) (hI : Inv h) (S : ST G b False s h H locs) (hl : lv_has ls 4 [(0, .ref b0), (1, .ref (b + 0)), (2, .ref (b + 142)), (3, .int (nI i))]) : W p l e room_1 s m #[Value.ref b0] below meth c H locs CC SS (lw_Z below #[Value.ref b0] s) (F0 m 495 ls []) := by
  have hx := X.1
  have hb := X.2.1
  obtain ⟨i1, i2, i3⟩ := law_in hi4
  obtain ⟨r, h1, h2, e1, e2, hI⟩ := t13 h (xs (nI i + 1).toNatClampNeg) hI
  refine lv_aload_n hx hb dL_law_495 rfl (lv_at hl 1 rfl) ?_
  refine lv_aload_n hx hb dL_law_496 rfl (lv_at hl 0 rfl) ?_
  refine lv_iload_n hx hb dL_law_497 rfl (lv_at hl 3 rfl) ?_
  refine lv_iconst (v := 1) hx hb dL_law_498 (by decide) ?_
  refine lv_iadd hx hb dL_law_499 ?_
  refine va_sld hx hb hX hbl hbA S.2 i1 dL_law_500 ?_
  refine r_callV X S hl.1 (As := [.int (xs (nI i + 1).toNatClampNeg)]) (rest := []) (c_X8_drift e1) my_X8_drift mv_X8_drift ml_L_69 rfl (o_X8_drift e1) ⟨rfl, rfl, Nat.le_of_ble_eq_true rfl, Nat.le_of_ble_eq_true rfl⟩ rfl rfl (Nat.le_of_ble_eq_true rfl) dL_law_501 ⟨Nat.le_of_ble_eq_true rfl, Nat.le_of_ble_eq_true rfl⟩ (fun H locs S => ?_)
  refine W.eq (g2 := F0 m 504 ls [.int r]) rfl ?_
  refine lv_aload_n hx hb dL_law_504 rfl (lv_at hl 2 rfl) ?_
  refine lv_aload_n hx hb dL_law_505 rfl (lv_at hl 0 rfl) ?_
  refine lv_iload_n hx hb dL_law_506 rfl (lv_at hl 3 rfl) ?_
  refine lv_iconst (v := 1) hx hb dL_law_507 (by decide) ?_
  refine lv_iadd hx hb dL_law_508 ?_
  refine va_sld hx hb hX hbl hbA S.2 i1 dL_law_509 ?_
  refine r_callV X S hl.1 (As := [.int (xs (nI i + 1).toNatClampNeg)]) (rest := [.int r]) (c_X9_drift e2) my_X9_drift mv_X9_drift ml_L_72 rfl (o_X9_drift e2) ⟨rfl, rfl, Nat.le_of_ble_eq_true rfl, Nat.le_of_ble_eq_true rfl⟩ rfl rfl (Nat.le_of_ble_eq_true rfl) dL_law_510 ⟨Nat.le_of_ble_eq_true rfl, Nat.le_of_ble_eq_true rfl⟩ (fun H locs S => ?_)
  refine W.eq (g2 := F0 m 513 ls [.int r, .int r]) rfl ?_
  refine lv_icmp_eq (tgt := 843) hx hb dL_law_513 (by decide) (fun _ => ?_) (fun hc => absurd rfl hc)
  exact law_next X hi4 ih _ _ _ _ hI S hl
set_option maxRecDepth 100000 in
set_option maxHeartbeats 4000000 in
theorem law_c14 (X : CX RL cL_law 4 (some .boolean) p s m #[Value.ref b0] meth c G b) (hX : va_X b0 L xs s s.heap) (hbl : b0 < s.heap.size) (hbA : ¬ AB b b0) {i : Nat} (hi4 : i + 4 ≤ L ∧ L ≤ 2048) (t14 : SK1 f_X8_undo f_X9_undo Inv) (ih : ∀ (h : HP) (H : Heap) (locs : List Loc) (ls : Array Slot), Inv h → ST G b False s h H locs → lv_has ls 4 [(0, .ref b0), (1, .ref (b + 0)), (2, .ref (b + 142)), (3, .int (nI (i + 4)))] → W p l e room_1 s m #[Value.ref b0] below meth c H locs CC SS (lw_Z below #[Value.ref b0] s) (F0 m 18 ls [])) (h : HP) (H : Heap) (locs : List Loc) (ls : Array Slot) (hI : Inv h) (S : ST G b False s h H locs) (hl : lv_has ls 4 [(0, .ref b0), (1, .ref (b + 0)), (2, .ref (b + 142)), (3, .int (nI i))]) : W p l e room_1 s m #[Value.ref b0] below meth c H locs CC SS (lw_Z below #[Value.ref b0] s) (F0 m 518 ls []) := by
  have hx := X.1
  have hb := X.2.1
  obtain ⟨i1, i2, i3⟩ := law_in hi4
  obtain ⟨r, h1, h2, e1, e2, hI⟩ := t14 h (xs (nI i + 1).toNatClampNeg) hI
  refine lv_aload_n hx hb dL_law_518 rfl (lv_at hl 1 rfl) ?_
  refine lv_aload_n hx hb dL_law_519 rfl (lv_at hl 0 rfl) ?_
  refine lv_iload_n hx hb dL_law_520 rfl (lv_at hl 3 rfl) ?_
  refine lv_iconst (v := 1) hx hb dL_law_521 (by decide) ?_
  refine lv_iadd hx hb dL_law_522 ?_
  refine va_sld hx hb hX hbl hbA S.2 i1 dL_law_523 ?_
  refine r_callV X S hl.1 (As := [.int (xs (nI i + 1).toNatClampNeg)]) (rest := []) (c_X8_undo e1) my_X8_undo mv_X8_undo ml_L_73 rfl (o_X8_undo e1) ⟨rfl, rfl, Nat.le_of_ble_eq_true rfl, Nat.le_of_ble_eq_true rfl⟩ rfl rfl (Nat.le_of_ble_eq_true rfl) dL_law_524 ⟨Nat.le_of_ble_eq_true rfl, Nat.le_of_ble_eq_true rfl⟩ (fun H locs S => ?_)
  refine W.eq (g2 := F0 m 527 ls [.int r]) rfl ?_
  refine lv_aload_n hx hb dL_law_527 rfl (lv_at hl 2 rfl) ?_
  refine lv_aload_n hx hb dL_law_528 rfl (lv_at hl 0 rfl) ?_
  refine lv_iload_n hx hb dL_law_529 rfl (lv_at hl 3 rfl) ?_
  refine lv_iconst (v := 1) hx hb dL_law_530 (by decide) ?_
  refine lv_iadd hx hb dL_law_531 ?_
  refine va_sld hx hb hX hbl hbA S.2 i1 dL_law_532 ?_
  refine r_callV X S hl.1 (As := [.int (xs (nI i + 1).toNatClampNeg)]) (rest := [.int r]) (c_X9_undo e2) my_X9_undo mv_X9_undo ml_L_76 rfl (o_X9_undo e2) ⟨rfl, rfl, Nat.le_of_ble_eq_true rfl, Nat.le_of_ble_eq_true rfl⟩ rfl rfl (Nat.le_of_ble_eq_true rfl) dL_law_533 ⟨Nat.le_of_ble_eq_true rfl, Nat.le_of_ble_eq_true rfl⟩ (fun H locs S => ?_)
  refine W.eq (g2 := F0 m 536 ls [.int r, .int r]) rfl ?_
  refine lv_icmp_eq (tgt := 843) hx hb dL_law_536 (by decide) (fun _ => ?_) (fun hc => absurd rfl hc)
  exact law_next X hi4 ih _ _ _ _ hI S hl
set_option maxRecDepth 100000 in
set_option maxHeartbeats 4000000 in
theorem law_c15 (X : CX RL cL_law 4 (some .boolean) p s m #[Value.ref b0] meth c G b) (hX : va_X b0 L xs s s.heap) (hbl : b0 < s.heap.size) (hbA : ¬ AB b b0) {i : Nat} (hi4 : i + 4 ≤ L ∧ L ≤ 2048) (t15 : SK2 f_X8_otherwise f_X9_otherwise Inv) (ih : ∀ (h : HP) (H : Heap) (locs : List Loc) (ls : Array Slot), Inv h → ST G b False s h H locs → lv_has ls 4 [(0, .ref b0), (1, .ref (b + 0)), (2, .ref (b + 142)), (3, .int (nI (i + 4)))] → W p l e room_1 s m #[Value.ref b0] below meth c H locs CC SS (lw_Z below #[Value.ref b0] s) (F0 m 18 ls [])) (h : HP) (H : Heap) (locs : List Loc) (ls : Array Slot) (hI : Inv h) (S : ST G b False s h H locs) (hl : lv_has ls 4 [(0, .ref b0), (1, .ref (b + 0)), (2, .ref (b + 142)), (3, .int (nI i))]) : W p l e room_1 s m #[Value.ref b0] below meth c H locs CC SS (lw_Z below #[Value.ref b0] s) (F0 m 541 ls []) := by
  have hx := X.1
  have hb := X.2.1
  obtain ⟨i1, i2, i3⟩ := law_in hi4
  obtain ⟨r, h1, h2, e1, e2, hI⟩ := t15 h (xs (nI i + 1).toNatClampNeg) (xs (nI i + 2).toNatClampNeg) hI
  refine lv_aload_n hx hb dL_law_541 rfl (lv_at hl 1 rfl) ?_
  refine lv_aload_n hx hb dL_law_542 rfl (lv_at hl 0 rfl) ?_
  refine lv_iload_n hx hb dL_law_543 rfl (lv_at hl 3 rfl) ?_
  refine lv_iconst (v := 1) hx hb dL_law_544 (by decide) ?_
  refine lv_iadd hx hb dL_law_545 ?_
  refine va_sld hx hb hX hbl hbA S.2 i1 dL_law_546 ?_
  refine lv_aload_n hx hb dL_law_547 rfl (lv_at hl 0 rfl) ?_
  refine lv_iload_n hx hb dL_law_548 rfl (lv_at hl 3 rfl) ?_
  refine lv_iconst (v := 2) hx hb dL_law_549 (by decide) ?_
  refine lv_iadd hx hb dL_law_550 ?_
  refine va_sld hx hb hX hbl hbA S.2 i2 dL_law_551 ?_
  refine r_callV X S hl.1 (As := [.int (xs (nI i + 1).toNatClampNeg), .int (xs (nI i + 2).toNatClampNeg)]) (rest := []) (c_X8_otherwise e1) my_X8_otherwise mv_X8_otherwise ml_L_77 rfl (o_X8_otherwise e1) ⟨rfl, rfl, Nat.le_of_ble_eq_true rfl, Nat.le_of_ble_eq_true rfl⟩ rfl rfl (Nat.le_of_ble_eq_true rfl) dL_law_552 ⟨Nat.le_of_ble_eq_true rfl, Nat.le_of_ble_eq_true rfl⟩ (fun H locs S => ?_)
  refine W.eq (g2 := F0 m 555 ls [.int r]) rfl ?_
  refine lv_aload_n hx hb dL_law_555 rfl (lv_at hl 2 rfl) ?_
  refine lv_aload_n hx hb dL_law_556 rfl (lv_at hl 0 rfl) ?_
  refine lv_iload_n hx hb dL_law_557 rfl (lv_at hl 3 rfl) ?_
  refine lv_iconst (v := 1) hx hb dL_law_558 (by decide) ?_
  refine lv_iadd hx hb dL_law_559 ?_
  refine va_sld hx hb hX hbl hbA S.2 i1 dL_law_560 ?_
  refine lv_aload_n hx hb dL_law_561 rfl (lv_at hl 0 rfl) ?_
  refine lv_iload_n hx hb dL_law_562 rfl (lv_at hl 3 rfl) ?_
  refine lv_iconst (v := 2) hx hb dL_law_563 (by decide) ?_
  refine lv_iadd hx hb dL_law_564 ?_
  refine va_sld hx hb hX hbl hbA S.2 i2 dL_law_565 ?_
  refine r_callV X S hl.1 (As := [.int (xs (nI i + 1).toNatClampNeg), .int (xs (nI i + 2).toNatClampNeg)]) (rest := [.int r]) (c_X9_otherwise e2) my_X9_otherwise mv_X9_otherwise ml_L_80 rfl (o_X9_otherwise e2) ⟨rfl, rfl, Nat.le_of_ble_eq_true rfl, Nat.le_of_ble_eq_true rfl⟩ rfl rfl (Nat.le_of_ble_eq_true rfl) dL_law_566 ⟨Nat.le_of_ble_eq_true rfl, Nat.le_of_ble_eq_true rfl⟩ (fun H locs S => ?_)
  refine W.eq (g2 := F0 m 569 ls [.int r, .int r]) rfl ?_
  refine lv_icmp_eq (tgt := 843) hx hb dL_law_569 (by decide) (fun _ => ?_) (fun hc => absurd rfl hc)
  exact law_next X hi4 ih _ _ _ _ hI S hl
set_option maxRecDepth 100000 in
set_option maxHeartbeats 4000000 in
theorem law_c16 (X : CX RL cL_law 4 (some .boolean) p s m #[Value.ref b0] meth c G b) (hX : va_X b0 L xs s s.heap) (hbl : b0 < s.heap.size) (hbA : ¬ AB b b0) {i : Nat} (hi4 : i + 4 ≤ L ∧ L ≤ 2048) (t16 : SK2 f_X8_odds f_X9_odds Inv) (ih : ∀ (h : HP) (H : Heap) (locs : List Loc) (ls : Array Slot), Inv h → ST G b False s h H locs → lv_has ls 4 [(0, .ref b0), (1, .ref (b + 0)), (2, .ref (b + 142)), (3, .int (nI (i + 4)))] → W p l e room_1 s m #[Value.ref b0] below meth c H locs CC SS (lw_Z below #[Value.ref b0] s) (F0 m 18 ls [])) (h : HP) (H : Heap) (locs : List Loc) (ls : Array Slot) (hI : Inv h) (S : ST G b False s h H locs) (hl : lv_has ls 4 [(0, .ref b0), (1, .ref (b + 0)), (2, .ref (b + 142)), (3, .int (nI i))]) : W p l e room_1 s m #[Value.ref b0] below meth c H locs CC SS (lw_Z below #[Value.ref b0] s) (F0 m 574 ls []) := by
  have hx := X.1
  have hb := X.2.1
  obtain ⟨i1, i2, i3⟩ := law_in hi4
  obtain ⟨r, h1, h2, e1, e2, hI⟩ := t16 h (xs (nI i + 1).toNatClampNeg) (xs (nI i + 2).toNatClampNeg) hI
  refine lv_aload_n hx hb dL_law_574 rfl (lv_at hl 1 rfl) ?_
  refine lv_aload_n hx hb dL_law_575 rfl (lv_at hl 0 rfl) ?_
  refine lv_iload_n hx hb dL_law_576 rfl (lv_at hl 3 rfl) ?_
  refine lv_iconst (v := 1) hx hb dL_law_577 (by decide) ?_
  refine lv_iadd hx hb dL_law_578 ?_
  refine va_sld hx hb hX hbl hbA S.2 i1 dL_law_579 ?_
  refine lv_aload_n hx hb dL_law_580 rfl (lv_at hl 0 rfl) ?_
  refine lv_iload_n hx hb dL_law_581 rfl (lv_at hl 3 rfl) ?_
  refine lv_iconst (v := 2) hx hb dL_law_582 (by decide) ?_
  refine lv_iadd hx hb dL_law_583 ?_
  refine va_sld hx hb hX hbl hbA S.2 i2 dL_law_584 ?_
  refine r_callV X S hl.1 (As := [.int (xs (nI i + 1).toNatClampNeg), .int (xs (nI i + 2).toNatClampNeg)]) (rest := []) (c_X8_odds e1) my_X8_odds mv_X8_odds ml_L_81 rfl (o_X8_odds e1) ⟨rfl, rfl, Nat.le_of_ble_eq_true rfl, Nat.le_of_ble_eq_true rfl⟩ rfl rfl (Nat.le_of_ble_eq_true rfl) dL_law_585 ⟨Nat.le_of_ble_eq_true rfl, Nat.le_of_ble_eq_true rfl⟩ (fun H locs S => ?_)
  refine W.eq (g2 := F0 m 588 ls [.int r]) rfl ?_
  refine lv_aload_n hx hb dL_law_588 rfl (lv_at hl 2 rfl) ?_
  refine lv_aload_n hx hb dL_law_589 rfl (lv_at hl 0 rfl) ?_
  refine lv_iload_n hx hb dL_law_590 rfl (lv_at hl 3 rfl) ?_
  refine lv_iconst (v := 1) hx hb dL_law_591 (by decide) ?_
  refine lv_iadd hx hb dL_law_592 ?_
  refine va_sld hx hb hX hbl hbA S.2 i1 dL_law_593 ?_
  refine lv_aload_n hx hb dL_law_594 rfl (lv_at hl 0 rfl) ?_
  refine lv_iload_n hx hb dL_law_595 rfl (lv_at hl 3 rfl) ?_
  refine lv_iconst (v := 2) hx hb dL_law_596 (by decide) ?_
  refine lv_iadd hx hb dL_law_597 ?_
  refine va_sld hx hb hX hbl hbA S.2 i2 dL_law_598 ?_
  refine r_callV X S hl.1 (As := [.int (xs (nI i + 1).toNatClampNeg), .int (xs (nI i + 2).toNatClampNeg)]) (rest := [.int r]) (c_X9_odds e2) my_X9_odds mv_X9_odds ml_L_84 rfl (o_X9_odds e2) ⟨rfl, rfl, Nat.le_of_ble_eq_true rfl, Nat.le_of_ble_eq_true rfl⟩ rfl rfl (Nat.le_of_ble_eq_true rfl) dL_law_599 ⟨Nat.le_of_ble_eq_true rfl, Nat.le_of_ble_eq_true rfl⟩ (fun H locs S => ?_)
  refine W.eq (g2 := F0 m 602 ls [.int r, .int r]) rfl ?_
  refine lv_icmp_eq (tgt := 843) hx hb dL_law_602 (by decide) (fun _ => ?_) (fun hc => absurd rfl hc)
  exact law_next X hi4 ih _ _ _ _ hI S hl
set_option maxRecDepth 100000 in
set_option maxHeartbeats 4000000 in
theorem law_c17 (X : CX RL cL_law 4 (some .boolean) p s m #[Value.ref b0] meth c G b) (hX : va_X b0 L xs s s.heap) (hbl : b0 < s.heap.size) (hbA : ¬ AB b b0) {i : Nat} (hi4 : i + 4 ≤ L ∧ L ≤ 2048) (t17 : SK2 f_X8_quiet f_X9_quiet Inv) (ih : ∀ (h : HP) (H : Heap) (locs : List Loc) (ls : Array Slot), Inv h → ST G b False s h H locs → lv_has ls 4 [(0, .ref b0), (1, .ref (b + 0)), (2, .ref (b + 142)), (3, .int (nI (i + 4)))] → W p l e room_1 s m #[Value.ref b0] below meth c H locs CC SS (lw_Z below #[Value.ref b0] s) (F0 m 18 ls [])) (h : HP) (H : Heap) (locs : List Loc) (ls : Array Slot) (hI : Inv h) (S : ST G b False s h H locs) (hl : lv_has ls 4 [(0, .ref b0), (1, .ref (b + 0)), (2, .ref (b + 142)), (3, .int (nI i))]) : W p l e room_1 s m #[Value.ref b0] below meth c H locs CC SS (lw_Z below #[Value.ref b0] s) (F0 m 607 ls []) := by
  have hx := X.1
  have hb := X.2.1
  obtain ⟨i1, i2, i3⟩ := law_in hi4
  obtain ⟨r, h1, h2, e1, e2, hI⟩ := t17 h (xs (nI i + 1).toNatClampNeg) (xs (nI i + 2).toNatClampNeg) hI
  refine lv_aload_n hx hb dL_law_607 rfl (lv_at hl 1 rfl) ?_
  refine lv_aload_n hx hb dL_law_608 rfl (lv_at hl 0 rfl) ?_
  refine lv_iload_n hx hb dL_law_609 rfl (lv_at hl 3 rfl) ?_
  refine lv_iconst (v := 1) hx hb dL_law_610 (by decide) ?_
  refine lv_iadd hx hb dL_law_611 ?_
  refine va_sld hx hb hX hbl hbA S.2 i1 dL_law_612 ?_
  refine lv_aload_n hx hb dL_law_613 rfl (lv_at hl 0 rfl) ?_
  refine lv_iload_n hx hb dL_law_614 rfl (lv_at hl 3 rfl) ?_
  refine lv_iconst (v := 2) hx hb dL_law_615 (by decide) ?_
  refine lv_iadd hx hb dL_law_616 ?_
  refine va_sld hx hb hX hbl hbA S.2 i2 dL_law_617 ?_
  refine r_callV X S hl.1 (As := [.int (xs (nI i + 1).toNatClampNeg), .int (xs (nI i + 2).toNatClampNeg)]) (rest := []) (c_X8_quiet e1) my_X8_quiet mv_X8_quiet ml_L_85 rfl (o_X8_quiet e1) ⟨rfl, rfl, Nat.le_of_ble_eq_true rfl, Nat.le_of_ble_eq_true rfl⟩ rfl rfl (Nat.le_of_ble_eq_true rfl) dL_law_618 ⟨Nat.le_of_ble_eq_true rfl, Nat.le_of_ble_eq_true rfl⟩ (fun H locs S => ?_)
  refine W.eq (g2 := F0 m 621 ls [.int r]) rfl ?_
  refine lv_aload_n hx hb dL_law_621 rfl (lv_at hl 2 rfl) ?_
  refine lv_aload_n hx hb dL_law_622 rfl (lv_at hl 0 rfl) ?_
  refine lv_iload_n hx hb dL_law_623 rfl (lv_at hl 3 rfl) ?_
  refine lv_iconst (v := 1) hx hb dL_law_624 (by decide) ?_
  refine lv_iadd hx hb dL_law_625 ?_
  refine va_sld hx hb hX hbl hbA S.2 i1 dL_law_626 ?_
  refine lv_aload_n hx hb dL_law_627 rfl (lv_at hl 0 rfl) ?_
  refine lv_iload_n hx hb dL_law_628 rfl (lv_at hl 3 rfl) ?_
  refine lv_iconst (v := 2) hx hb dL_law_629 (by decide) ?_
  refine lv_iadd hx hb dL_law_630 ?_
  refine va_sld hx hb hX hbl hbA S.2 i2 dL_law_631 ?_
  refine r_callV X S hl.1 (As := [.int (xs (nI i + 1).toNatClampNeg), .int (xs (nI i + 2).toNatClampNeg)]) (rest := [.int r]) (c_X9_quiet e2) my_X9_quiet mv_X9_quiet ml_L_88 rfl (o_X9_quiet e2) ⟨rfl, rfl, Nat.le_of_ble_eq_true rfl, Nat.le_of_ble_eq_true rfl⟩ rfl rfl (Nat.le_of_ble_eq_true rfl) dL_law_632 ⟨Nat.le_of_ble_eq_true rfl, Nat.le_of_ble_eq_true rfl⟩ (fun H locs S => ?_)
  refine W.eq (g2 := F0 m 635 ls [.int r, .int r]) rfl ?_
  refine lv_icmp_eq (tgt := 843) hx hb dL_law_635 (by decide) (fun _ => ?_) (fun hc => absurd rfl hc)
  exact law_next X hi4 ih _ _ _ _ hI S hl
set_option maxRecDepth 100000 in
set_option maxHeartbeats 4000000 in
theorem law_c18 (X : CX RL cL_law 4 (some .boolean) p s m #[Value.ref b0] meth c G b) (hX : va_X b0 L xs s s.heap) (hbl : b0 < s.heap.size) (hbA : ¬ AB b b0) {i : Nat} (hi4 : i + 4 ≤ L ∧ L ≤ 2048) (t18 : SKZ f_X8_see f_X9_see Inv) (ih : ∀ (h : HP) (H : Heap) (locs : List Loc) (ls : Array Slot), Inv h → ST G b False s h H locs → lv_has ls 4 [(0, .ref b0), (1, .ref (b + 0)), (2, .ref (b + 142)), (3, .int (nI (i + 4)))] → W p l e room_1 s m #[Value.ref b0] below meth c H locs CC SS (lw_Z below #[Value.ref b0] s) (F0 m 18 ls [])) (h : HP) (H : Heap) (locs : List Loc) (ls : Array Slot) (hI : Inv h) (S : ST G b False s h H locs) (hl : lv_has ls 4 [(0, .ref b0), (1, .ref (b + 0)), (2, .ref (b + 142)), (3, .int (nI i))]) : W p l e room_1 s m #[Value.ref b0] below meth c H locs CC SS (lw_Z below #[Value.ref b0] s) (F0 m 640 ls []) := by
  have hx := X.1
  have hb := X.2.1
  obtain ⟨i1, i2, i3⟩ := law_in hi4
  by_cases hz : (xs (nI i + 2).toNatClampNeg) = 0
  · obtain ⟨r, h1, h2, e1, e2, hI⟩ := t18 h (xs (nI i + 1).toNatClampNeg) 0 (Or.inl rfl) hI
    refine lv_aload_n hx hb dL_law_640 rfl (lv_at hl 1 rfl) ?_
    refine lv_aload_n hx hb dL_law_641 rfl (lv_at hl 0 rfl) ?_
    refine lv_iload_n hx hb dL_law_642 rfl (lv_at hl 3 rfl) ?_
    refine lv_iconst (v := 1) hx hb dL_law_643 (by decide) ?_
    refine lv_iadd hx hb dL_law_644 ?_
    refine va_sld hx hb hX hbl hbA S.2 i1 dL_law_645 ?_
    refine lv_aload_n hx hb dL_law_646 rfl (lv_at hl 0 rfl) ?_
    refine lv_iload_n hx hb dL_law_647 rfl (lv_at hl 3 rfl) ?_
    refine lv_iconst (v := 2) hx hb dL_law_648 (by decide) ?_
    refine lv_iadd hx hb dL_law_649 ?_
    refine va_sld hx hb hX hbl hbA S.2 i2 dL_law_650 ?_
    refine lv_if_eq (tgt := 658) hx hb dL_law_651 (by decide) (fun _ => ?_) (fun hc => absurd hz hc)
    refine lv_iconst (v := 0) hx hb dL_law_658 (by decide) ?_
    refine r_callV X S hl.1 (As := [.int (xs (nI i + 1).toNatClampNeg), .int 0]) (rest := []) (c_X8_see e1) my_X8_see mv_X8_see ml_L_89 rfl (o_X8_see e1) ⟨rfl, rfl, Nat.le_of_ble_eq_true rfl, Nat.le_of_ble_eq_true rfl⟩ rfl rfl (Nat.le_of_ble_eq_true rfl) dL_law_659 ⟨Nat.le_of_ble_eq_true rfl, Nat.le_of_ble_eq_true rfl⟩ (fun H locs S => ?_)
    refine W.eq (g2 := F0 m 662 ls [.int r]) rfl ?_
    refine lv_aload_n hx hb dL_law_662 rfl (lv_at hl 2 rfl) ?_
    refine lv_aload_n hx hb dL_law_663 rfl (lv_at hl 0 rfl) ?_
    refine lv_iload_n hx hb dL_law_664 rfl (lv_at hl 3 rfl) ?_
    refine lv_iconst (v := 1) hx hb dL_law_665 (by decide) ?_
    refine lv_iadd hx hb dL_law_666 ?_
    refine va_sld hx hb hX hbl hbA S.2 i1 dL_law_667 ?_
    refine lv_aload_n hx hb dL_law_668 rfl (lv_at hl 0 rfl) ?_
    refine lv_iload_n hx hb dL_law_669 rfl (lv_at hl 3 rfl) ?_
    refine lv_iconst (v := 2) hx hb dL_law_670 (by decide) ?_
    refine lv_iadd hx hb dL_law_671 ?_
    refine va_sld hx hb hX hbl hbA S.2 i2 dL_law_672 ?_
    refine lv_if_eq (tgt := 680) hx hb dL_law_673 (by decide) (fun _ => ?_) (fun hc => absurd hz hc)
    refine lv_iconst (v := 0) hx hb dL_law_680 (by decide) ?_
    refine r_callV X S hl.1 (As := [.int (xs (nI i + 1).toNatClampNeg), .int 0]) (rest := [.int r]) (c_X9_see e2) my_X9_see mv_X9_see ml_L_93 rfl (o_X9_see e2) ⟨rfl, rfl, Nat.le_of_ble_eq_true rfl, Nat.le_of_ble_eq_true rfl⟩ rfl rfl (Nat.le_of_ble_eq_true rfl) dL_law_681 ⟨Nat.le_of_ble_eq_true rfl, Nat.le_of_ble_eq_true rfl⟩ (fun H locs S => ?_)
    refine W.eq (g2 := F0 m 684 ls [.int r, .int r]) rfl ?_
    refine lv_icmp_eq (tgt := 843) hx hb dL_law_684 (by decide) (fun _ => ?_) (fun hc => absurd rfl hc)
    exact law_next X hi4 ih _ _ _ _ hI S hl
  · obtain ⟨r, h1, h2, e1, e2, hI⟩ := t18 h (xs (nI i + 1).toNatClampNeg) 1 (Or.inr rfl) hI
    refine lv_aload_n hx hb dL_law_640 rfl (lv_at hl 1 rfl) ?_
    refine lv_aload_n hx hb dL_law_641 rfl (lv_at hl 0 rfl) ?_
    refine lv_iload_n hx hb dL_law_642 rfl (lv_at hl 3 rfl) ?_
    refine lv_iconst (v := 1) hx hb dL_law_643 (by decide) ?_
    refine lv_iadd hx hb dL_law_644 ?_
    refine va_sld hx hb hX hbl hbA S.2 i1 dL_law_645 ?_
    refine lv_aload_n hx hb dL_law_646 rfl (lv_at hl 0 rfl) ?_
    refine lv_iload_n hx hb dL_law_647 rfl (lv_at hl 3 rfl) ?_
    refine lv_iconst (v := 2) hx hb dL_law_648 (by decide) ?_
    refine lv_iadd hx hb dL_law_649 ?_
    refine va_sld hx hb hX hbl hbA S.2 i2 dL_law_650 ?_
    refine lv_if_eq (tgt := 658) hx hb dL_law_651 (by decide) (fun hc => absurd hc hz) (fun _ => ?_)
    refine lv_iconst (v := 1) hx hb dL_law_654 (by decide) ?_
    refine lv_goto (tgt := 659) hx hb dL_law_655 (by decide) ?_
    refine r_callV X S hl.1 (As := [.int (xs (nI i + 1).toNatClampNeg), .int 1]) (rest := []) (c_X8_see e1) my_X8_see mv_X8_see ml_L_89 rfl (o_X8_see e1) ⟨rfl, rfl, Nat.le_of_ble_eq_true rfl, Nat.le_of_ble_eq_true rfl⟩ rfl rfl (Nat.le_of_ble_eq_true rfl) dL_law_659 ⟨Nat.le_of_ble_eq_true rfl, Nat.le_of_ble_eq_true rfl⟩ (fun H locs S => ?_)
    refine W.eq (g2 := F0 m 662 ls [.int r]) rfl ?_
    refine lv_aload_n hx hb dL_law_662 rfl (lv_at hl 2 rfl) ?_
    refine lv_aload_n hx hb dL_law_663 rfl (lv_at hl 0 rfl) ?_
    refine lv_iload_n hx hb dL_law_664 rfl (lv_at hl 3 rfl) ?_
    refine lv_iconst (v := 1) hx hb dL_law_665 (by decide) ?_
    refine lv_iadd hx hb dL_law_666 ?_
    refine va_sld hx hb hX hbl hbA S.2 i1 dL_law_667 ?_
    refine lv_aload_n hx hb dL_law_668 rfl (lv_at hl 0 rfl) ?_
    refine lv_iload_n hx hb dL_law_669 rfl (lv_at hl 3 rfl) ?_
    refine lv_iconst (v := 2) hx hb dL_law_670 (by decide) ?_
    refine lv_iadd hx hb dL_law_671 ?_
    refine va_sld hx hb hX hbl hbA S.2 i2 dL_law_672 ?_
    refine lv_if_eq (tgt := 680) hx hb dL_law_673 (by decide) (fun hc => absurd hc hz) (fun _ => ?_)
    refine lv_iconst (v := 1) hx hb dL_law_676 (by decide) ?_
    refine lv_goto (tgt := 681) hx hb dL_law_677 (by decide) ?_
    refine r_callV X S hl.1 (As := [.int (xs (nI i + 1).toNatClampNeg), .int 1]) (rest := [.int r]) (c_X9_see e2) my_X9_see mv_X9_see ml_L_93 rfl (o_X9_see e2) ⟨rfl, rfl, Nat.le_of_ble_eq_true rfl, Nat.le_of_ble_eq_true rfl⟩ rfl rfl (Nat.le_of_ble_eq_true rfl) dL_law_681 ⟨Nat.le_of_ble_eq_true rfl, Nat.le_of_ble_eq_true rfl⟩ (fun H locs S => ?_)
    refine W.eq (g2 := F0 m 684 ls [.int r, .int r]) rfl ?_
    refine lv_icmp_eq (tgt := 843) hx hb dL_law_684 (by decide) (fun _ => ?_) (fun hc => absurd rfl hc)
    exact law_next X hi4 ih _ _ _ _ hI S hl
set_option maxRecDepth 100000 in
set_option maxHeartbeats 4000000 in
theorem law_c19 (X : CX RL cL_law 4 (some .boolean) p s m #[Value.ref b0] meth c G b) (hX : va_X b0 L xs s s.heap) (hbl : b0 < s.heap.size) (hbA : ¬ AB b b0) {i : Nat} (hi4 : i + 4 ≤ L ∧ L ≤ 2048) (t19 : SK0 f_X8_couldBe f_X9_couldBe Inv) (ih : ∀ (h : HP) (H : Heap) (locs : List Loc) (ls : Array Slot), Inv h → ST G b False s h H locs → lv_has ls 4 [(0, .ref b0), (1, .ref (b + 0)), (2, .ref (b + 142)), (3, .int (nI (i + 4)))] → W p l e room_1 s m #[Value.ref b0] below meth c H locs CC SS (lw_Z below #[Value.ref b0] s) (F0 m 18 ls [])) (h : HP) (H : Heap) (locs : List Loc) (ls : Array Slot) (hI : Inv h) (S : ST G b False s h H locs) (hl : lv_has ls 4 [(0, .ref b0), (1, .ref (b + 0)), (2, .ref (b + 142)), (3, .int (nI i))]) : W p l e room_1 s m #[Value.ref b0] below meth c H locs CC SS (lw_Z below #[Value.ref b0] s) (F0 m 689 ls []) := by
  have hx := X.1
  have hb := X.2.1
  obtain ⟨i1, i2, i3⟩ := law_in hi4
  obtain ⟨r, h1, h2, e1, e2, hI⟩ := t19 h hI
  refine lv_aload_n hx hb dL_law_689 rfl (lv_at hl 1 rfl) ?_
  refine r_callV X S hl.1 (As := []) (rest := []) (c_X8_couldBe e1) my_X8_couldBe mv_X8_couldBe ml_L_94 rfl (o_X8_couldBe e1) ⟨rfl, rfl, Nat.le_of_ble_eq_true rfl, Nat.le_of_ble_eq_true rfl⟩ rfl rfl (Nat.le_of_ble_eq_true rfl) dL_law_690 ⟨Nat.le_of_ble_eq_true rfl, Nat.le_of_ble_eq_true rfl⟩ (fun H locs S => ?_)
  refine W.eq (g2 := F0 m 693 ls [.int r]) rfl ?_
  refine lv_aload_n hx hb dL_law_693 rfl (lv_at hl 2 rfl) ?_
  refine r_callV X S hl.1 (As := []) (rest := [.int r]) (c_X9_couldBe e2) my_X9_couldBe mv_X9_couldBe ml_L_97 rfl (o_X9_couldBe e2) ⟨rfl, rfl, Nat.le_of_ble_eq_true rfl, Nat.le_of_ble_eq_true rfl⟩ rfl rfl (Nat.le_of_ble_eq_true rfl) dL_law_694 ⟨Nat.le_of_ble_eq_true rfl, Nat.le_of_ble_eq_true rfl⟩ (fun H locs S => ?_)
  refine W.eq (g2 := F0 m 697 ls [.int r, .int r]) rfl ?_
  refine lv_icmp_eq (tgt := 843) hx hb dL_law_697 (by decide) (fun _ => ?_) (fun hc => absurd rfl hc)
  exact law_next X hi4 ih _ _ _ _ hI S hl
set_option maxRecDepth 100000 in
set_option maxHeartbeats 4000000 in
theorem law_c20 (X : CX RL cL_law 4 (some .boolean) p s m #[Value.ref b0] meth c G b) (hX : va_X b0 L xs s s.heap) (hbl : b0 < s.heap.size) (hbA : ¬ AB b b0) {i : Nat} (hi4 : i + 4 ≤ L ∧ L ≤ 2048) (t20 : SK0 f_X8_ask f_X9_ask Inv) (ih : ∀ (h : HP) (H : Heap) (locs : List Loc) (ls : Array Slot), Inv h → ST G b False s h H locs → lv_has ls 4 [(0, .ref b0), (1, .ref (b + 0)), (2, .ref (b + 142)), (3, .int (nI (i + 4)))] → W p l e room_1 s m #[Value.ref b0] below meth c H locs CC SS (lw_Z below #[Value.ref b0] s) (F0 m 18 ls [])) (h : HP) (H : Heap) (locs : List Loc) (ls : Array Slot) (hI : Inv h) (S : ST G b False s h H locs) (hl : lv_has ls 4 [(0, .ref b0), (1, .ref (b + 0)), (2, .ref (b + 142)), (3, .int (nI i))]) : W p l e room_1 s m #[Value.ref b0] below meth c H locs CC SS (lw_Z below #[Value.ref b0] s) (F0 m 702 ls []) := by
  have hx := X.1
  have hb := X.2.1
  obtain ⟨i1, i2, i3⟩ := law_in hi4
  obtain ⟨r, h1, h2, e1, e2, hI⟩ := t20 h hI
  refine lv_aload_n hx hb dL_law_702 rfl (lv_at hl 1 rfl) ?_
  refine r_callV X S hl.1 (As := []) (rest := []) (c_X8_ask e1) my_X8_ask mv_X8_ask ml_L_98 rfl (o_X8_ask e1) ⟨rfl, rfl, Nat.le_of_ble_eq_true rfl, Nat.le_of_ble_eq_true rfl⟩ rfl rfl (Nat.le_of_ble_eq_true rfl) dL_law_703 ⟨Nat.le_of_ble_eq_true rfl, Nat.le_of_ble_eq_true rfl⟩ (fun H locs S => ?_)
  refine W.eq (g2 := F0 m 706 ls [.int r]) rfl ?_
  refine lv_aload_n hx hb dL_law_706 rfl (lv_at hl 2 rfl) ?_
  refine r_callV X S hl.1 (As := []) (rest := [.int r]) (c_X9_ask e2) my_X9_ask mv_X9_ask ml_L_101 rfl (o_X9_ask e2) ⟨rfl, rfl, Nat.le_of_ble_eq_true rfl, Nat.le_of_ble_eq_true rfl⟩ rfl rfl (Nat.le_of_ble_eq_true rfl) dL_law_707 ⟨Nat.le_of_ble_eq_true rfl, Nat.le_of_ble_eq_true rfl⟩ (fun H locs S => ?_)
  refine W.eq (g2 := F0 m 710 ls [.int r, .int r]) rfl ?_
  refine lv_icmp_eq (tgt := 843) hx hb dL_law_710 (by decide) (fun _ => ?_) (fun hc => absurd rfl hc)
  exact law_next X hi4 ih _ _ _ _ hI S hl
set_option maxRecDepth 100000 in
set_option maxHeartbeats 4000000 in
theorem law_c21 (X : CX RL cL_law 4 (some .boolean) p s m #[Value.ref b0] meth c G b) (hX : va_X b0 L xs s s.heap) (hbl : b0 < s.heap.size) (hbA : ¬ AB b b0) {i : Nat} (hi4 : i + 4 ≤ L ∧ L ≤ 2048) (t21 : SK2 f_X8_write f_X9_write Inv) (ih : ∀ (h : HP) (H : Heap) (locs : List Loc) (ls : Array Slot), Inv h → ST G b False s h H locs → lv_has ls 4 [(0, .ref b0), (1, .ref (b + 0)), (2, .ref (b + 142)), (3, .int (nI (i + 4)))] → W p l e room_1 s m #[Value.ref b0] below meth c H locs CC SS (lw_Z below #[Value.ref b0] s) (F0 m 18 ls [])) (h : HP) (H : Heap) (locs : List Loc) (ls : Array Slot) (hI : Inv h) (S : ST G b False s h H locs) (hl : lv_has ls 4 [(0, .ref b0), (1, .ref (b + 0)), (2, .ref (b + 142)), (3, .int (nI i))]) : W p l e room_1 s m #[Value.ref b0] below meth c H locs CC SS (lw_Z below #[Value.ref b0] s) (F0 m 715 ls []) := by
  have hx := X.1
  have hb := X.2.1
  obtain ⟨i1, i2, i3⟩ := law_in hi4
  obtain ⟨r, h1, h2, e1, e2, hI⟩ := t21 h (xs (nI i + 1).toNatClampNeg) (xs (nI i + 2).toNatClampNeg) hI
  refine lv_aload_n hx hb dL_law_715 rfl (lv_at hl 1 rfl) ?_
  refine lv_aload_n hx hb dL_law_716 rfl (lv_at hl 0 rfl) ?_
  refine lv_iload_n hx hb dL_law_717 rfl (lv_at hl 3 rfl) ?_
  refine lv_iconst (v := 1) hx hb dL_law_718 (by decide) ?_
  refine lv_iadd hx hb dL_law_719 ?_
  refine va_sld hx hb hX hbl hbA S.2 i1 dL_law_720 ?_
  refine lv_aload_n hx hb dL_law_721 rfl (lv_at hl 0 rfl) ?_
  refine lv_iload_n hx hb dL_law_722 rfl (lv_at hl 3 rfl) ?_
  refine lv_iconst (v := 2) hx hb dL_law_723 (by decide) ?_
  refine lv_iadd hx hb dL_law_724 ?_
  refine va_sld hx hb hX hbl hbA S.2 i2 dL_law_725 ?_
  refine r_callV X S hl.1 (As := [.int (xs (nI i + 1).toNatClampNeg), .int (xs (nI i + 2).toNatClampNeg)]) (rest := []) (c_X8_write e1) my_X8_write mv_X8_write ml_L_102 rfl (o_X8_write e1) ⟨rfl, rfl, Nat.le_of_ble_eq_true rfl, Nat.le_of_ble_eq_true rfl⟩ rfl rfl (Nat.le_of_ble_eq_true rfl) dL_law_726 ⟨Nat.le_of_ble_eq_true rfl, Nat.le_of_ble_eq_true rfl⟩ (fun H locs S => ?_)
  refine W.eq (g2 := F0 m 729 ls [.int r]) rfl ?_
  refine lv_aload_n hx hb dL_law_729 rfl (lv_at hl 2 rfl) ?_
  refine lv_aload_n hx hb dL_law_730 rfl (lv_at hl 0 rfl) ?_
  refine lv_iload_n hx hb dL_law_731 rfl (lv_at hl 3 rfl) ?_
  refine lv_iconst (v := 1) hx hb dL_law_732 (by decide) ?_
  refine lv_iadd hx hb dL_law_733 ?_
  refine va_sld hx hb hX hbl hbA S.2 i1 dL_law_734 ?_
  refine lv_aload_n hx hb dL_law_735 rfl (lv_at hl 0 rfl) ?_
  refine lv_iload_n hx hb dL_law_736 rfl (lv_at hl 3 rfl) ?_
  refine lv_iconst (v := 2) hx hb dL_law_737 (by decide) ?_
  refine lv_iadd hx hb dL_law_738 ?_
  refine va_sld hx hb hX hbl hbA S.2 i2 dL_law_739 ?_
  refine r_callV X S hl.1 (As := [.int (xs (nI i + 1).toNatClampNeg), .int (xs (nI i + 2).toNatClampNeg)]) (rest := [.int r]) (c_X9_write e2) my_X9_write mv_X9_write ml_L_105 rfl (o_X9_write e2) ⟨rfl, rfl, Nat.le_of_ble_eq_true rfl, Nat.le_of_ble_eq_true rfl⟩ rfl rfl (Nat.le_of_ble_eq_true rfl) dL_law_740 ⟨Nat.le_of_ble_eq_true rfl, Nat.le_of_ble_eq_true rfl⟩ (fun H locs S => ?_)
  refine W.eq (g2 := F0 m 743 ls [.int r, .int r]) rfl ?_
  refine lv_icmp_eq (tgt := 843) hx hb dL_law_743 (by decide) (fun _ => ?_) (fun hc => absurd rfl hc)
  exact law_next X hi4 ih _ _ _ _ hI S hl
set_option maxRecDepth 100000 in
set_option maxHeartbeats 4000000 in
theorem law_c22 (X : CX RL cL_law 4 (some .boolean) p s m #[Value.ref b0] meth c G b) (hX : va_X b0 L xs s s.heap) (hbl : b0 < s.heap.size) (hbA : ¬ AB b b0) {i : Nat} (hi4 : i + 4 ≤ L ∧ L ≤ 2048) (t22 : SK0 f_X8_judge f_X9_judge Inv) (ih : ∀ (h : HP) (H : Heap) (locs : List Loc) (ls : Array Slot), Inv h → ST G b False s h H locs → lv_has ls 4 [(0, .ref b0), (1, .ref (b + 0)), (2, .ref (b + 142)), (3, .int (nI (i + 4)))] → W p l e room_1 s m #[Value.ref b0] below meth c H locs CC SS (lw_Z below #[Value.ref b0] s) (F0 m 18 ls [])) (h : HP) (H : Heap) (locs : List Loc) (ls : Array Slot) (hI : Inv h) (S : ST G b False s h H locs) (hl : lv_has ls 4 [(0, .ref b0), (1, .ref (b + 0)), (2, .ref (b + 142)), (3, .int (nI i))]) : W p l e room_1 s m #[Value.ref b0] below meth c H locs CC SS (lw_Z below #[Value.ref b0] s) (F0 m 748 ls []) := by
  have hx := X.1
  have hb := X.2.1
  obtain ⟨i1, i2, i3⟩ := law_in hi4
  obtain ⟨r, h1, h2, e1, e2, hI⟩ := t22 h hI
  refine lv_aload_n hx hb dL_law_748 rfl (lv_at hl 1 rfl) ?_
  refine r_callV X S hl.1 (As := []) (rest := []) (c_X8_judge e1) my_X8_judge mv_X8_judge ml_L_106 rfl (o_X8_judge e1) ⟨rfl, rfl, Nat.le_of_ble_eq_true rfl, Nat.le_of_ble_eq_true rfl⟩ rfl rfl (Nat.le_of_ble_eq_true rfl) dL_law_749 ⟨Nat.le_of_ble_eq_true rfl, Nat.le_of_ble_eq_true rfl⟩ (fun H locs S => ?_)
  refine W.eq (g2 := F0 m 752 ls [.int r]) rfl ?_
  refine lv_aload_n hx hb dL_law_752 rfl (lv_at hl 2 rfl) ?_
  refine r_callV X S hl.1 (As := []) (rest := [.int r]) (c_X9_judge e2) my_X9_judge mv_X9_judge ml_L_109 rfl (o_X9_judge e2) ⟨rfl, rfl, Nat.le_of_ble_eq_true rfl, Nat.le_of_ble_eq_true rfl⟩ rfl rfl (Nat.le_of_ble_eq_true rfl) dL_law_753 ⟨Nat.le_of_ble_eq_true rfl, Nat.le_of_ble_eq_true rfl⟩ (fun H locs S => ?_)
  refine W.eq (g2 := F0 m 756 ls [.int r, .int r]) rfl ?_
  refine lv_icmp_eq (tgt := 843) hx hb dL_law_756 (by decide) (fun _ => ?_) (fun hc => absurd rfl hc)
  exact law_next X hi4 ih _ _ _ _ hI S hl
set_option maxRecDepth 100000 in
set_option maxHeartbeats 4000000 in
theorem law_c23 (X : CX RL cL_law 4 (some .boolean) p s m #[Value.ref b0] meth c G b) (hX : va_X b0 L xs s s.heap) (hbl : b0 < s.heap.size) (hbA : ¬ AB b b0) {i : Nat} (hi4 : i + 4 ≤ L ∧ L ≤ 2048) (t23 : SK0 f_X8_tear f_X9_tear Inv) (ih : ∀ (h : HP) (H : Heap) (locs : List Loc) (ls : Array Slot), Inv h → ST G b False s h H locs → lv_has ls 4 [(0, .ref b0), (1, .ref (b + 0)), (2, .ref (b + 142)), (3, .int (nI (i + 4)))] → W p l e room_1 s m #[Value.ref b0] below meth c H locs CC SS (lw_Z below #[Value.ref b0] s) (F0 m 18 ls [])) (h : HP) (H : Heap) (locs : List Loc) (ls : Array Slot) (hI : Inv h) (S : ST G b False s h H locs) (hl : lv_has ls 4 [(0, .ref b0), (1, .ref (b + 0)), (2, .ref (b + 142)), (3, .int (nI i))]) : W p l e room_1 s m #[Value.ref b0] below meth c H locs CC SS (lw_Z below #[Value.ref b0] s) (F0 m 761 ls []) := by
  have hx := X.1
  have hb := X.2.1
  obtain ⟨i1, i2, i3⟩ := law_in hi4
  obtain ⟨r, h1, h2, e1, e2, hI⟩ := t23 h hI
  refine lv_aload_n hx hb dL_law_761 rfl (lv_at hl 1 rfl) ?_
  refine r_callV X S hl.1 (As := []) (rest := []) (c_X8_tear e1) my_X8_tear mv_X8_tear ml_L_110 rfl (o_X8_tear e1) ⟨rfl, rfl, Nat.le_of_ble_eq_true rfl, Nat.le_of_ble_eq_true rfl⟩ rfl rfl (Nat.le_of_ble_eq_true rfl) dL_law_762 ⟨Nat.le_of_ble_eq_true rfl, Nat.le_of_ble_eq_true rfl⟩ (fun H locs S => ?_)
  refine W.eq (g2 := F0 m 765 ls [.int r]) rfl ?_
  refine lv_aload_n hx hb dL_law_765 rfl (lv_at hl 2 rfl) ?_
  refine r_callV X S hl.1 (As := []) (rest := [.int r]) (c_X9_tear e2) my_X9_tear mv_X9_tear ml_L_113 rfl (o_X9_tear e2) ⟨rfl, rfl, Nat.le_of_ble_eq_true rfl, Nat.le_of_ble_eq_true rfl⟩ rfl rfl (Nat.le_of_ble_eq_true rfl) dL_law_766 ⟨Nat.le_of_ble_eq_true rfl, Nat.le_of_ble_eq_true rfl⟩ (fun H locs S => ?_)
  refine W.eq (g2 := F0 m 769 ls [.int r, .int r]) rfl ?_
  refine lv_icmp_eq (tgt := 843) hx hb dL_law_769 (by decide) (fun _ => ?_) (fun hc => absurd rfl hc)
  exact law_next X hi4 ih _ _ _ _ hI S hl
set_option maxRecDepth 100000 in
set_option maxHeartbeats 4000000 in
theorem law_c24 (X : CX RL cL_law 4 (some .boolean) p s m #[Value.ref b0] meth c G b) (hX : va_X b0 L xs s s.heap) (hbl : b0 < s.heap.size) (hbA : ¬ AB b b0) {i : Nat} (hi4 : i + 4 ≤ L ∧ L ≤ 2048) (t24 : SK1 f_X8_seed f_X9_seed Inv) (ih : ∀ (h : HP) (H : Heap) (locs : List Loc) (ls : Array Slot), Inv h → ST G b False s h H locs → lv_has ls 4 [(0, .ref b0), (1, .ref (b + 0)), (2, .ref (b + 142)), (3, .int (nI (i + 4)))] → W p l e room_1 s m #[Value.ref b0] below meth c H locs CC SS (lw_Z below #[Value.ref b0] s) (F0 m 18 ls [])) (h : HP) (H : Heap) (locs : List Loc) (ls : Array Slot) (hI : Inv h) (S : ST G b False s h H locs) (hl : lv_has ls 4 [(0, .ref b0), (1, .ref (b + 0)), (2, .ref (b + 142)), (3, .int (nI i))]) : W p l e room_1 s m #[Value.ref b0] below meth c H locs CC SS (lw_Z below #[Value.ref b0] s) (F0 m 774 ls []) := by
  have hx := X.1
  have hb := X.2.1
  obtain ⟨i1, i2, i3⟩ := law_in hi4
  obtain ⟨r, h1, h2, e1, e2, hI⟩ := t24 h (xs (nI i + 1).toNatClampNeg) hI
  refine lv_aload_n hx hb dL_law_774 rfl (lv_at hl 1 rfl) ?_
  refine lv_aload_n hx hb dL_law_775 rfl (lv_at hl 0 rfl) ?_
  refine lv_iload_n hx hb dL_law_776 rfl (lv_at hl 3 rfl) ?_
  refine lv_iconst (v := 1) hx hb dL_law_777 (by decide) ?_
  refine lv_iadd hx hb dL_law_778 ?_
  refine va_sld hx hb hX hbl hbA S.2 i1 dL_law_779 ?_
  refine r_callV X S hl.1 (As := [.int (xs (nI i + 1).toNatClampNeg)]) (rest := []) (c_X8_seed e1) my_X8_seed mv_X8_seed ml_L_114 rfl (o_X8_seed e1) ⟨rfl, rfl, Nat.le_of_ble_eq_true rfl, Nat.le_of_ble_eq_true rfl⟩ rfl rfl (Nat.le_of_ble_eq_true rfl) dL_law_780 ⟨Nat.le_of_ble_eq_true rfl, Nat.le_of_ble_eq_true rfl⟩ (fun H locs S => ?_)
  refine W.eq (g2 := F0 m 783 ls [.int r]) rfl ?_
  refine lv_aload_n hx hb dL_law_783 rfl (lv_at hl 2 rfl) ?_
  refine lv_aload_n hx hb dL_law_784 rfl (lv_at hl 0 rfl) ?_
  refine lv_iload_n hx hb dL_law_785 rfl (lv_at hl 3 rfl) ?_
  refine lv_iconst (v := 1) hx hb dL_law_786 (by decide) ?_
  refine lv_iadd hx hb dL_law_787 ?_
  refine va_sld hx hb hX hbl hbA S.2 i1 dL_law_788 ?_
  refine r_callV X S hl.1 (As := [.int (xs (nI i + 1).toNatClampNeg)]) (rest := [.int r]) (c_X9_seed e2) my_X9_seed mv_X9_seed ml_L_117 rfl (o_X9_seed e2) ⟨rfl, rfl, Nat.le_of_ble_eq_true rfl, Nat.le_of_ble_eq_true rfl⟩ rfl rfl (Nat.le_of_ble_eq_true rfl) dL_law_789 ⟨Nat.le_of_ble_eq_true rfl, Nat.le_of_ble_eq_true rfl⟩ (fun H locs S => ?_)
  refine W.eq (g2 := F0 m 792 ls [.int r, .int r]) rfl ?_
  refine lv_icmp_eq (tgt := 843) hx hb dL_law_792 (by decide) (fun _ => ?_) (fun hc => absurd rfl hc)
  exact law_next X hi4 ih _ _ _ _ hI S hl
set_option maxRecDepth 100000 in
set_option maxHeartbeats 4000000 in
theorem law_c25 (X : CX RL cL_law 4 (some .boolean) p s m #[Value.ref b0] meth c G b) (hX : va_X b0 L xs s s.heap) (hbl : b0 < s.heap.size) (hbA : ¬ AB b b0) {i : Nat} (hi4 : i + 4 ≤ L ∧ L ≤ 2048) (t25 : SK1 f_X8_keep f_X9_keep Inv) (ih : ∀ (h : HP) (H : Heap) (locs : List Loc) (ls : Array Slot), Inv h → ST G b False s h H locs → lv_has ls 4 [(0, .ref b0), (1, .ref (b + 0)), (2, .ref (b + 142)), (3, .int (nI (i + 4)))] → W p l e room_1 s m #[Value.ref b0] below meth c H locs CC SS (lw_Z below #[Value.ref b0] s) (F0 m 18 ls [])) (h : HP) (H : Heap) (locs : List Loc) (ls : Array Slot) (hI : Inv h) (S : ST G b False s h H locs) (hl : lv_has ls 4 [(0, .ref b0), (1, .ref (b + 0)), (2, .ref (b + 142)), (3, .int (nI i))]) : W p l e room_1 s m #[Value.ref b0] below meth c H locs CC SS (lw_Z below #[Value.ref b0] s) (F0 m 797 ls []) := by
  have hx := X.1
  have hb := X.2.1
  obtain ⟨i1, i2, i3⟩ := law_in hi4
  obtain ⟨r, h1, h2, e1, e2, hI⟩ := t25 h (xs (nI i + 1).toNatClampNeg) hI
  refine lv_aload_n hx hb dL_law_797 rfl (lv_at hl 1 rfl) ?_
  refine lv_aload_n hx hb dL_law_798 rfl (lv_at hl 0 rfl) ?_
  refine lv_iload_n hx hb dL_law_799 rfl (lv_at hl 3 rfl) ?_
  refine lv_iconst (v := 1) hx hb dL_law_800 (by decide) ?_
  refine lv_iadd hx hb dL_law_801 ?_
  refine va_sld hx hb hX hbl hbA S.2 i1 dL_law_802 ?_
  refine r_callV X S hl.1 (As := [.int (xs (nI i + 1).toNatClampNeg)]) (rest := []) (c_X8_keep e1) my_X8_keep mv_X8_keep ml_L_118 rfl (o_X8_keep e1) ⟨rfl, rfl, Nat.le_of_ble_eq_true rfl, Nat.le_of_ble_eq_true rfl⟩ rfl rfl (Nat.le_of_ble_eq_true rfl) dL_law_803 ⟨Nat.le_of_ble_eq_true rfl, Nat.le_of_ble_eq_true rfl⟩ (fun H locs S => ?_)
  refine W.eq (g2 := F0 m 806 ls [.int r]) rfl ?_
  refine lv_aload_n hx hb dL_law_806 rfl (lv_at hl 2 rfl) ?_
  refine lv_aload_n hx hb dL_law_807 rfl (lv_at hl 0 rfl) ?_
  refine lv_iload_n hx hb dL_law_808 rfl (lv_at hl 3 rfl) ?_
  refine lv_iconst (v := 1) hx hb dL_law_809 (by decide) ?_
  refine lv_iadd hx hb dL_law_810 ?_
  refine va_sld hx hb hX hbl hbA S.2 i1 dL_law_811 ?_
  refine r_callV X S hl.1 (As := [.int (xs (nI i + 1).toNatClampNeg)]) (rest := [.int r]) (c_X9_keep e2) my_X9_keep mv_X9_keep ml_L_121 rfl (o_X9_keep e2) ⟨rfl, rfl, Nat.le_of_ble_eq_true rfl, Nat.le_of_ble_eq_true rfl⟩ rfl rfl (Nat.le_of_ble_eq_true rfl) dL_law_812 ⟨Nat.le_of_ble_eq_true rfl, Nat.le_of_ble_eq_true rfl⟩ (fun H locs S => ?_)
  refine W.eq (g2 := F0 m 815 ls [.int r, .int r]) rfl ?_
  refine lv_icmp_eq (tgt := 843) hx hb dL_law_815 (by decide) (fun _ => ?_) (fun hc => absurd rfl hc)
  exact law_next X hi4 ih _ _ _ _ hI S hl
set_option maxRecDepth 100000 in
set_option maxHeartbeats 4000000 in
theorem law_c26 (X : CX RL cL_law 4 (some .boolean) p s m #[Value.ref b0] meth c G b) (hX : va_X b0 L xs s s.heap) (hbl : b0 < s.heap.size) (hbA : ¬ AB b b0) {i : Nat} (hi4 : i + 4 ≤ L ∧ L ≤ 2048) (t26 : SK1 f_X8_goBack f_X9_goBack Inv) (ih : ∀ (h : HP) (H : Heap) (locs : List Loc) (ls : Array Slot), Inv h → ST G b False s h H locs → lv_has ls 4 [(0, .ref b0), (1, .ref (b + 0)), (2, .ref (b + 142)), (3, .int (nI (i + 4)))] → W p l e room_1 s m #[Value.ref b0] below meth c H locs CC SS (lw_Z below #[Value.ref b0] s) (F0 m 18 ls [])) (h : HP) (H : Heap) (locs : List Loc) (ls : Array Slot) (hI : Inv h) (S : ST G b False s h H locs) (hl : lv_has ls 4 [(0, .ref b0), (1, .ref (b + 0)), (2, .ref (b + 142)), (3, .int (nI i))]) : W p l e room_1 s m #[Value.ref b0] below meth c H locs CC SS (lw_Z below #[Value.ref b0] s) (F0 m 820 ls []) := by
  have hx := X.1
  have hb := X.2.1
  obtain ⟨i1, i2, i3⟩ := law_in hi4
  obtain ⟨r, h1, h2, e1, e2, hI⟩ := t26 h (xs (nI i + 1).toNatClampNeg) hI
  refine lv_aload_n hx hb dL_law_820 rfl (lv_at hl 1 rfl) ?_
  refine lv_aload_n hx hb dL_law_821 rfl (lv_at hl 0 rfl) ?_
  refine lv_iload_n hx hb dL_law_822 rfl (lv_at hl 3 rfl) ?_
  refine lv_iconst (v := 1) hx hb dL_law_823 (by decide) ?_
  refine lv_iadd hx hb dL_law_824 ?_
  refine va_sld hx hb hX hbl hbA S.2 i1 dL_law_825 ?_
  refine r_callV X S hl.1 (As := [.int (xs (nI i + 1).toNatClampNeg)]) (rest := []) (c_X8_goBack e1) my_X8_goBack mv_X8_goBack ml_L_122 rfl (o_X8_goBack e1) ⟨rfl, rfl, Nat.le_of_ble_eq_true rfl, Nat.le_of_ble_eq_true rfl⟩ rfl rfl (Nat.le_of_ble_eq_true rfl) dL_law_826 ⟨Nat.le_of_ble_eq_true rfl, Nat.le_of_ble_eq_true rfl⟩ (fun H locs S => ?_)
  refine W.eq (g2 := F0 m 829 ls [.int r]) rfl ?_
  refine lv_aload_n hx hb dL_law_829 rfl (lv_at hl 2 rfl) ?_
  refine lv_aload_n hx hb dL_law_830 rfl (lv_at hl 0 rfl) ?_
  refine lv_iload_n hx hb dL_law_831 rfl (lv_at hl 3 rfl) ?_
  refine lv_iconst (v := 1) hx hb dL_law_832 (by decide) ?_
  refine lv_iadd hx hb dL_law_833 ?_
  refine va_sld hx hb hX hbl hbA S.2 i1 dL_law_834 ?_
  refine r_callV X S hl.1 (As := [.int (xs (nI i + 1).toNatClampNeg)]) (rest := [.int r]) (c_X9_goBack e2) my_X9_goBack mv_X9_goBack ml_L_125 rfl (o_X9_goBack e2) ⟨rfl, rfl, Nat.le_of_ble_eq_true rfl, Nat.le_of_ble_eq_true rfl⟩ rfl rfl (Nat.le_of_ble_eq_true rfl) dL_law_835 ⟨Nat.le_of_ble_eq_true rfl, Nat.le_of_ble_eq_true rfl⟩ (fun H locs S => ?_)
  refine W.eq (g2 := F0 m 838 ls [.int r, .int r]) rfl ?_
  refine lv_icmp_eq (tgt := 843) hx hb dL_law_838 (by decide) (fun _ => ?_) (fun hc => absurd rfl hc)
  exact law_next X hi4 ih _ _ _ _ hI S hl
set_option maxRecDepth 100000 in
set_option maxHeartbeats 4000000 in
theorem law_loop (X : CX RL cL_law 4 (some .boolean) p s m #[Value.ref b0] meth c G b) (hr : meth.sig.returnType = ret) (hlocks : meth.locks = false) (hL : L ≤ 2048) (hbs : b = s.heap.size) (hX : va_X b0 L xs s s.heap) (hbl : b0 < s.heap.size) (hbA : ¬ AB b b0) (t0 : SK1 f_X8_feed f_X9_feed Inv) (t1 : SK0 f_X8_hostel f_X9_hostel Inv) (t2 : SK0 f_X8_fault f_X9_fault Inv) (t3 : SK1 f_X8_told f_X9_told Inv) (t4 : SK2 f_X8_person f_X9_person Inv) (t5 : SK2 f_X8_likes f_X9_likes Inv) (t6 : SK2 f_X8_room f_X9_room Inv) (t7 : SK3 f_X8_like f_X9_like Inv) (t8 : SK2 f_X8_strike f_X9_strike Inv) (t9 : SK2 f_X8_lot f_X9_lot Inv) (t10 : SK1 f_X8_refuse f_X9_refuse Inv) (t11 : SK0 f_X8_moved f_X9_moved Inv) (t12 : SK1 f_X8_leave f_X9_leave Inv) (t13 : SK1 f_X8_drift f_X9_drift Inv) (t14 : SK1 f_X8_undo f_X9_undo Inv) (t15 : SK2 f_X8_otherwise f_X9_otherwise Inv) (t16 : SK2 f_X8_odds f_X9_odds Inv) (t17 : SK2 f_X8_quiet f_X9_quiet Inv) (t18 : SKZ f_X8_see f_X9_see Inv) (t19 : SK0 f_X8_couldBe f_X9_couldBe Inv) (t20 : SK0 f_X8_ask f_X9_ask Inv) (t21 : SK2 f_X8_write f_X9_write Inv) (t22 : SK0 f_X8_judge f_X9_judge Inv) (t23 : SK0 f_X8_tear f_X9_tear Inv) (t24 : SK1 f_X8_seed f_X9_seed Inv) (t25 : SK1 f_X8_keep f_X9_keep Inv) (t26 : SK1 f_X8_goBack f_X9_goBack Inv) : ∀ (n i : Nat) (h : HP) (H : Heap) (locs : List Loc) (ls : Array Slot), i ≤ L + 4 → L + 5 ≤ i + n → Inv h → ST G b False s h H locs → lv_has ls 4 [(0, .ref b0), (1, .ref (b + 0)), (2, .ref (b + 142)), (3, .int (nI i))] → W p l e room_1 s m #[Value.ref b0] below meth c H locs CC SS (lw_Z below #[Value.ref b0] s) (F0 m 18 ls []) := by
  have hx := X.1
  have hb := X.2.1
  intro n
  induction n with
  | zero => intro i h H locs ls h1 h2; exact absurd h2 (by omega)
  | succ n ih0 =>
    intro i h H locs ls hi hin hI S hl
    refine lv_iload_n hx hb dL_law_18 rfl (lv_at hl 3 rfl) ?_
    refine lv_aload_n hx hb dL_law_19 rfl (lv_at hl 0 rfl) ?_
    refine va_slen hx hb hX hbl hbA S.2 dL_law_20 ?_
    refine lv_iconst (v := 4) hx hb dL_law_21 (by decide) ?_
    refine lv_isub hx hb dL_law_22 ?_
    refine lv_icmp_gt (tgt := 849) hx hb dL_law_23 (by decide) (fun hc => ?_) (fun hc => ?_)
    · refine lv_iconst (v := 1) hx hb dL_law_849 (by decide) ?_
      refine va_forget (fun q hq => by rw [← hbs]; exact S.2.2.2 q hq) ?_
      refine W.widen (k := 600000) (n := 7302250) (Nat.le_of_ble_eq_true rfl) (Nat.le_of_ble_eq_true rfl) ?_
      exact lw_ret hx hb hr hlocks dL_law_850
    have hi4 : i + 4 ≤ L ∧ L ≤ 2048 := by
      refine ⟨?_, hL⟩
      have hq : ¬ ((nI L - nI 4).toInt < (nI i).toInt) := fun q => hc (Int32.lt_iff_toInt_lt.mpr q)
      rw [pk_sub_toInt (by omega) (by omega), nI_toInt (by omega)] at hq
      omega
    have ih := fun (h : HP) (H : Heap) (locs : List Loc) (ls : Array Slot) => ih0 (i + 4) h H locs ls (by omega) (by omega)
    obtain ⟨i1, i2, i3⟩ := law_in hi4
    refine lv_aload_n hx hb dL_law_26 rfl (lv_at hl 0 rfl) ?_
    refine lv_iload_n hx hb dL_law_27 rfl (lv_at hl 3 rfl) ?_
    refine va_sld hx hb hX hbl hbA S.2 (vp_in_nI (by omega) (by omega)) dL_law_28 ?_
    refine lv_bipush (v := 31) hx hb dL_law_29 (by decide) ?_
    refine lv_iand hx hb dL_law_31 ?_
    refine lv_topi (fun v ev => ?_)
    by_cases hs0 : v = nI 0
    · refine lv_tableIn (off := 124) (tgt := 156) hx hb dL_law_32 (by rw [hs0]; decide) (by rw [hs0]; decide) (by rw [hs0]; decide) (by decide) ?_
      exact law_c0 X hX hbl hbA hi4 t0 ih _ _ _ _ hI S hl
    by_cases hs1 : v = nI 1
    · refine lv_tableIn (off := 147) (tgt := 179) hx hb dL_law_32 (by rw [hs1]; decide) (by rw [hs1]; decide) (by rw [hs1]; decide) (by decide) ?_
      exact law_c1 X hX hbl hbA hi4 t1 ih _ _ _ _ hI S hl
    by_cases hs2 : v = nI 2
    · refine lv_tableIn (off := 160) (tgt := 192) hx hb dL_law_32 (by rw [hs2]; decide) (by rw [hs2]; decide) (by rw [hs2]; decide) (by decide) ?_
      exact law_c2 X hX hbl hbA hi4 t2 ih _ _ _ _ hI S hl
    by_cases hs3 : v = nI 3
    · refine lv_tableIn (off := 173) (tgt := 205) hx hb dL_law_32 (by rw [hs3]; decide) (by rw [hs3]; decide) (by rw [hs3]; decide) (by decide) ?_
      exact law_c3 X hX hbl hbA hi4 t3 ih _ _ _ _ hI S hl
    by_cases hs4 : v = nI 4
    · refine lv_tableIn (off := 196) (tgt := 228) hx hb dL_law_32 (by rw [hs4]; decide) (by rw [hs4]; decide) (by rw [hs4]; decide) (by decide) ?_
      exact law_c4 X hX hbl hbA hi4 t4 ih _ _ _ _ hI S hl
    by_cases hs5 : v = nI 5
    · refine lv_tableIn (off := 229) (tgt := 261) hx hb dL_law_32 (by rw [hs5]; decide) (by rw [hs5]; decide) (by rw [hs5]; decide) (by decide) ?_
      exact law_c5 X hX hbl hbA hi4 t5 ih _ _ _ _ hI S hl
    by_cases hs6 : v = nI 6
    · refine lv_tableIn (off := 262) (tgt := 294) hx hb dL_law_32 (by rw [hs6]; decide) (by rw [hs6]; decide) (by rw [hs6]; decide) (by decide) ?_
      exact law_c6 X hX hbl hbA hi4 t6 ih _ _ _ _ hI S hl
    by_cases hs7 : v = nI 7
    · refine lv_tableIn (off := 295) (tgt := 327) hx hb dL_law_32 (by rw [hs7]; decide) (by rw [hs7]; decide) (by rw [hs7]; decide) (by decide) ?_
      exact law_c7 X hX hbl hbA hi4 t7 ih _ _ _ _ hI S hl
    by_cases hs8 : v = nI 8
    · refine lv_tableIn (off := 338) (tgt := 370) hx hb dL_law_32 (by rw [hs8]; decide) (by rw [hs8]; decide) (by rw [hs8]; decide) (by decide) ?_
      exact law_c8 X hX hbl hbA hi4 t8 ih _ _ _ _ hI S hl
    by_cases hs9 : v = nI 9
    · refine lv_tableIn (off := 371) (tgt := 403) hx hb dL_law_32 (by rw [hs9]; decide) (by rw [hs9]; decide) (by rw [hs9]; decide) (by decide) ?_
      exact law_c9 X hX hbl hbA hi4 t9 ih _ _ _ _ hI S hl
    by_cases hs10 : v = nI 10
    · refine lv_tableIn (off := 404) (tgt := 436) hx hb dL_law_32 (by rw [hs10]; decide) (by rw [hs10]; decide) (by rw [hs10]; decide) (by decide) ?_
      exact law_c10 X hX hbl hbA hi4 t10 ih _ _ _ _ hI S hl
    by_cases hs11 : v = nI 11
    · refine lv_tableIn (off := 427) (tgt := 459) hx hb dL_law_32 (by rw [hs11]; decide) (by rw [hs11]; decide) (by rw [hs11]; decide) (by decide) ?_
      exact law_c11 X hX hbl hbA hi4 t11 ih _ _ _ _ hI S hl
    by_cases hs12 : v = nI 12
    · refine lv_tableIn (off := 440) (tgt := 472) hx hb dL_law_32 (by rw [hs12]; decide) (by rw [hs12]; decide) (by rw [hs12]; decide) (by decide) ?_
      exact law_c12 X hX hbl hbA hi4 t12 ih _ _ _ _ hI S hl
    by_cases hs13 : v = nI 13
    · refine lv_tableIn (off := 463) (tgt := 495) hx hb dL_law_32 (by rw [hs13]; decide) (by rw [hs13]; decide) (by rw [hs13]; decide) (by decide) ?_
      exact law_c13 X hX hbl hbA hi4 t13 ih _ _ _ _ hI S hl
    by_cases hs14 : v = nI 14
    · refine lv_tableIn (off := 486) (tgt := 518) hx hb dL_law_32 (by rw [hs14]; decide) (by rw [hs14]; decide) (by rw [hs14]; decide) (by decide) ?_
      exact law_c14 X hX hbl hbA hi4 t14 ih _ _ _ _ hI S hl
    by_cases hs15 : v = nI 15
    · refine lv_tableIn (off := 509) (tgt := 541) hx hb dL_law_32 (by rw [hs15]; decide) (by rw [hs15]; decide) (by rw [hs15]; decide) (by decide) ?_
      exact law_c15 X hX hbl hbA hi4 t15 ih _ _ _ _ hI S hl
    by_cases hs16 : v = nI 16
    · refine lv_tableIn (off := 542) (tgt := 574) hx hb dL_law_32 (by rw [hs16]; decide) (by rw [hs16]; decide) (by rw [hs16]; decide) (by decide) ?_
      exact law_c16 X hX hbl hbA hi4 t16 ih _ _ _ _ hI S hl
    by_cases hs17 : v = nI 17
    · refine lv_tableIn (off := 575) (tgt := 607) hx hb dL_law_32 (by rw [hs17]; decide) (by rw [hs17]; decide) (by rw [hs17]; decide) (by decide) ?_
      exact law_c17 X hX hbl hbA hi4 t17 ih _ _ _ _ hI S hl
    by_cases hs18 : v = nI 18
    · refine lv_tableIn (off := 608) (tgt := 640) hx hb dL_law_32 (by rw [hs18]; decide) (by rw [hs18]; decide) (by rw [hs18]; decide) (by decide) ?_
      exact law_c18 X hX hbl hbA hi4 t18 ih _ _ _ _ hI S hl
    by_cases hs19 : v = nI 19
    · refine lv_tableIn (off := 657) (tgt := 689) hx hb dL_law_32 (by rw [hs19]; decide) (by rw [hs19]; decide) (by rw [hs19]; decide) (by decide) ?_
      exact law_c19 X hX hbl hbA hi4 t19 ih _ _ _ _ hI S hl
    by_cases hs20 : v = nI 20
    · refine lv_tableIn (off := 670) (tgt := 702) hx hb dL_law_32 (by rw [hs20]; decide) (by rw [hs20]; decide) (by rw [hs20]; decide) (by decide) ?_
      exact law_c20 X hX hbl hbA hi4 t20 ih _ _ _ _ hI S hl
    by_cases hs21 : v = nI 21
    · refine lv_tableIn (off := 683) (tgt := 715) hx hb dL_law_32 (by rw [hs21]; decide) (by rw [hs21]; decide) (by rw [hs21]; decide) (by decide) ?_
      exact law_c21 X hX hbl hbA hi4 t21 ih _ _ _ _ hI S hl
    by_cases hs22 : v = nI 22
    · refine lv_tableIn (off := 716) (tgt := 748) hx hb dL_law_32 (by rw [hs22]; decide) (by rw [hs22]; decide) (by rw [hs22]; decide) (by decide) ?_
      exact law_c22 X hX hbl hbA hi4 t22 ih _ _ _ _ hI S hl
    by_cases hs23 : v = nI 23
    · refine lv_tableIn (off := 729) (tgt := 761) hx hb dL_law_32 (by rw [hs23]; decide) (by rw [hs23]; decide) (by rw [hs23]; decide) (by decide) ?_
      exact law_c23 X hX hbl hbA hi4 t23 ih _ _ _ _ hI S hl
    by_cases hs24 : v = nI 24
    · refine lv_tableIn (off := 742) (tgt := 774) hx hb dL_law_32 (by rw [hs24]; decide) (by rw [hs24]; decide) (by rw [hs24]; decide) (by decide) ?_
      exact law_c24 X hX hbl hbA hi4 t24 ih _ _ _ _ hI S hl
    by_cases hs25 : v = nI 25
    · refine lv_tableIn (off := 765) (tgt := 797) hx hb dL_law_32 (by rw [hs25]; decide) (by rw [hs25]; decide) (by rw [hs25]; decide) (by decide) ?_
      exact law_c25 X hX hbl hbA hi4 t25 ih _ _ _ _ hI S hl
    by_cases hs26 : v = nI 26
    · refine lv_tableIn (off := 788) (tgt := 820) hx hb dL_law_32 (by rw [hs26]; decide) (by rw [hs26]; decide) (by rw [hs26]; decide) (by decide) ?_
      exact law_c26 X hX hbl hbA hi4 t26 ih _ _ _ _ hI S hl
    refine lv_tableOut (tgt := 843) hx hb dL_law_32 (sw_out (n := 27) (by decide) (lt_s (lt_s (lt_s (lt_s (lt_s (lt_s (lt_s (lt_s (lt_s (lt_s (lt_s (lt_s (lt_s (lt_s (lt_s (lt_s (lt_s (lt_s (lt_s (lt_s (lt_s (lt_s (lt_s (lt_s (lt_s (lt_s (lt_s (lt_0) hs0) hs1) hs2) hs3) hs4) hs5) hs6) hs7) hs8) hs9) hs10) hs11) hs12) hs13) hs14) hs15) hs16) hs17) hs18) hs19) hs20) hs21) hs22) hs23) hs24) hs25) hs26)) (by decide) ?_
    exact law_next X hi4 ih _ _ _ _ hI S hl
end LAW
