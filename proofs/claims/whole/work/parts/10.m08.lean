section M08
variable {p : Program} {l : Launch} {e : Env} {s : State} {m : MethodId} {args : Array Value} {below : List Frame} {meth : Method} {c : Code} {Q : State → Prop} {G : GT} {b : Nat}
/-! RoomRings.fault()I -/
abbrev RM_X8_fault : Room := { frames := 0, cells := 0, slots := 0, locals := 0 }
def f_X8_fault_e  (a0 : Nat) (h : HP) : Option (Int32 × HP) :=
  (gR h a0 8 0).bind fun r1 =>
  (gI h r1 7 1).bind fun v2 =>
  some (v2, h)
set_option maxRecDepth 100000 in
set_option maxHeartbeats 4000000 in
theorem w_X8_fault_e (X : CX RX8 cX8_fault 1 (some .int) p s m args meth c G b) {out : Int32 × HP} (Z : ZI p l e RM_X8_fault s m args below meth c cX8_fault G b False 0 0 Q out)  : ∀ (a0 : Nat) (h : HP), f_X8_fault_e  a0 h = some out → ∀ (H : Heap) (locs : List Loc) (ls : Array Slot), ST G b False s h H locs → lv_has ls 1 [(0, .ref (b + a0))] → W p l e RM_X8_fault s m args below meth c H locs 0 0 Q (F0 m 0 ls []) := by
  intro a0 h hf H locs ls S hl
  unfold f_X8_fault_e at hf
  have hx := X.1
  have hb := X.2.1
  refine lv_aload_n hx hb dX8_fault_0 rfl (lv_at hl 0 rfl) ?_
  obtain ⟨r1, e_r1, hf⟩ := ob hf
  refine r_getR X S fl_X8_10 e_r1 dX8_fault_1 ?_
  obtain ⟨v2, e_v2, hf⟩ := ob hf
  refine r_getI X S fl_X8_94 e_v2 dX8_fault_4 ?_
  obtain rfl := Option.some.inj hf
  exact Z _ _ _ _ dX8_fault_7 S
def f_X8_fault (a0 : Nat) (h : HP) : Option (Int32 × HP) := ck h a0 8 (f_X8_fault_e a0 h)
theorem o_X8_fault {a0 : Nat} {h : HP} {out : Int32 × HP} (hf : f_X8_fault a0 h = some out) : ∃ fs, h[a0]? = some (.inl (8, fs)) := (ck_spec hf).1
set_option maxRecDepth 100000 in
theorem c_X8_fault {l : Launch} {G : GT} {b : Nat} {a0 : Nat} {h : HP} {out : Int32 × HP} (hf : f_X8_fault a0 h = some out) : MT l G b False False yX8_fault cX8_fault 1 (some .int) RM_X8_fault [.ref (b + a0)] h (some (.int out.1)) out.2 0 0 := by
  refine met_of (by decide) (Nat.le_of_ble_eq_true rfl) ?_
  intro p e s m below meth c ls X hnm S hl
  have hl : lv_has ls 1 [(0, .ref (b + a0))] := hl
  replace hf := (ck_spec hf).2
  exact w_X8_fault_e X (z_i X) _ _ hf _ _ _ S hl
/-! RoomRings.dealt()LRoomRings$Dealing; -/
abbrev RM_X8_dealt : Room := { frames := 4, cells := 0, slots := 0, locals := 92 }
def f_X8_dealt_e  (a0 : Nat) (h : HP) : Option (Option Nat × HP) :=
  (gR h a0 8 3).bind fun r1 =>
  (gR h a0 8 1).bind fun r2 =>
  (f_X1_deal r1 r2 h).bind fun h3 =>
  (gR h3 a0 8 3).bind fun r4 =>
  some (some r4, h3)
set_option maxRecDepth 100000 in
set_option maxHeartbeats 4000000 in
theorem w_X8_dealt_e (X : CX RX8 cX8_dealt 1 (some (.object "RoomRings$Dealing")) p s m args meth c G b) {out : Option Nat × HP} (Z : ZR p l e RM_X8_dealt s m args below meth c cX8_dealt G b False 0 0 Q out)  : ∀ (a0 : Nat) (h : HP), f_X8_dealt_e  a0 h = some out → ∀ (H : Heap) (locs : List Loc) (ls : Array Slot), ST G b False s h H locs → lv_has ls 1 [(0, .ref (b + a0))] → W p l e RM_X8_dealt s m args below meth c H locs 0 0 Q (F0 m 0 ls []) := by
  intro a0 h hf H locs ls S hl
  unfold f_X8_dealt_e at hf
  have hx := X.1
  have hb := X.2.1
  refine lv_aload_n hx hb dX8_dealt_0 rfl (lv_at hl 0 rfl) ?_
  obtain ⟨r1, e_r1, hf⟩ := ob hf
  refine r_getR X S fl_X8_29 e_r1 dX8_dealt_1 ?_
  refine lv_aload_n hx hb dX8_dealt_4 rfl (lv_at hl 0 rfl) ?_
  obtain ⟨r2, e_r2, hf⟩ := ob hf
  refine r_getR X S fl_X8_19 e_r2 dX8_dealt_5 ?_
  obtain ⟨h3, e_h3, hf⟩ := ob hf
  refine r_callV X S hl.1 (As := [.ref (b + r2)]) (rest := []) (c_X1_deal e_h3) my_X1_deal mv_X1_deal ml_X8_225 rfl (o_X1_deal e_h3) ⟨rfl, rfl, Nat.le_of_ble_eq_true rfl, Nat.le_of_ble_eq_true rfl⟩ rfl rfl (Nat.le_of_ble_eq_true rfl) dX8_dealt_8 ⟨Nat.le_of_ble_eq_true rfl, Nat.le_of_ble_eq_true rfl⟩ (fun H locs S => ?_)
  refine W.eq (g2 := F0 m 11 ls []) rfl ?_
  refine lv_aload_n hx hb dX8_dealt_11 rfl (lv_at hl 0 rfl) ?_
  obtain ⟨r4, e_r4, hf⟩ := ob hf
  refine r_getR X S fl_X8_29 e_r4 dX8_dealt_12 ?_
  obtain rfl := Option.some.inj hf
  exact Z _ _ _ _ dX8_dealt_15 S
def f_X8_dealt (a0 : Nat) (h : HP) : Option (Option Nat × HP) := ck h a0 8 (f_X8_dealt_e a0 h)
theorem o_X8_dealt {a0 : Nat} {h : HP} {out : Option Nat × HP} (hf : f_X8_dealt a0 h = some out) : ∃ fs, h[a0]? = some (.inl (8, fs)) := (ck_spec hf).1
set_option maxRecDepth 100000 in
theorem c_X8_dealt {l : Launch} {G : GT} {b : Nat} {a0 : Nat} {h : HP} {out : Option Nat × HP} (hf : f_X8_dealt a0 h = some out) : MT l G b False False yX8_dealt cX8_dealt 1 (some (.object "RoomRings$Dealing")) RM_X8_dealt [.ref (b + a0)] h (some (rv b (.inr out.1))) out.2 0 0 := by
  refine met_of (by decide) (Nat.le_of_ble_eq_true rfl) ?_
  intro p e s m below meth c ls X hnm S hl
  have hl : lv_has ls 1 [(0, .ref (b + a0))] := hl
  replace hf := (ck_spec hf).2
  exact w_X8_dealt_e X (z_r X) _ _ hf _ _ _ S hl
/-! RoomRings.weighed()LRoomRings$Bartering; -/
abbrev RM_X8_weighed : Room := { frames := 4, cells := 0, slots := 0, locals := 97 }
def f_X8_weighed_e  (a0 : Nat) (h : HP) : Option (Option Nat × HP) :=
  (gR h a0 8 4).bind fun r1 =>
  (gR h a0 8 1).bind fun r2 =>
  (f_X0_weigh r1 r2 h).bind fun h3 =>
  (gR h3 a0 8 4).bind fun r4 =>
  some (some r4, h3)
set_option maxRecDepth 100000 in
set_option maxHeartbeats 4000000 in
theorem w_X8_weighed_e (X : CX RX8 cX8_weighed 1 (some (.object "RoomRings$Bartering")) p s m args meth c G b) {out : Option Nat × HP} (Z : ZR p l e RM_X8_weighed s m args below meth c cX8_weighed G b False 0 0 Q out)  : ∀ (a0 : Nat) (h : HP), f_X8_weighed_e  a0 h = some out → ∀ (H : Heap) (locs : List Loc) (ls : Array Slot), ST G b False s h H locs → lv_has ls 1 [(0, .ref (b + a0))] → W p l e RM_X8_weighed s m args below meth c H locs 0 0 Q (F0 m 0 ls []) := by
  intro a0 h hf H locs ls S hl
  unfold f_X8_weighed_e at hf
  have hx := X.1
  have hb := X.2.1
  refine lv_aload_n hx hb dX8_weighed_0 rfl (lv_at hl 0 rfl) ?_
  obtain ⟨r1, e_r1, hf⟩ := ob hf
  refine r_getR X S fl_X8_36 e_r1 dX8_weighed_1 ?_
  refine lv_aload_n hx hb dX8_weighed_4 rfl (lv_at hl 0 rfl) ?_
  obtain ⟨r2, e_r2, hf⟩ := ob hf
  refine r_getR X S fl_X8_19 e_r2 dX8_weighed_5 ?_
  obtain ⟨h3, e_h3, hf⟩ := ob hf
  refine r_callV X S hl.1 (As := [.ref (b + r2)]) (rest := []) (c_X0_weigh e_h3) my_X0_weigh mv_X0_weigh ml_X8_282 rfl (o_X0_weigh e_h3) ⟨rfl, rfl, Nat.le_of_ble_eq_true rfl, Nat.le_of_ble_eq_true rfl⟩ rfl rfl (Nat.le_of_ble_eq_true rfl) dX8_weighed_8 ⟨Nat.le_of_ble_eq_true rfl, Nat.le_of_ble_eq_true rfl⟩ (fun H locs S => ?_)
  refine W.eq (g2 := F0 m 11 ls []) rfl ?_
  refine lv_aload_n hx hb dX8_weighed_11 rfl (lv_at hl 0 rfl) ?_
  obtain ⟨r4, e_r4, hf⟩ := ob hf
  refine r_getR X S fl_X8_36 e_r4 dX8_weighed_12 ?_
  obtain rfl := Option.some.inj hf
  exact Z _ _ _ _ dX8_weighed_15 S
def f_X8_weighed (a0 : Nat) (h : HP) : Option (Option Nat × HP) := ck h a0 8 (f_X8_weighed_e a0 h)
theorem o_X8_weighed {a0 : Nat} {h : HP} {out : Option Nat × HP} (hf : f_X8_weighed a0 h = some out) : ∃ fs, h[a0]? = some (.inl (8, fs)) := (ck_spec hf).1
set_option maxRecDepth 100000 in
theorem c_X8_weighed {l : Launch} {G : GT} {b : Nat} {a0 : Nat} {h : HP} {out : Option Nat × HP} (hf : f_X8_weighed a0 h = some out) : MT l G b False False yX8_weighed cX8_weighed 1 (some (.object "RoomRings$Bartering")) RM_X8_weighed [.ref (b + a0)] h (some (rv b (.inr out.1))) out.2 0 0 := by
  refine met_of (by decide) (Nat.le_of_ble_eq_true rfl) ?_
  intro p e s m below meth c ls X hnm S hl
  have hl : lv_has ls 1 [(0, .ref (b + a0))] := hl
  replace hf := (ck_spec hf).2
  exact w_X8_weighed_e X (z_r X) _ _ hf _ _ _ S hl
/-! RoomRings.told(I)I -/
abbrev RM_X8_told : Room := { frames := 5, cells := 0, slots := 0, locals := 117 }
def f_X8_told_e  (a0 : Nat) (x1 : Int32) (h : HP) : Option (Int32 × HP) :=
  if x1 = nI 0 then
    (gR h a0 8 1).bind fun r1 =>
    (gI h r1 3 0).bind fun v2 =>
    some (v2, h)
  else
    if x1 = nI 1 then
      (gR h a0 8 1).bind fun r3 =>
      (gI h r3 3 1).bind fun v4 =>
      some (v4, h)
    else
      if x1 = nI 2 then
        (gR h a0 8 0).bind fun r5 =>
        (gI h r5 7 0).bind fun v6 =>
        some (v6, h)
      else
        if x1 = nI 3 then
          (f_X8_dealt a0 h).bind fun q7 => om q7.1 (
            none) fun r8 =>
            (gI q7.2 r8 1 0).bind fun v9 =>
            some (v9, q7.2)
        else
          if x1 = nI 4 then
            (f_X8_dealt a0 h).bind fun q10 => om q10.1 (
              none) fun r11 =>
              (gR q10.2 a0 8 1).bind fun r12 =>
              (f_X1_emptyHanded r11 r12 q10.2).bind fun q13 =>
              some (q13.1, q13.2)
          else
            if x1 = nI 5 then
              (f_X8_dealt a0 h).bind fun q14 => om q14.1 (
                none) fun r15 =>
                (gI q14.2 r15 1 1).bind fun v16 =>
                some (v16, q14.2)
            else
              if x1 = nI 6 then
                (gR h a0 8 1).bind fun r17 =>
                (f_X3_emptyRooms r17 h).bind fun q18 =>
                some (q18.1, q18.2)
              else
                if x1 = nI 7 then
                  (f_X8_weighed a0 h).bind fun q19 => om q19.1 (
                    none) fun r20 =>
                    (gI q19.2 r20 0 0).bind fun v21 =>
                    some (v21, q19.2)
                else
                  if x1 = nI 8 then
                    (f_X8_weighed a0 h).bind fun q22 => om q22.1 (
                      none) fun r23 =>
                      (gI q22.2 r23 0 1).bind fun v24 =>
                      some (v24, q22.2)
                  else
                    if x1 = nI 9 then
                      (gR h a0 8 6).bind fun r25 =>
                      (gI h r25 5 0).bind fun v26 =>
                      some (v26, h)
                    else
                      if x1 = nI 10 then
                        (gR h a0 8 6).bind fun r27 =>
                        (gI h r27 5 1).bind fun v28 =>
                        some (v28, h)
                      else
                        if x1 = nI 11 then
                          (gR h a0 8 5).bind fun r29 =>
                          (gI h r29 6 0).bind fun v30 =>
                          some (v30, h)
                        else
                          some ((-1000000002), h)
set_option maxRecDepth 100000 in
set_option maxHeartbeats 4000000 in
theorem w_X8_told_e (X : CX RX8 cX8_told 2 (some .int) p s m args meth c G b) {out : Int32 × HP} (Z : ZI p l e RM_X8_told s m args below meth c cX8_told G b False 0 0 Q out)  : ∀ (a0 : Nat) (x1 : Int32) (h : HP), f_X8_told_e  a0 x1 h = some out → ∀ (H : Heap) (locs : List Loc) (ls : Array Slot), ST G b False s h H locs → lv_has ls 2 [(0, .ref (b + a0)), (1, .int x1)] → W p l e RM_X8_told s m args below meth c H locs 0 0 Q (F0 m 0 ls []) := by
  intro a0 x1 h hf H locs ls S hl
  unfold f_X8_told_e at hf
  have hx := X.1
  have hb := X.2.1
  refine lv_iload_n hx hb dX8_told_0 rfl (lv_at hl 1 rfl) ?_
  by_cases hs1_0 : x1 = nI 0
  · replace hf := ip hf hs1_0
    refine lv_tableIn (off := 63) (tgt := 64) hx hb dX8_told_1 (by rw [hs1_0]; decide) (by rw [hs1_0]; decide) (by rw [hs1_0]; decide) (by decide) ?_
    refine lv_aload_n hx hb dX8_told_64 rfl (lv_at hl 0 rfl) ?_
    obtain ⟨r1, e_r1, hf⟩ := ob hf
    refine r_getR X S fl_X8_19 e_r1 dX8_told_65 ?_
    obtain ⟨v2, e_v2, hf⟩ := ob hf
    refine r_getI X S fl_X8_97 e_v2 dX8_told_68 ?_
    obtain rfl := Option.some.inj hf
    exact Z _ _ _ _ dX8_told_71 S
  · replace hf := im hf hs1_0
    by_cases hs1_1 : x1 = nI 1
    · replace hf := ip hf hs1_1
      refine lv_tableIn (off := 71) (tgt := 72) hx hb dX8_told_1 (by rw [hs1_1]; decide) (by rw [hs1_1]; decide) (by rw [hs1_1]; decide) (by decide) ?_
      refine lv_aload_n hx hb dX8_told_72 rfl (lv_at hl 0 rfl) ?_
      obtain ⟨r3, e_r3, hf⟩ := ob hf
      refine r_getR X S fl_X8_19 e_r3 dX8_told_73 ?_
      obtain ⟨v4, e_v4, hf⟩ := ob hf
      refine r_getI X S fl_X8_90 e_v4 dX8_told_76 ?_
      obtain rfl := Option.some.inj hf
      exact Z _ _ _ _ dX8_told_79 S
    · replace hf := im hf hs1_1
      by_cases hs1_2 : x1 = nI 2
      · replace hf := ip hf hs1_2
        refine lv_tableIn (off := 79) (tgt := 80) hx hb dX8_told_1 (by rw [hs1_2]; decide) (by rw [hs1_2]; decide) (by rw [hs1_2]; decide) (by decide) ?_
        refine lv_aload_n hx hb dX8_told_80 rfl (lv_at hl 0 rfl) ?_
        obtain ⟨r5, e_r5, hf⟩ := ob hf
        refine r_getR X S fl_X8_10 e_r5 dX8_told_81 ?_
        obtain ⟨v6, e_v6, hf⟩ := ob hf
        refine r_getI X S fl_X8_100 e_v6 dX8_told_84 ?_
        obtain rfl := Option.some.inj hf
        exact Z _ _ _ _ dX8_told_87 S
      · replace hf := im hf hs1_2
        by_cases hs1_3 : x1 = nI 3
        · replace hf := ip hf hs1_3
          refine lv_tableIn (off := 87) (tgt := 88) hx hb dX8_told_1 (by rw [hs1_3]; decide) (by rw [hs1_3]; decide) (by rw [hs1_3]; decide) (by decide) ?_
          refine lv_aload_n hx hb dX8_told_88 rfl (lv_at hl 0 rfl) ?_
          obtain ⟨⟨q7o, q7h⟩, e_q7, hf⟩ := ob hf
          cases q7o with
          | none => exact nn (om_n hf)
          | some r8 =>
            replace hf := om_s hf
            refine r_callV X S hl.1 (As := []) (rest := []) (c_X8_dealt e_q7) my_X8_dealt mv_X8_dealt ml_X8_103 rfl (o_X8_dealt e_q7) ⟨rfl, rfl, Nat.le_of_ble_eq_true rfl, Nat.le_of_ble_eq_true rfl⟩ rfl rfl (Nat.le_of_ble_eq_true rfl) dX8_told_89 ⟨Nat.le_of_ble_eq_true rfl, Nat.le_of_ble_eq_true rfl⟩ (fun H locs S => ?_)
            refine W.eq (g2 := F0 m 92 ls [.ref (b + r8)]) rfl ?_
            obtain ⟨v9, e_v9, hf⟩ := ob hf
            refine r_getI X S fl_X8_107 e_v9 dX8_told_92 ?_
            obtain rfl := Option.some.inj hf
            exact Z _ _ _ _ dX8_told_95 S
        · replace hf := im hf hs1_3
          by_cases hs1_4 : x1 = nI 4
          · replace hf := ip hf hs1_4
            refine lv_tableIn (off := 95) (tgt := 96) hx hb dX8_told_1 (by rw [hs1_4]; decide) (by rw [hs1_4]; decide) (by rw [hs1_4]; decide) (by decide) ?_
            refine lv_aload_n hx hb dX8_told_96 rfl (lv_at hl 0 rfl) ?_
            obtain ⟨⟨q10o, q10h⟩, e_q10, hf⟩ := ob hf
            cases q10o with
            | none => exact nn (om_n hf)
            | some r11 =>
              replace hf := om_s hf
              refine r_callV X S hl.1 (As := []) (rest := []) (c_X8_dealt e_q10) my_X8_dealt mv_X8_dealt ml_X8_103 rfl (o_X8_dealt e_q10) ⟨rfl, rfl, Nat.le_of_ble_eq_true rfl, Nat.le_of_ble_eq_true rfl⟩ rfl rfl (Nat.le_of_ble_eq_true rfl) dX8_told_97 ⟨Nat.le_of_ble_eq_true rfl, Nat.le_of_ble_eq_true rfl⟩ (fun H locs S => ?_)
              refine W.eq (g2 := F0 m 100 ls [.ref (b + r11)]) rfl ?_
              refine lv_aload_n hx hb dX8_told_100 rfl (lv_at hl 0 rfl) ?_
              obtain ⟨r12, e_r12, hf⟩ := ob hf
              refine r_getR X S fl_X8_19 e_r12 dX8_told_101 ?_
              obtain ⟨q13, e_q13, hf⟩ := ob hf
              refine r_callV X S hl.1 (As := [.ref (b + r12)]) (rest := []) (c_X1_emptyHanded e_q13) my_X1_emptyHanded mv_X1_emptyHanded ml_X8_110 rfl (o_X1_emptyHanded e_q13) ⟨rfl, rfl, Nat.le_of_ble_eq_true rfl, Nat.le_of_ble_eq_true rfl⟩ rfl rfl (Nat.le_of_ble_eq_true rfl) dX8_told_104 ⟨Nat.le_of_ble_eq_true rfl, Nat.le_of_ble_eq_true rfl⟩ (fun H locs S => ?_)
              refine W.eq (g2 := F0 m 107 ls [.int q13.1]) rfl ?_
              obtain rfl := Option.some.inj hf
              exact Z _ _ _ _ dX8_told_107 S
          · replace hf := im hf hs1_4
            by_cases hs1_5 : x1 = nI 5
            · replace hf := ip hf hs1_5
              refine lv_tableIn (off := 107) (tgt := 108) hx hb dX8_told_1 (by rw [hs1_5]; decide) (by rw [hs1_5]; decide) (by rw [hs1_5]; decide) (by decide) ?_
              refine lv_aload_n hx hb dX8_told_108 rfl (lv_at hl 0 rfl) ?_
              obtain ⟨⟨q14o, q14h⟩, e_q14, hf⟩ := ob hf
              cases q14o with
              | none => exact nn (om_n hf)
              | some r15 =>
                replace hf := om_s hf
                refine r_callV X S hl.1 (As := []) (rest := []) (c_X8_dealt e_q14) my_X8_dealt mv_X8_dealt ml_X8_103 rfl (o_X8_dealt e_q14) ⟨rfl, rfl, Nat.le_of_ble_eq_true rfl, Nat.le_of_ble_eq_true rfl⟩ rfl rfl (Nat.le_of_ble_eq_true rfl) dX8_told_109 ⟨Nat.le_of_ble_eq_true rfl, Nat.le_of_ble_eq_true rfl⟩ (fun H locs S => ?_)
                refine W.eq (g2 := F0 m 112 ls [.ref (b + r15)]) rfl ?_
                obtain ⟨v16, e_v16, hf⟩ := ob hf
                refine r_getI X S fl_X8_113 e_v16 dX8_told_112 ?_
                obtain rfl := Option.some.inj hf
                exact Z _ _ _ _ dX8_told_115 S
            · replace hf := im hf hs1_5
              by_cases hs1_6 : x1 = nI 6
              · replace hf := ip hf hs1_6
                refine lv_tableIn (off := 115) (tgt := 116) hx hb dX8_told_1 (by rw [hs1_6]; decide) (by rw [hs1_6]; decide) (by rw [hs1_6]; decide) (by decide) ?_
                refine lv_aload_n hx hb dX8_told_116 rfl (lv_at hl 0 rfl) ?_
                obtain ⟨r17, e_r17, hf⟩ := ob hf
                refine r_getR X S fl_X8_19 e_r17 dX8_told_117 ?_
                obtain ⟨q18, e_q18, hf⟩ := ob hf
                refine r_callV X S hl.1 (As := []) (rest := []) (c_X3_emptyRooms e_q18) my_X3_emptyRooms mv_X3_emptyRooms ml_X8_116 rfl (o_X3_emptyRooms e_q18) ⟨rfl, rfl, Nat.le_of_ble_eq_true rfl, Nat.le_of_ble_eq_true rfl⟩ rfl rfl (Nat.le_of_ble_eq_true rfl) dX8_told_120 ⟨Nat.le_of_ble_eq_true rfl, Nat.le_of_ble_eq_true rfl⟩ (fun H locs S => ?_)
                refine W.eq (g2 := F0 m 123 ls [.int q18.1]) rfl ?_
                obtain rfl := Option.some.inj hf
                exact Z _ _ _ _ dX8_told_123 S
              · replace hf := im hf hs1_6
                by_cases hs1_7 : x1 = nI 7
                · replace hf := ip hf hs1_7
                  refine lv_tableIn (off := 123) (tgt := 124) hx hb dX8_told_1 (by rw [hs1_7]; decide) (by rw [hs1_7]; decide) (by rw [hs1_7]; decide) (by decide) ?_
                  refine lv_aload_n hx hb dX8_told_124 rfl (lv_at hl 0 rfl) ?_
                  obtain ⟨⟨q19o, q19h⟩, e_q19, hf⟩ := ob hf
                  cases q19o with
                  | none => exact nn (om_n hf)
                  | some r20 =>
                    replace hf := om_s hf
                    refine r_callV X S hl.1 (As := []) (rest := []) (c_X8_weighed e_q19) my_X8_weighed mv_X8_weighed ml_X8_120 rfl (o_X8_weighed e_q19) ⟨rfl, rfl, Nat.le_of_ble_eq_true rfl, Nat.le_of_ble_eq_true rfl⟩ rfl rfl (Nat.le_of_ble_eq_true rfl) dX8_told_125 ⟨Nat.le_of_ble_eq_true rfl, Nat.le_of_ble_eq_true rfl⟩ (fun H locs S => ?_)
                    refine W.eq (g2 := F0 m 128 ls [.ref (b + r20)]) rfl ?_
                    obtain ⟨v21, e_v21, hf⟩ := ob hf
                    refine r_getI X S fl_X8_124 e_v21 dX8_told_128 ?_
                    obtain rfl := Option.some.inj hf
                    exact Z _ _ _ _ dX8_told_131 S
                · replace hf := im hf hs1_7
                  by_cases hs1_8 : x1 = nI 8
                  · replace hf := ip hf hs1_8
                    refine lv_tableIn (off := 131) (tgt := 132) hx hb dX8_told_1 (by rw [hs1_8]; decide) (by rw [hs1_8]; decide) (by rw [hs1_8]; decide) (by decide) ?_
                    refine lv_aload_n hx hb dX8_told_132 rfl (lv_at hl 0 rfl) ?_
                    obtain ⟨⟨q22o, q22h⟩, e_q22, hf⟩ := ob hf
                    cases q22o with
                    | none => exact nn (om_n hf)
                    | some r23 =>
                      replace hf := om_s hf
                      refine r_callV X S hl.1 (As := []) (rest := []) (c_X8_weighed e_q22) my_X8_weighed mv_X8_weighed ml_X8_120 rfl (o_X8_weighed e_q22) ⟨rfl, rfl, Nat.le_of_ble_eq_true rfl, Nat.le_of_ble_eq_true rfl⟩ rfl rfl (Nat.le_of_ble_eq_true rfl) dX8_told_133 ⟨Nat.le_of_ble_eq_true rfl, Nat.le_of_ble_eq_true rfl⟩ (fun H locs S => ?_)
                      refine W.eq (g2 := F0 m 136 ls [.ref (b + r23)]) rfl ?_
                      obtain ⟨v24, e_v24, hf⟩ := ob hf
                      refine r_getI X S fl_X8_127 e_v24 dX8_told_136 ?_
                      obtain rfl := Option.some.inj hf
                      exact Z _ _ _ _ dX8_told_139 S
                  · replace hf := im hf hs1_8
                    by_cases hs1_9 : x1 = nI 9
                    · replace hf := ip hf hs1_9
                      refine lv_tableIn (off := 139) (tgt := 140) hx hb dX8_told_1 (by rw [hs1_9]; decide) (by rw [hs1_9]; decide) (by rw [hs1_9]; decide) (by decide) ?_
                      refine lv_aload_n hx hb dX8_told_140 rfl (lv_at hl 0 rfl) ?_
                      obtain ⟨r25, e_r25, hf⟩ := ob hf
                      refine r_getR X S fl_X8_50 e_r25 dX8_told_141 ?_
                      obtain ⟨v26, e_v26, hf⟩ := ob hf
                      refine r_getI X S fl_X8_130 e_v26 dX8_told_144 ?_
                      obtain rfl := Option.some.inj hf
                      exact Z _ _ _ _ dX8_told_147 S
                    · replace hf := im hf hs1_9
                      by_cases hs1_10 : x1 = nI 10
                      · replace hf := ip hf hs1_10
                        refine lv_tableIn (off := 147) (tgt := 148) hx hb dX8_told_1 (by rw [hs1_10]; decide) (by rw [hs1_10]; decide) (by rw [hs1_10]; decide) (by decide) ?_
                        refine lv_aload_n hx hb dX8_told_148 rfl (lv_at hl 0 rfl) ?_
                        obtain ⟨r27, e_r27, hf⟩ := ob hf
                        refine r_getR X S fl_X8_50 e_r27 dX8_told_149 ?_
                        obtain ⟨v28, e_v28, hf⟩ := ob hf
                        refine r_getI X S fl_X8_133 e_v28 dX8_told_152 ?_
                        obtain rfl := Option.some.inj hf
                        exact Z _ _ _ _ dX8_told_155 S
                      · replace hf := im hf hs1_10
                        by_cases hs1_11 : x1 = nI 11
                        · replace hf := ip hf hs1_11
                          refine lv_tableIn (off := 155) (tgt := 156) hx hb dX8_told_1 (by rw [hs1_11]; decide) (by rw [hs1_11]; decide) (by rw [hs1_11]; decide) (by decide) ?_
                          refine lv_aload_n hx hb dX8_told_156 rfl (lv_at hl 0 rfl) ?_
                          obtain ⟨r29, e_r29, hf⟩ := ob hf
                          refine r_getR X S fl_X8_43 e_r29 dX8_told_157 ?_
                          obtain ⟨v30, e_v30, hf⟩ := ob hf
                          refine r_getI X S fl_X8_136 e_v30 dX8_told_160 ?_
                          obtain rfl := Option.some.inj hf
                          exact Z _ _ _ _ dX8_told_163 S
                        · replace hf := im hf hs1_11
                          refine lv_tableOut (tgt := 164) hx hb dX8_told_1 (sw_out (n := 12) (by decide) (lt_s (lt_s (lt_s (lt_s (lt_s (lt_s (lt_s (lt_s (lt_s (lt_s (lt_s (lt_s (lt_0) hs1_0) hs1_1) hs1_2) hs1_3) hs1_4) hs1_5) hs1_6) hs1_7) hs1_8) hs1_9) hs1_10) hs1_11)) (by decide) ?_
                          refine lv_ldc (v := (-1000000002)) hx hb X.2.2.2.1 (X.2.2.2.2.1 _ cn_X8_68) dX8_told_164 ?_
                          obtain rfl := Option.some.inj hf
                          exact Z _ _ _ _ dX8_told_166 S
def f_X8_told (a0 : Nat) (x1 : Int32) (h : HP) : Option (Int32 × HP) := ck h a0 8 (f_X8_told_e a0 x1 h)
theorem o_X8_told {a0 : Nat} {x1 : Int32} {h : HP} {out : Int32 × HP} (hf : f_X8_told a0 x1 h = some out) : ∃ fs, h[a0]? = some (.inl (8, fs)) := (ck_spec hf).1
set_option maxRecDepth 100000 in
theorem c_X8_told {l : Launch} {G : GT} {b : Nat} {a0 : Nat} {x1 : Int32} {h : HP} {out : Int32 × HP} (hf : f_X8_told a0 x1 h = some out) : MT l G b False False yX8_told cX8_told 2 (some .int) RM_X8_told [.ref (b + a0), .int x1] h (some (.int out.1)) out.2 0 0 := by
  refine met_of (by decide) (Nat.le_of_ble_eq_true rfl) ?_
  intro p e s m below meth c ls X hnm S hl
  have hl : lv_has ls 2 [(0, .ref (b + a0)), (1, .int x1)] := hl
  replace hf := (ck_spec hf).2
  exact w_X8_told_e X (z_i X) _ _ _ hf _ _ _ S hl
/-! RoomRings.chosenByLot(I)I -/
abbrev RM_X8_chosenByLot : Room := { frames := 2, cells := 0, slots := 0, locals := 47 }
def f_X8_chosenByLot_b25 (K25 : Nat → Int32 → Int32 → Int32 → Int32 → HP → Option (Int32 × HP)) (a0 : Nat) (x1 : Int32) (x2 : Int32) (x3 : Int32) (x4 : Int32) (h : HP) : Option (Int32 × HP) :=
  (gR h a0 8 1).bind fun r1 =>
  (gI h r1 3 1).bind fun v2 =>
  if v2 ≤ x4 then
    some ((-1), h)
  else
    (gR h a0 8 1).bind fun r3 =>
    (gR h r3 3 5).bind fun r4 =>
    (f_X8_at r4 x4 h).bind fun q5 =>
    (f_X8_without x3 q5.1 q5.2).bind fun q6 =>
    (gR q6.2 a0 8 1).bind fun r7 =>
    (gR q6.2 a0 8 1).bind fun r8 =>
    (f_X3_seatsOf r8 q6.1 q6.2).bind fun q9 =>
    (f_X3_best r7 q5.1 (x2 &&& (q9.1 ^^^ (-1))) q9.2).bind fun q10 =>
    if q5.1 = x1 then
      some (q10.1, q10.2)
    else
      (f_X8_without x2 q10.1 q10.2).bind fun q11 =>
      K25 a0 x1 q11.1 q6.1 (x4 + 1) q11.2
set_option maxRecDepth 100000 in
set_option maxHeartbeats 4000000 in
theorem w_X8_chosenByLot_b25 (X : CX RX8 cX8_chosenByLot 7 (some .int) p s m args meth c G b) {out : Int32 × HP} (Z : ZI p l e RM_X8_chosenByLot s m args below meth c cX8_chosenByLot G b False 0 0 Q out) {K25 : Nat → Int32 → Int32 → Int32 → Int32 → HP → Option (Int32 × HP)} (hK25 : ∀ (a0 : Nat) (x1 : Int32) (x2 : Int32) (x3 : Int32) (x4 : Int32) (h : HP), K25 a0 x1 x2 x3 x4 h = some out → ∀ (H : Heap) (locs : List Loc) (ls : Array Slot), ST G b False s h H locs → lv_has ls 7 [(0, .ref (b + a0)), (1, .int x1), (2, .int x2), (3, .int x3), (4, .int x4)] → W p l e RM_X8_chosenByLot s m args below meth c H locs 0 0 Q (F0 m 25 ls [])) : ∀ (a0 : Nat) (x1 : Int32) (x2 : Int32) (x3 : Int32) (x4 : Int32) (h : HP), f_X8_chosenByLot_b25 K25 a0 x1 x2 x3 x4 h = some out → ∀ (H : Heap) (locs : List Loc) (ls : Array Slot), ST G b False s h H locs → lv_has ls 7 [(0, .ref (b + a0)), (1, .int x1), (2, .int x2), (3, .int x3), (4, .int x4)] → W p l e RM_X8_chosenByLot s m args below meth c H locs 0 0 Q (F0 m 25 ls []) := by
  intro a0 x1 x2 x3 x4 h hf H locs ls S hl
  unfold f_X8_chosenByLot_b25 at hf
  have hx := X.1
  have hb := X.2.1
  refine lv_iload hx hb dX8_chosenByLot_25 (lv_at hl 4 rfl) ?_
  refine lv_aload_n hx hb dX8_chosenByLot_27 rfl (lv_at hl 0 rfl) ?_
  obtain ⟨r1, e_r1, hf⟩ := ob hf
  refine r_getR X S fl_X8_19 e_r1 dX8_chosenByLot_28 ?_
  obtain ⟨v2, e_v2, hf⟩ := ob hf
  refine r_getI X S fl_X8_90 e_v2 dX8_chosenByLot_31 ?_
  refine lv_icmp_ge (tgt := 103) hx hb dX8_chosenByLot_34 (by decide) (fun hc => ?_) (fun hc => ?_)
  · replace hf := ip hf hc
    refine lv_iconst (v := (-1)) hx hb dX8_chosenByLot_103 (by decide) ?_
    obtain rfl := Option.some.inj hf
    exact Z _ _ _ _ dX8_chosenByLot_104 S
  · replace hf := im hf hc
    refine lv_aload_n hx hb dX8_chosenByLot_37 rfl (lv_at hl 0 rfl) ?_
    obtain ⟨r3, e_r3, hf⟩ := ob hf
    refine r_getR X S fl_X8_19 e_r3 dX8_chosenByLot_38 ?_
    obtain ⟨r4, e_r4, hf⟩ := ob hf
    refine r_getR X S fl_X8_291 e_r4 dX8_chosenByLot_41 ?_
    refine lv_iload hx hb dX8_chosenByLot_44 (lv_at hl 4 rfl) ?_
    obtain ⟨q5, e_q5, hf⟩ := ob hf
    refine r_callS X S hl.1 (As := [.ref (b + r4), .int x4]) (rest := []) (c_X8_at e_q5) my_X8_at ms_X8_at ml_X8_295 ⟨rfl, rfl, Nat.le_of_ble_eq_true rfl, Nat.le_of_ble_eq_true rfl⟩ rfl rfl (Nat.le_of_ble_eq_true rfl) dX8_chosenByLot_46 ⟨Nat.le_of_ble_eq_true rfl, Nat.le_of_ble_eq_true rfl⟩ (fun H locs S => ?_)
    refine W.eq (g2 := F0 m 49 ls [.int q5.1]) rfl ?_
    refine lv_istore (lv' := [(5, .int q5.1), (0, .ref (b + a0)), (1, .int x1), (2, .int x2), (3, .int x3), (4, .int x4)]) hx hb dX8_chosenByLot_49 hl (by decide) rfl (fun ls hl => ?_)
    refine lv_iload_n hx hb dX8_chosenByLot_51 rfl (lv_at hl 4 rfl) ?_
    refine lv_iload hx hb dX8_chosenByLot_52 (lv_at hl 0 rfl) ?_
    obtain ⟨q6, e_q6, hf⟩ := ob hf
    refine r_callS X S hl.1 (As := [.int x3, .int q5.1]) (rest := []) (c_X8_without e_q6) my_X8_without ms_X8_without ml_X8_299 ⟨rfl, rfl, Nat.le_of_ble_eq_true rfl, Nat.le_of_ble_eq_true rfl⟩ rfl rfl (Nat.le_of_ble_eq_true rfl) dX8_chosenByLot_54 ⟨Nat.le_of_ble_eq_true rfl, Nat.le_of_ble_eq_true rfl⟩ (fun H locs S => ?_)
    refine W.eq (g2 := F0 m 57 ls [.int q6.1]) rfl ?_
    refine lv_istore_n (lv' := [(3, .int q6.1), (5, .int q5.1), (0, .ref (b + a0)), (1, .int x1), (2, .int x2), (4, .int x4)]) hx hb dX8_chosenByLot_57 rfl hl (by decide) rfl (fun ls hl => ?_)
    refine lv_aload_n hx hb dX8_chosenByLot_58 rfl (lv_at hl 2 rfl) ?_
    obtain ⟨r7, e_r7, hf⟩ := ob hf
    refine r_getR X S fl_X8_19 e_r7 dX8_chosenByLot_59 ?_
    refine lv_iload hx hb dX8_chosenByLot_62 (lv_at hl 1 rfl) ?_
    refine lv_iload_n hx hb dX8_chosenByLot_64 rfl (lv_at hl 4 rfl) ?_
    refine lv_aload_n hx hb dX8_chosenByLot_65 rfl (lv_at hl 2 rfl) ?_
    obtain ⟨r8, e_r8, hf⟩ := ob hf
    refine r_getR X S fl_X8_19 e_r8 dX8_chosenByLot_66 ?_
    refine lv_iload_n hx hb dX8_chosenByLot_69 rfl (lv_at hl 0 rfl) ?_
    obtain ⟨q9, e_q9, hf⟩ := ob hf
    refine r_callV X S hl.1 (As := [.int q6.1]) (rest := [.int x2, .int q5.1, .ref (b + r7)]) (c_X3_seatsOf e_q9) my_X3_seatsOf mv_X3_seatsOf ml_X8_302 rfl (o_X3_seatsOf e_q9) ⟨rfl, rfl, Nat.le_of_ble_eq_true rfl, Nat.le_of_ble_eq_true rfl⟩ rfl rfl (Nat.le_of_ble_eq_true rfl) dX8_chosenByLot_70 ⟨Nat.le_of_ble_eq_true rfl, Nat.le_of_ble_eq_true rfl⟩ (fun H locs S => ?_)
    refine W.eq (g2 := F0 m 73 ls [.int q9.1, .int x2, .int q5.1, .ref (b + r7)]) rfl ?_
    refine lv_iconst (v := (-1)) hx hb dX8_chosenByLot_73 (by decide) ?_
    refine lv_ixor hx hb dX8_chosenByLot_74 ?_
    refine lv_iand hx hb dX8_chosenByLot_75 ?_
    obtain ⟨q10, e_q10, hf⟩ := ob hf
    refine r_callV X S hl.1 (As := [.int q5.1, .int (x2 &&& (q9.1 ^^^ (-1)))]) (rest := []) (c_X3_best e_q10) my_X3_best mv_X3_best ml_X8_305 rfl (o_X3_best e_q10) ⟨rfl, rfl, Nat.le_of_ble_eq_true rfl, Nat.le_of_ble_eq_true rfl⟩ rfl rfl (Nat.le_of_ble_eq_true rfl) dX8_chosenByLot_76 ⟨Nat.le_of_ble_eq_true rfl, Nat.le_of_ble_eq_true rfl⟩ (fun H locs S => ?_)
    refine W.eq (g2 := F0 m 79 ls [.int q10.1]) rfl ?_
    refine lv_istore (lv' := [(6, .int q10.1), (3, .int q6.1), (5, .int q5.1), (0, .ref (b + a0)), (1, .int x1), (2, .int x2), (4, .int x4)]) hx hb dX8_chosenByLot_79 hl (by decide) rfl (fun ls hl => ?_)
    refine lv_iload hx hb dX8_chosenByLot_81 (lv_at hl 2 rfl) ?_
    refine lv_iload_n hx hb dX8_chosenByLot_83 rfl (lv_at hl 4 rfl) ?_
    refine lv_icmp_ne (tgt := 90) hx hb dX8_chosenByLot_84 (by decide) (fun hc => ?_) (fun hc => ?_)
    · replace hf := im hf hc
      refine lv_iload_n hx hb dX8_chosenByLot_90 rfl (lv_at hl 5 rfl) ?_
      refine lv_iload hx hb dX8_chosenByLot_91 (lv_at hl 0 rfl) ?_
      obtain ⟨q11, e_q11, hf⟩ := ob hf
      refine r_callS X S hl.1 (As := [.int x2, .int q10.1]) (rest := []) (c_X8_without e_q11) my_X8_without ms_X8_without ml_X8_299 ⟨rfl, rfl, Nat.le_of_ble_eq_true rfl, Nat.le_of_ble_eq_true rfl⟩ rfl rfl (Nat.le_of_ble_eq_true rfl) dX8_chosenByLot_93 ⟨Nat.le_of_ble_eq_true rfl, Nat.le_of_ble_eq_true rfl⟩ (fun H locs S => ?_)
      refine W.eq (g2 := F0 m 96 ls [.int q11.1]) rfl ?_
      refine lv_istore_n (lv' := [(2, .int q11.1), (6, .int q10.1), (3, .int q6.1), (5, .int q5.1), (0, .ref (b + a0)), (1, .int x1), (4, .int x4)]) hx hb dX8_chosenByLot_96 rfl hl (by decide) rfl (fun ls hl => ?_)
      refine lv_iinc (v := x4 + 1) (lv' := [(4, .int (x4 + 1)), (2, .int q11.1), (6, .int q10.1), (3, .int q6.1), (5, .int q5.1), (0, .ref (b + a0)), (1, .int x1)]) hx hb dX8_chosenByLot_97 hl (k := 6) rfl rfl (by decide) rfl (fun ls hl => ?_)
      refine lv_goto (tgt := 25) hx hb dX8_chosenByLot_100 (by decide) ?_
      exact hK25 _ _ _ _ _ _ hf _ _ _ S (lv_sub hl [5, 6, 1, 3, 0] rfl)
    · replace hf := ip hf hc
      refine lv_iload hx hb dX8_chosenByLot_87 (lv_at hl 0 rfl) ?_
      obtain rfl := Option.some.inj hf
      exact Z _ _ _ _ dX8_chosenByLot_89 S
def F_X8_chosenByLot_25  : Nat → Nat → Int32 → Int32 → Int32 → Int32 → HP → Option (Int32 × HP)
  | 0 => fun _ _ _ _ _ _ => none
  | n + 1 => fun a0 x1 x2 x3 x4 h => f_X8_chosenByLot_b25 (F_X8_chosenByLot_25  n) a0 x1 x2 x3 x4 h
theorem wl_X8_chosenByLot_25 (X : CX RX8 cX8_chosenByLot 7 (some .int) p s m args meth c G b) {out : Int32 × HP} (Z : ZI p l e RM_X8_chosenByLot s m args below meth c cX8_chosenByLot G b False 0 0 Q out)  : ∀ (n : Nat) (a0 : Nat) (x1 : Int32) (x2 : Int32) (x3 : Int32) (x4 : Int32) (h : HP), F_X8_chosenByLot_25  n a0 x1 x2 x3 x4 h = some out → ∀ (H : Heap) (locs : List Loc) (ls : Array Slot), ST G b False s h H locs → lv_has ls 7 [(0, .ref (b + a0)), (1, .int x1), (2, .int x2), (3, .int x3), (4, .int x4)] → W p l e RM_X8_chosenByLot s m args below meth c H locs 0 0 Q (F0 m 25 ls []) := by
  intro n
  induction n with
  | zero => intro a0 x1 x2 x3 x4 h hf; exact nn hf
  | succ n ih => exact w_X8_chosenByLot_b25 X Z ih
def f_X8_chosenByLot_e  (a0 : Nat) (x1 : Int32) (h : HP) : Option (Int32 × HP) :=
  (gR h a0 8 1).bind fun r1 =>
  (gI h r1 3 0).bind fun v2 =>
  (f_X8_firstOnes v2 h).bind fun q3 =>
  (gR q3.2 a0 8 1).bind fun r4 =>
  (gI q3.2 r4 3 1).bind fun v5 =>
  (f_X8_firstOnes v5 q3.2).bind fun q6 =>
  F_X8_chosenByLot_25  FU a0 x1 q3.1 q6.1 0 q6.2
set_option maxRecDepth 100000 in
set_option maxHeartbeats 4000000 in
theorem w_X8_chosenByLot_e (X : CX RX8 cX8_chosenByLot 7 (some .int) p s m args meth c G b) {out : Int32 × HP} (Z : ZI p l e RM_X8_chosenByLot s m args below meth c cX8_chosenByLot G b False 0 0 Q out)  : ∀ (a0 : Nat) (x1 : Int32) (h : HP), f_X8_chosenByLot_e  a0 x1 h = some out → ∀ (H : Heap) (locs : List Loc) (ls : Array Slot), ST G b False s h H locs → lv_has ls 7 [(0, .ref (b + a0)), (1, .int x1)] → W p l e RM_X8_chosenByLot s m args below meth c H locs 0 0 Q (F0 m 0 ls []) := by
  intro a0 x1 h hf H locs ls S hl
  unfold f_X8_chosenByLot_e at hf
  have hx := X.1
  have hb := X.2.1
  refine lv_aload_n hx hb dX8_chosenByLot_0 rfl (lv_at hl 0 rfl) ?_
  obtain ⟨r1, e_r1, hf⟩ := ob hf
  refine r_getR X S fl_X8_19 e_r1 dX8_chosenByLot_1 ?_
  obtain ⟨v2, e_v2, hf⟩ := ob hf
  refine r_getI X S fl_X8_97 e_v2 dX8_chosenByLot_4 ?_
  obtain ⟨q3, e_q3, hf⟩ := ob hf
  refine r_callS X S hl.1 (As := [.int v2]) (rest := []) (c_X8_firstOnes e_q3) my_X8_firstOnes ms_X8_firstOnes ml_X8_288 ⟨rfl, rfl, Nat.le_of_ble_eq_true rfl, Nat.le_of_ble_eq_true rfl⟩ rfl rfl (Nat.le_of_ble_eq_true rfl) dX8_chosenByLot_7 ⟨Nat.le_of_ble_eq_true rfl, Nat.le_of_ble_eq_true rfl⟩ (fun H locs S => ?_)
  refine W.eq (g2 := F0 m 10 ls [.int q3.1]) rfl ?_
  refine lv_istore_n (lv' := [(2, .int q3.1), (0, .ref (b + a0)), (1, .int x1)]) hx hb dX8_chosenByLot_10 rfl hl (by decide) rfl (fun ls hl => ?_)
  refine lv_aload_n hx hb dX8_chosenByLot_11 rfl (lv_at hl 1 rfl) ?_
  obtain ⟨r4, e_r4, hf⟩ := ob hf
  refine r_getR X S fl_X8_19 e_r4 dX8_chosenByLot_12 ?_
  obtain ⟨v5, e_v5, hf⟩ := ob hf
  refine r_getI X S fl_X8_90 e_v5 dX8_chosenByLot_15 ?_
  obtain ⟨q6, e_q6, hf⟩ := ob hf
  refine r_callS X S hl.1 (As := [.int v5]) (rest := []) (c_X8_firstOnes e_q6) my_X8_firstOnes ms_X8_firstOnes ml_X8_288 ⟨rfl, rfl, Nat.le_of_ble_eq_true rfl, Nat.le_of_ble_eq_true rfl⟩ rfl rfl (Nat.le_of_ble_eq_true rfl) dX8_chosenByLot_18 ⟨Nat.le_of_ble_eq_true rfl, Nat.le_of_ble_eq_true rfl⟩ (fun H locs S => ?_)
  refine W.eq (g2 := F0 m 21 ls [.int q6.1]) rfl ?_
  refine lv_istore_n (lv' := [(3, .int q6.1), (2, .int q3.1), (0, .ref (b + a0)), (1, .int x1)]) hx hb dX8_chosenByLot_21 rfl hl (by decide) rfl (fun ls hl => ?_)
  refine lv_iconst (v := 0) hx hb dX8_chosenByLot_22 (by decide) ?_
  refine lv_istore (lv' := [(4, .int 0), (3, .int q6.1), (2, .int q3.1), (0, .ref (b + a0)), (1, .int x1)]) hx hb dX8_chosenByLot_23 hl (by decide) rfl (fun ls hl => ?_)
  exact wl_X8_chosenByLot_25 X Z  FU _ _ _ _ _ _ hf _ _ _ S (lv_sub hl [3, 4, 2, 1, 0] rfl)
def f_X8_chosenByLot (a0 : Nat) (x1 : Int32) (h : HP) : Option (Int32 × HP) := ck h a0 8 (f_X8_chosenByLot_e a0 x1 h)
theorem o_X8_chosenByLot {a0 : Nat} {x1 : Int32} {h : HP} {out : Int32 × HP} (hf : f_X8_chosenByLot a0 x1 h = some out) : ∃ fs, h[a0]? = some (.inl (8, fs)) := (ck_spec hf).1
set_option maxRecDepth 100000 in
theorem c_X8_chosenByLot {l : Launch} {G : GT} {b : Nat} {a0 : Nat} {x1 : Int32} {h : HP} {out : Int32 × HP} (hf : f_X8_chosenByLot a0 x1 h = some out) : MT l G b False False yX8_chosenByLot cX8_chosenByLot 7 (some .int) RM_X8_chosenByLot [.ref (b + a0), .int x1] h (some (.int out.1)) out.2 0 0 := by
  refine met_of (by decide) (Nat.le_of_ble_eq_true rfl) ?_
  intro p e s m below meth c ls X hnm S hl
  have hl : lv_has ls 7 [(0, .ref (b + a0)), (1, .int x1)] := hl
  replace hf := (ck_spec hf).2
  exact w_X8_chosenByLot_e X (z_i X) _ _ _ hf _ _ _ S hl
/-! RoomRings.person(II)I -/
abbrev RM_X8_person : Room := { frames := 5, cells := 0, slots := 0, locals := 112 }
def f_X8_person_e  (a0 : Nat) (x1 : Int32) (x2 : Int32) (h : HP) : Option (Int32 × HP) :=
  (gR h a0 8 1).bind fun r1 =>
  (f_X3_hasPerson r1 x1 h).bind fun q2 =>
  if q2.1 = 0 then
    some ((-1000000001), q2.2)
  else
    if x2 = nI 0 then
      (gR q2.2 a0 8 1).bind fun r3 =>
      (f_X3_seatOf r3 x1 q2.2).bind fun q4 =>
      some (q4.1, q4.2)
    else
      if x2 = nI 1 then
        (gR q2.2 a0 8 1).bind fun r5 =>
        (f_X3_amount r5 x1 q2.2).bind fun q6 =>
        some (q6.1, q6.2)
      else
        if x2 = nI 2 then
          (gR q2.2 a0 8 1).bind fun r7 =>
          (f_X3_placeOf r7 x1 q2.2).bind fun q8 =>
          some (q8.1, q8.2)
        else
          if x2 = nI 3 then
            (f_X8_dealt a0 q2.2).bind fun q9 => om q9.1 (
              none) fun r10 =>
              (f_X1_roomOf r10 x1 q9.2).bind fun q11 =>
              some (q11.1, q11.2)
          else
            if x2 = nI 4 then
              (f_X8_dealt a0 q2.2).bind fun q12 => om q12.1 (
                none) fun r13 =>
                (f_X1_roundOf r13 x1 q12.2).bind fun q14 =>
                some (q14.1, q14.2)
            else
              if x2 = nI 5 then
                (f_X8_dealt a0 q2.2).bind fun q15 => om q15.1 (
                  none) fun r16 =>
                  (f_X1_ringOf r16 x1 q15.2).bind fun q17 =>
                  some (q17.1, q17.2)
              else
                if x2 = nI 6 then
                  (f_X8_chosenByLot a0 x1 q2.2).bind fun q18 =>
                  some (q18.1, q18.2)
                else
                  if x2 = nI 7 then
                    (gR q2.2 a0 8 1).bind fun r19 =>
                    (f_X8_dealt a0 q2.2).bind fun q20 => om q20.1 (
                      none) fun r21 =>
                      (f_X1_roomOf r21 x1 q20.2).bind fun q22 =>
                      (f_X3_rank r19 x1 q22.1 q22.2).bind fun q23 =>
                      some (q23.1, q23.2)
                  else
                    some ((-1000000002), q2.2)
set_option maxRecDepth 100000 in
set_option maxHeartbeats 4000000 in
theorem w_X8_person_e (X : CX RX8 cX8_person 3 (some .int) p s m args meth c G b) {out : Int32 × HP} (Z : ZI p l e RM_X8_person s m args below meth c cX8_person G b False 0 0 Q out)  : ∀ (a0 : Nat) (x1 : Int32) (x2 : Int32) (h : HP), f_X8_person_e  a0 x1 x2 h = some out → ∀ (H : Heap) (locs : List Loc) (ls : Array Slot), ST G b False s h H locs → lv_has ls 3 [(0, .ref (b + a0)), (1, .int x1), (2, .int x2)] → W p l e RM_X8_person s m args below meth c H locs 0 0 Q (F0 m 0 ls []) := by
  intro a0 x1 x2 h hf H locs ls S hl
  unfold f_X8_person_e at hf
  have hx := X.1
  have hb := X.2.1
  refine lv_aload_n hx hb dX8_person_0 rfl (lv_at hl 0 rfl) ?_
  obtain ⟨r1, e_r1, hf⟩ := ob hf
  refine r_getR X S fl_X8_19 e_r1 dX8_person_1 ?_
  refine lv_iload_n hx hb dX8_person_4 rfl (lv_at hl 1 rfl) ?_
  obtain ⟨q2, e_q2, hf⟩ := ob hf
  refine r_callV X S hl.1 (As := [.int x1]) (rest := []) (c_X3_hasPerson e_q2) my_X3_hasPerson mv_X3_hasPerson ml_X8_139 rfl (o_X3_hasPerson e_q2) ⟨rfl, rfl, Nat.le_of_ble_eq_true rfl, Nat.le_of_ble_eq_true rfl⟩ rfl rfl (Nat.le_of_ble_eq_true rfl) dX8_person_5 ⟨Nat.le_of_ble_eq_true rfl, Nat.le_of_ble_eq_true rfl⟩ (fun H locs S => ?_)
  refine W.eq (g2 := F0 m 8 ls [.int q2.1]) rfl ?_
  refine lv_if_ne (tgt := 14) hx hb dX8_person_8 (by decide) (fun hc => ?_) (fun hc => ?_)
  · replace hf := im hf hc
    refine lv_iload_n hx hb dX8_person_14 rfl (lv_at hl 2 rfl) ?_
    by_cases hs15_0 : x2 = nI 0
    · replace hf := ip hf hs15_0
      refine lv_tableIn (off := 45) (tgt := 60) hx hb dX8_person_15 (by rw [hs15_0]; decide) (by rw [hs15_0]; decide) (by rw [hs15_0]; decide) (by decide) ?_
      refine lv_aload_n hx hb dX8_person_60 rfl (lv_at hl 0 rfl) ?_
      obtain ⟨r3, e_r3, hf⟩ := ob hf
      refine r_getR X S fl_X8_19 e_r3 dX8_person_61 ?_
      refine lv_iload_n hx hb dX8_person_64 rfl (lv_at hl 1 rfl) ?_
      obtain ⟨q4, e_q4, hf⟩ := ob hf
      refine r_callV X S hl.1 (As := [.int x1]) (rest := []) (c_X3_seatOf e_q4) my_X3_seatOf mv_X3_seatOf ml_X8_144 rfl (o_X3_seatOf e_q4) ⟨rfl, rfl, Nat.le_of_ble_eq_true rfl, Nat.le_of_ble_eq_true rfl⟩ rfl rfl (Nat.le_of_ble_eq_true rfl) dX8_person_65 ⟨Nat.le_of_ble_eq_true rfl, Nat.le_of_ble_eq_true rfl⟩ (fun H locs S => ?_)
      refine W.eq (g2 := F0 m 68 ls [.int q4.1]) rfl ?_
      obtain rfl := Option.some.inj hf
      exact Z _ _ _ _ dX8_person_68 S
    · replace hf := im hf hs15_0
      by_cases hs15_1 : x2 = nI 1
      · replace hf := ip hf hs15_1
        refine lv_tableIn (off := 54) (tgt := 69) hx hb dX8_person_15 (by rw [hs15_1]; decide) (by rw [hs15_1]; decide) (by rw [hs15_1]; decide) (by decide) ?_
        refine lv_aload_n hx hb dX8_person_69 rfl (lv_at hl 0 rfl) ?_
        obtain ⟨r5, e_r5, hf⟩ := ob hf
        refine r_getR X S fl_X8_19 e_r5 dX8_person_70 ?_
        refine lv_iload_n hx hb dX8_person_73 rfl (lv_at hl 1 rfl) ?_
        obtain ⟨q6, e_q6, hf⟩ := ob hf
        refine r_callV X S hl.1 (As := [.int x1]) (rest := []) (c_X3_amount e_q6) my_X3_amount mv_X3_amount ml_X8_147 rfl (o_X3_amount e_q6) ⟨rfl, rfl, Nat.le_of_ble_eq_true rfl, Nat.le_of_ble_eq_true rfl⟩ rfl rfl (Nat.le_of_ble_eq_true rfl) dX8_person_74 ⟨Nat.le_of_ble_eq_true rfl, Nat.le_of_ble_eq_true rfl⟩ (fun H locs S => ?_)
        refine W.eq (g2 := F0 m 77 ls [.int q6.1]) rfl ?_
        obtain rfl := Option.some.inj hf
        exact Z _ _ _ _ dX8_person_77 S
      · replace hf := im hf hs15_1
        by_cases hs15_2 : x2 = nI 2
        · replace hf := ip hf hs15_2
          refine lv_tableIn (off := 63) (tgt := 78) hx hb dX8_person_15 (by rw [hs15_2]; decide) (by rw [hs15_2]; decide) (by rw [hs15_2]; decide) (by decide) ?_
          refine lv_aload_n hx hb dX8_person_78 rfl (lv_at hl 0 rfl) ?_
          obtain ⟨r7, e_r7, hf⟩ := ob hf
          refine r_getR X S fl_X8_19 e_r7 dX8_person_79 ?_
          refine lv_iload_n hx hb dX8_person_82 rfl (lv_at hl 1 rfl) ?_
          obtain ⟨q8, e_q8, hf⟩ := ob hf
          refine r_callV X S hl.1 (As := [.int x1]) (rest := []) (c_X3_placeOf e_q8) my_X3_placeOf mv_X3_placeOf ml_X8_150 rfl (o_X3_placeOf e_q8) ⟨rfl, rfl, Nat.le_of_ble_eq_true rfl, Nat.le_of_ble_eq_true rfl⟩ rfl rfl (Nat.le_of_ble_eq_true rfl) dX8_person_83 ⟨Nat.le_of_ble_eq_true rfl, Nat.le_of_ble_eq_true rfl⟩ (fun H locs S => ?_)
          refine W.eq (g2 := F0 m 86 ls [.int q8.1]) rfl ?_
          obtain rfl := Option.some.inj hf
          exact Z _ _ _ _ dX8_person_86 S
        · replace hf := im hf hs15_2
          by_cases hs15_3 : x2 = nI 3
          · replace hf := ip hf hs15_3
            refine lv_tableIn (off := 72) (tgt := 87) hx hb dX8_person_15 (by rw [hs15_3]; decide) (by rw [hs15_3]; decide) (by rw [hs15_3]; decide) (by decide) ?_
            refine lv_aload_n hx hb dX8_person_87 rfl (lv_at hl 0 rfl) ?_
            obtain ⟨⟨q9o, q9h⟩, e_q9, hf⟩ := ob hf
            cases q9o with
            | none => exact nn (om_n hf)
            | some r10 =>
              replace hf := om_s hf
              refine r_callV X S hl.1 (As := []) (rest := []) (c_X8_dealt e_q9) my_X8_dealt mv_X8_dealt ml_X8_103 rfl (o_X8_dealt e_q9) ⟨rfl, rfl, Nat.le_of_ble_eq_true rfl, Nat.le_of_ble_eq_true rfl⟩ rfl rfl (Nat.le_of_ble_eq_true rfl) dX8_person_88 ⟨Nat.le_of_ble_eq_true rfl, Nat.le_of_ble_eq_true rfl⟩ (fun H locs S => ?_)
              refine W.eq (g2 := F0 m 91 ls [.ref (b + r10)]) rfl ?_
              refine lv_iload_n hx hb dX8_person_91 rfl (lv_at hl 1 rfl) ?_
              obtain ⟨q11, e_q11, hf⟩ := ob hf
              refine r_callV X S hl.1 (As := [.int x1]) (rest := []) (c_X1_roomOf e_q11) my_X1_roomOf mv_X1_roomOf ml_X8_153 rfl (o_X1_roomOf e_q11) ⟨rfl, rfl, Nat.le_of_ble_eq_true rfl, Nat.le_of_ble_eq_true rfl⟩ rfl rfl (Nat.le_of_ble_eq_true rfl) dX8_person_92 ⟨Nat.le_of_ble_eq_true rfl, Nat.le_of_ble_eq_true rfl⟩ (fun H locs S => ?_)
              refine W.eq (g2 := F0 m 95 ls [.int q11.1]) rfl ?_
              obtain rfl := Option.some.inj hf
              exact Z _ _ _ _ dX8_person_95 S
          · replace hf := im hf hs15_3
            by_cases hs15_4 : x2 = nI 4
            · replace hf := ip hf hs15_4
              refine lv_tableIn (off := 81) (tgt := 96) hx hb dX8_person_15 (by rw [hs15_4]; decide) (by rw [hs15_4]; decide) (by rw [hs15_4]; decide) (by decide) ?_
              refine lv_aload_n hx hb dX8_person_96 rfl (lv_at hl 0 rfl) ?_
              obtain ⟨⟨q12o, q12h⟩, e_q12, hf⟩ := ob hf
              cases q12o with
              | none => exact nn (om_n hf)
              | some r13 =>
                replace hf := om_s hf
                refine r_callV X S hl.1 (As := []) (rest := []) (c_X8_dealt e_q12) my_X8_dealt mv_X8_dealt ml_X8_103 rfl (o_X8_dealt e_q12) ⟨rfl, rfl, Nat.le_of_ble_eq_true rfl, Nat.le_of_ble_eq_true rfl⟩ rfl rfl (Nat.le_of_ble_eq_true rfl) dX8_person_97 ⟨Nat.le_of_ble_eq_true rfl, Nat.le_of_ble_eq_true rfl⟩ (fun H locs S => ?_)
                refine W.eq (g2 := F0 m 100 ls [.ref (b + r13)]) rfl ?_
                refine lv_iload_n hx hb dX8_person_100 rfl (lv_at hl 1 rfl) ?_
                obtain ⟨q14, e_q14, hf⟩ := ob hf
                refine r_callV X S hl.1 (As := [.int x1]) (rest := []) (c_X1_roundOf e_q14) my_X1_roundOf mv_X1_roundOf ml_X8_156 rfl (o_X1_roundOf e_q14) ⟨rfl, rfl, Nat.le_of_ble_eq_true rfl, Nat.le_of_ble_eq_true rfl⟩ rfl rfl (Nat.le_of_ble_eq_true rfl) dX8_person_101 ⟨Nat.le_of_ble_eq_true rfl, Nat.le_of_ble_eq_true rfl⟩ (fun H locs S => ?_)
                refine W.eq (g2 := F0 m 104 ls [.int q14.1]) rfl ?_
                obtain rfl := Option.some.inj hf
                exact Z _ _ _ _ dX8_person_104 S
            · replace hf := im hf hs15_4
              by_cases hs15_5 : x2 = nI 5
              · replace hf := ip hf hs15_5
                refine lv_tableIn (off := 90) (tgt := 105) hx hb dX8_person_15 (by rw [hs15_5]; decide) (by rw [hs15_5]; decide) (by rw [hs15_5]; decide) (by decide) ?_
                refine lv_aload_n hx hb dX8_person_105 rfl (lv_at hl 0 rfl) ?_
                obtain ⟨⟨q15o, q15h⟩, e_q15, hf⟩ := ob hf
                cases q15o with
                | none => exact nn (om_n hf)
                | some r16 =>
                  replace hf := om_s hf
                  refine r_callV X S hl.1 (As := []) (rest := []) (c_X8_dealt e_q15) my_X8_dealt mv_X8_dealt ml_X8_103 rfl (o_X8_dealt e_q15) ⟨rfl, rfl, Nat.le_of_ble_eq_true rfl, Nat.le_of_ble_eq_true rfl⟩ rfl rfl (Nat.le_of_ble_eq_true rfl) dX8_person_106 ⟨Nat.le_of_ble_eq_true rfl, Nat.le_of_ble_eq_true rfl⟩ (fun H locs S => ?_)
                  refine W.eq (g2 := F0 m 109 ls [.ref (b + r16)]) rfl ?_
                  refine lv_iload_n hx hb dX8_person_109 rfl (lv_at hl 1 rfl) ?_
                  obtain ⟨q17, e_q17, hf⟩ := ob hf
                  refine r_callV X S hl.1 (As := [.int x1]) (rest := []) (c_X1_ringOf e_q17) my_X1_ringOf mv_X1_ringOf ml_X8_159 rfl (o_X1_ringOf e_q17) ⟨rfl, rfl, Nat.le_of_ble_eq_true rfl, Nat.le_of_ble_eq_true rfl⟩ rfl rfl (Nat.le_of_ble_eq_true rfl) dX8_person_110 ⟨Nat.le_of_ble_eq_true rfl, Nat.le_of_ble_eq_true rfl⟩ (fun H locs S => ?_)
                  refine W.eq (g2 := F0 m 113 ls [.int q17.1]) rfl ?_
                  obtain rfl := Option.some.inj hf
                  exact Z _ _ _ _ dX8_person_113 S
              · replace hf := im hf hs15_5
                by_cases hs15_6 : x2 = nI 6
                · replace hf := ip hf hs15_6
                  refine lv_tableIn (off := 99) (tgt := 114) hx hb dX8_person_15 (by rw [hs15_6]; decide) (by rw [hs15_6]; decide) (by rw [hs15_6]; decide) (by decide) ?_
                  refine lv_aload_n hx hb dX8_person_114 rfl (lv_at hl 0 rfl) ?_
                  refine lv_iload_n hx hb dX8_person_115 rfl (lv_at hl 1 rfl) ?_
                  obtain ⟨q18, e_q18, hf⟩ := ob hf
                  refine r_callV X S hl.1 (As := [.int x1]) (rest := []) (c_X8_chosenByLot e_q18) my_X8_chosenByLot mv_X8_chosenByLot ml_X8_162 rfl (o_X8_chosenByLot e_q18) ⟨rfl, rfl, Nat.le_of_ble_eq_true rfl, Nat.le_of_ble_eq_true rfl⟩ rfl rfl (Nat.le_of_ble_eq_true rfl) dX8_person_116 ⟨Nat.le_of_ble_eq_true rfl, Nat.le_of_ble_eq_true rfl⟩ (fun H locs S => ?_)
                  refine W.eq (g2 := F0 m 119 ls [.int q18.1]) rfl ?_
                  obtain rfl := Option.some.inj hf
                  exact Z _ _ _ _ dX8_person_119 S
                · replace hf := im hf hs15_6
                  by_cases hs15_7 : x2 = nI 7
                  · replace hf := ip hf hs15_7
                    refine lv_tableIn (off := 105) (tgt := 120) hx hb dX8_person_15 (by rw [hs15_7]; decide) (by rw [hs15_7]; decide) (by rw [hs15_7]; decide) (by decide) ?_
                    refine lv_aload_n hx hb dX8_person_120 rfl (lv_at hl 0 rfl) ?_
                    obtain ⟨r19, e_r19, hf⟩ := ob hf
                    refine r_getR X S fl_X8_19 e_r19 dX8_person_121 ?_
                    refine lv_iload_n hx hb dX8_person_124 rfl (lv_at hl 1 rfl) ?_
                    refine lv_aload_n hx hb dX8_person_125 rfl (lv_at hl 0 rfl) ?_
                    obtain ⟨⟨q20o, q20h⟩, e_q20, hf⟩ := ob hf
                    cases q20o with
                    | none => exact nn (om_n hf)
                    | some r21 =>
                      replace hf := om_s hf
                      refine r_callV X S hl.1 (As := []) (rest := [.int x1, .ref (b + r19)]) (c_X8_dealt e_q20) my_X8_dealt mv_X8_dealt ml_X8_103 rfl (o_X8_dealt e_q20) ⟨rfl, rfl, Nat.le_of_ble_eq_true rfl, Nat.le_of_ble_eq_true rfl⟩ rfl rfl (Nat.le_of_ble_eq_true rfl) dX8_person_126 ⟨Nat.le_of_ble_eq_true rfl, Nat.le_of_ble_eq_true rfl⟩ (fun H locs S => ?_)
                      refine W.eq (g2 := F0 m 129 ls [.ref (b + r21), .int x1, .ref (b + r19)]) rfl ?_
                      refine lv_iload_n hx hb dX8_person_129 rfl (lv_at hl 1 rfl) ?_
                      obtain ⟨q22, e_q22, hf⟩ := ob hf
                      refine r_callV X S hl.1 (As := [.int x1]) (rest := [.int x1, .ref (b + r19)]) (c_X1_roomOf e_q22) my_X1_roomOf mv_X1_roomOf ml_X8_153 rfl (o_X1_roomOf e_q22) ⟨rfl, rfl, Nat.le_of_ble_eq_true rfl, Nat.le_of_ble_eq_true rfl⟩ rfl rfl (Nat.le_of_ble_eq_true rfl) dX8_person_130 ⟨Nat.le_of_ble_eq_true rfl, Nat.le_of_ble_eq_true rfl⟩ (fun H locs S => ?_)
                      refine W.eq (g2 := F0 m 133 ls [.int q22.1, .int x1, .ref (b + r19)]) rfl ?_
                      obtain ⟨q23, e_q23, hf⟩ := ob hf
                      refine r_callV X S hl.1 (As := [.int x1, .int q22.1]) (rest := []) (c_X3_rank e_q23) my_X3_rank mv_X3_rank ml_X8_165 rfl (o_X3_rank e_q23) ⟨rfl, rfl, Nat.le_of_ble_eq_true rfl, Nat.le_of_ble_eq_true rfl⟩ rfl rfl (Nat.le_of_ble_eq_true rfl) dX8_person_133 ⟨Nat.le_of_ble_eq_true rfl, Nat.le_of_ble_eq_true rfl⟩ (fun H locs S => ?_)
                      refine W.eq (g2 := F0 m 136 ls [.int q23.1]) rfl ?_
                      obtain rfl := Option.some.inj hf
                      exact Z _ _ _ _ dX8_person_136 S
                  · replace hf := im hf hs15_7
                    refine lv_tableOut (tgt := 137) hx hb dX8_person_15 (sw_out (n := 8) (by decide) (lt_s (lt_s (lt_s (lt_s (lt_s (lt_s (lt_s (lt_s (lt_0) hs15_0) hs15_1) hs15_2) hs15_3) hs15_4) hs15_5) hs15_6) hs15_7)) (by decide) ?_
                    refine lv_ldc (v := (-1000000002)) hx hb X.2.2.2.1 (X.2.2.2.2.1 _ cn_X8_68) dX8_person_137 ?_
                    obtain rfl := Option.some.inj hf
                    exact Z _ _ _ _ dX8_person_139 S
  · replace hf := ip hf hc
    refine lv_ldc (v := (-1000000001)) hx hb X.2.2.2.1 (X.2.2.2.2.1 _ cn_X8_143) dX8_person_11 ?_
    obtain rfl := Option.some.inj hf
    exact Z _ _ _ _ dX8_person_13 S
def f_X8_person (a0 : Nat) (x1 : Int32) (x2 : Int32) (h : HP) : Option (Int32 × HP) := ck h a0 8 (f_X8_person_e a0 x1 x2 h)
theorem o_X8_person {a0 : Nat} {x1 : Int32} {x2 : Int32} {h : HP} {out : Int32 × HP} (hf : f_X8_person a0 x1 x2 h = some out) : ∃ fs, h[a0]? = some (.inl (8, fs)) := (ck_spec hf).1
set_option maxRecDepth 100000 in
theorem c_X8_person {l : Launch} {G : GT} {b : Nat} {a0 : Nat} {x1 : Int32} {x2 : Int32} {h : HP} {out : Int32 × HP} (hf : f_X8_person a0 x1 x2 h = some out) : MT l G b False False yX8_person cX8_person 3 (some .int) RM_X8_person [.ref (b + a0), .int x1, .int x2] h (some (.int out.1)) out.2 0 0 := by
  refine met_of (by decide) (Nat.le_of_ble_eq_true rfl) ?_
  intro p e s m below meth c ls X hnm S hl
  have hl : lv_has ls 3 [(0, .ref (b + a0)), (1, .int x1), (2, .int x2)] := hl
  replace hf := (ck_spec hf).2
  exact w_X8_person_e X (z_i X) _ _ _ _ hf _ _ _ S hl
/-! RoomRings.likes(II)I -/
abbrev RM_X8_likes : Room := { frames := 2, cells := 0, slots := 0, locals := 43 }
def f_X8_likes_e  (a0 : Nat) (x1 : Int32) (x2 : Int32) (h : HP) : Option (Int32 × HP) :=
  (gR h a0 8 1).bind fun r1 =>
  (f_X3_hasPerson r1 x1 h).bind fun q2 =>
  if q2.1 = 0 then
    some ((-1000000001), q2.2)
  else
    (gR q2.2 a0 8 1).bind fun r3 =>
    (f_X3_liking r3 x1 x2 q2.2).bind fun q4 =>
    some (q4.1, q4.2)
set_option maxRecDepth 100000 in
set_option maxHeartbeats 4000000 in
theorem w_X8_likes_e (X : CX RX8 cX8_likes 3 (some .int) p s m args meth c G b) {out : Int32 × HP} (Z : ZI p l e RM_X8_likes s m args below meth c cX8_likes G b False 0 0 Q out)  : ∀ (a0 : Nat) (x1 : Int32) (x2 : Int32) (h : HP), f_X8_likes_e  a0 x1 x2 h = some out → ∀ (H : Heap) (locs : List Loc) (ls : Array Slot), ST G b False s h H locs → lv_has ls 3 [(0, .ref (b + a0)), (1, .int x1), (2, .int x2)] → W p l e RM_X8_likes s m args below meth c H locs 0 0 Q (F0 m 0 ls []) := by
  intro a0 x1 x2 h hf H locs ls S hl
  unfold f_X8_likes_e at hf
  have hx := X.1
  have hb := X.2.1
  refine lv_aload_n hx hb dX8_likes_0 rfl (lv_at hl 0 rfl) ?_
  obtain ⟨r1, e_r1, hf⟩ := ob hf
  refine r_getR X S fl_X8_19 e_r1 dX8_likes_1 ?_
  refine lv_iload_n hx hb dX8_likes_4 rfl (lv_at hl 1 rfl) ?_
  obtain ⟨q2, e_q2, hf⟩ := ob hf
  refine r_callV X S hl.1 (As := [.int x1]) (rest := []) (c_X3_hasPerson e_q2) my_X3_hasPerson mv_X3_hasPerson ml_X8_139 rfl (o_X3_hasPerson e_q2) ⟨rfl, rfl, Nat.le_of_ble_eq_true rfl, Nat.le_of_ble_eq_true rfl⟩ rfl rfl (Nat.le_of_ble_eq_true rfl) dX8_likes_5 ⟨Nat.le_of_ble_eq_true rfl, Nat.le_of_ble_eq_true rfl⟩ (fun H locs S => ?_)
  refine W.eq (g2 := F0 m 8 ls [.int q2.1]) rfl ?_
  refine lv_if_ne (tgt := 14) hx hb dX8_likes_8 (by decide) (fun hc => ?_) (fun hc => ?_)
  · replace hf := im hf hc
    refine lv_aload_n hx hb dX8_likes_14 rfl (lv_at hl 0 rfl) ?_
    obtain ⟨r3, e_r3, hf⟩ := ob hf
    refine r_getR X S fl_X8_19 e_r3 dX8_likes_15 ?_
    refine lv_iload_n hx hb dX8_likes_18 rfl (lv_at hl 1 rfl) ?_
    refine lv_iload_n hx hb dX8_likes_19 rfl (lv_at hl 2 rfl) ?_
    obtain ⟨q4, e_q4, hf⟩ := ob hf
    refine r_callV X S hl.1 (As := [.int x1, .int x2]) (rest := []) (c_X3_liking e_q4) my_X3_liking mv_X3_liking ml_X8_169 rfl (o_X3_liking e_q4) ⟨rfl, rfl, Nat.le_of_ble_eq_true rfl, Nat.le_of_ble_eq_true rfl⟩ rfl rfl (Nat.le_of_ble_eq_true rfl) dX8_likes_20 ⟨Nat.le_of_ble_eq_true rfl, Nat.le_of_ble_eq_true rfl⟩ (fun H locs S => ?_)
    refine W.eq (g2 := F0 m 23 ls [.int q4.1]) rfl ?_
    obtain rfl := Option.some.inj hf
    exact Z _ _ _ _ dX8_likes_23 S
  · replace hf := ip hf hc
    refine lv_ldc (v := (-1000000001)) hx hb X.2.2.2.1 (X.2.2.2.2.1 _ cn_X8_143) dX8_likes_11 ?_
    obtain rfl := Option.some.inj hf
    exact Z _ _ _ _ dX8_likes_13 S
def f_X8_likes (a0 : Nat) (x1 : Int32) (x2 : Int32) (h : HP) : Option (Int32 × HP) := ck h a0 8 (f_X8_likes_e a0 x1 x2 h)
theorem o_X8_likes {a0 : Nat} {x1 : Int32} {x2 : Int32} {h : HP} {out : Int32 × HP} (hf : f_X8_likes a0 x1 x2 h = some out) : ∃ fs, h[a0]? = some (.inl (8, fs)) := (ck_spec hf).1
set_option maxRecDepth 100000 in
theorem c_X8_likes {l : Launch} {G : GT} {b : Nat} {a0 : Nat} {x1 : Int32} {x2 : Int32} {h : HP} {out : Int32 × HP} (hf : f_X8_likes a0 x1 x2 h = some out) : MT l G b False False yX8_likes cX8_likes 3 (some .int) RM_X8_likes [.ref (b + a0), .int x1, .int x2] h (some (.int out.1)) out.2 0 0 := by
  refine met_of (by decide) (Nat.le_of_ble_eq_true rfl) ?_
  intro p e s m below meth c ls X hnm S hl
  have hl : lv_has ls 3 [(0, .ref (b + a0)), (1, .int x1), (2, .int x2)] := hl
  replace hf := (ck_spec hf).2
  exact w_X8_likes_e X (z_i X) _ _ _ _ hf _ _ _ S hl
/-! RoomRings.room(II)I -/
abbrev RM_X8_room : Room := { frames := 5, cells := 0, slots := 0, locals := 112 }
def f_X8_room_e  (a0 : Nat) (x1 : Int32) (x2 : Int32) (h : HP) : Option (Int32 × HP) :=
  (gR h a0 8 1).bind fun r1 =>
  (f_X3_hasRoom r1 x1 h).bind fun q2 =>
  if q2.1 = 0 then
    some ((-1000000001), q2.2)
  else
    if x2 = 0 then
      (gR q2.2 a0 8 1).bind fun r3 =>
      (f_X3_sitter r3 x1 q2.2).bind fun q4 =>
      some (q4.1, q4.2)
    else
      if x2 = 1 then
        (f_X8_dealt a0 q2.2).bind fun q5 => om q5.1 (
          none) fun r6 =>
          (gR q5.2 a0 8 1).bind fun r7 =>
          (f_X1_winner r6 r7 x1 q5.2).bind fun q8 =>
          some (q8.1, q8.2)
      else
        some ((-1000000002), q2.2)
set_option maxRecDepth 100000 in
set_option maxHeartbeats 4000000 in
theorem w_X8_room_e (X : CX RX8 cX8_room 3 (some .int) p s m args meth c G b) {out : Int32 × HP} (Z : ZI p l e RM_X8_room s m args below meth c cX8_room G b False 0 0 Q out)  : ∀ (a0 : Nat) (x1 : Int32) (x2 : Int32) (h : HP), f_X8_room_e  a0 x1 x2 h = some out → ∀ (H : Heap) (locs : List Loc) (ls : Array Slot), ST G b False s h H locs → lv_has ls 3 [(0, .ref (b + a0)), (1, .int x1), (2, .int x2)] → W p l e RM_X8_room s m args below meth c H locs 0 0 Q (F0 m 0 ls []) := by
  intro a0 x1 x2 h hf H locs ls S hl
  unfold f_X8_room_e at hf
  have hx := X.1
  have hb := X.2.1
  refine lv_aload_n hx hb dX8_room_0 rfl (lv_at hl 0 rfl) ?_
  obtain ⟨r1, e_r1, hf⟩ := ob hf
  refine r_getR X S fl_X8_19 e_r1 dX8_room_1 ?_
  refine lv_iload_n hx hb dX8_room_4 rfl (lv_at hl 1 rfl) ?_
  obtain ⟨q2, e_q2, hf⟩ := ob hf
  refine r_callV X S hl.1 (As := [.int x1]) (rest := []) (c_X3_hasRoom e_q2) my_X3_hasRoom mv_X3_hasRoom ml_X8_172 rfl (o_X3_hasRoom e_q2) ⟨rfl, rfl, Nat.le_of_ble_eq_true rfl, Nat.le_of_ble_eq_true rfl⟩ rfl rfl (Nat.le_of_ble_eq_true rfl) dX8_room_5 ⟨Nat.le_of_ble_eq_true rfl, Nat.le_of_ble_eq_true rfl⟩ (fun H locs S => ?_)
  refine W.eq (g2 := F0 m 8 ls [.int q2.1]) rfl ?_
  refine lv_if_ne (tgt := 14) hx hb dX8_room_8 (by decide) (fun hc => ?_) (fun hc => ?_)
  · replace hf := im hf hc
    refine lv_iload_n hx hb dX8_room_14 rfl (lv_at hl 2 rfl) ?_
    by_cases hs15_0 : x2 = 0
    · replace hf := ip hf hs15_0
      refine lv_lookup (off := 25) (tgt := 40) hx hb dX8_room_15 (by decide) (by rw [hs15_0]; decide) (by decide) ?_
      refine lv_aload_n hx hb dX8_room_40 rfl (lv_at hl 0 rfl) ?_
      obtain ⟨r3, e_r3, hf⟩ := ob hf
      refine r_getR X S fl_X8_19 e_r3 dX8_room_41 ?_
      refine lv_iload_n hx hb dX8_room_44 rfl (lv_at hl 1 rfl) ?_
      obtain ⟨q4, e_q4, hf⟩ := ob hf
      refine r_callV X S hl.1 (As := [.int x1]) (rest := []) (c_X3_sitter e_q4) my_X3_sitter mv_X3_sitter ml_X8_175 rfl (o_X3_sitter e_q4) ⟨rfl, rfl, Nat.le_of_ble_eq_true rfl, Nat.le_of_ble_eq_true rfl⟩ rfl rfl (Nat.le_of_ble_eq_true rfl) dX8_room_45 ⟨Nat.le_of_ble_eq_true rfl, Nat.le_of_ble_eq_true rfl⟩ (fun H locs S => ?_)
      refine W.eq (g2 := F0 m 48 ls [.int q4.1]) rfl ?_
      obtain rfl := Option.some.inj hf
      exact Z _ _ _ _ dX8_room_48 S
    · replace hf := im hf hs15_0
      by_cases hs15_1 : x2 = 1
      · replace hf := ip hf hs15_1
        refine lv_lookup (off := 34) (tgt := 49) hx hb dX8_room_15 (by decide) (by rw [hs15_1]; decide) (by decide) ?_
        refine lv_aload_n hx hb dX8_room_49 rfl (lv_at hl 0 rfl) ?_
        obtain ⟨⟨q5o, q5h⟩, e_q5, hf⟩ := ob hf
        cases q5o with
        | none => exact nn (om_n hf)
        | some r6 =>
          replace hf := om_s hf
          refine r_callV X S hl.1 (As := []) (rest := []) (c_X8_dealt e_q5) my_X8_dealt mv_X8_dealt ml_X8_103 rfl (o_X8_dealt e_q5) ⟨rfl, rfl, Nat.le_of_ble_eq_true rfl, Nat.le_of_ble_eq_true rfl⟩ rfl rfl (Nat.le_of_ble_eq_true rfl) dX8_room_50 ⟨Nat.le_of_ble_eq_true rfl, Nat.le_of_ble_eq_true rfl⟩ (fun H locs S => ?_)
          refine W.eq (g2 := F0 m 53 ls [.ref (b + r6)]) rfl ?_
          refine lv_aload_n hx hb dX8_room_53 rfl (lv_at hl 0 rfl) ?_
          obtain ⟨r7, e_r7, hf⟩ := ob hf
          refine r_getR X S fl_X8_19 e_r7 dX8_room_54 ?_
          refine lv_iload_n hx hb dX8_room_57 rfl (lv_at hl 1 rfl) ?_
          obtain ⟨q8, e_q8, hf⟩ := ob hf
          refine r_callV X S hl.1 (As := [.ref (b + r7), .int x1]) (rest := []) (c_X1_winner e_q8) my_X1_winner mv_X1_winner ml_X8_178 rfl (o_X1_winner e_q8) ⟨rfl, rfl, Nat.le_of_ble_eq_true rfl, Nat.le_of_ble_eq_true rfl⟩ rfl rfl (Nat.le_of_ble_eq_true rfl) dX8_room_58 ⟨Nat.le_of_ble_eq_true rfl, Nat.le_of_ble_eq_true rfl⟩ (fun H locs S => ?_)
          refine W.eq (g2 := F0 m 61 ls [.int q8.1]) rfl ?_
          obtain rfl := Option.some.inj hf
          exact Z _ _ _ _ dX8_room_61 S
      · replace hf := im hf hs15_1
        refine lv_lookup (off := 47) (tgt := 62) hx hb dX8_room_15 (by decide) (by simp [Op.lookupswitch.offset, lk_ne (n := 0) hs15_0 (by decide), lk_ne (n := 1) hs15_1 (by decide)]) (by decide) ?_
        refine lv_ldc (v := (-1000000002)) hx hb X.2.2.2.1 (X.2.2.2.2.1 _ cn_X8_68) dX8_room_62 ?_
        obtain rfl := Option.some.inj hf
        exact Z _ _ _ _ dX8_room_64 S
  · replace hf := ip hf hc
    refine lv_ldc (v := (-1000000001)) hx hb X.2.2.2.1 (X.2.2.2.2.1 _ cn_X8_143) dX8_room_11 ?_
    obtain rfl := Option.some.inj hf
    exact Z _ _ _ _ dX8_room_13 S
def f_X8_room (a0 : Nat) (x1 : Int32) (x2 : Int32) (h : HP) : Option (Int32 × HP) := ck h a0 8 (f_X8_room_e a0 x1 x2 h)
theorem o_X8_room {a0 : Nat} {x1 : Int32} {x2 : Int32} {h : HP} {out : Int32 × HP} (hf : f_X8_room a0 x1 x2 h = some out) : ∃ fs, h[a0]? = some (.inl (8, fs)) := (ck_spec hf).1
set_option maxRecDepth 100000 in
theorem c_X8_room {l : Launch} {G : GT} {b : Nat} {a0 : Nat} {x1 : Int32} {x2 : Int32} {h : HP} {out : Int32 × HP} (hf : f_X8_room a0 x1 x2 h = some out) : MT l G b False False yX8_room cX8_room 3 (some .int) RM_X8_room [.ref (b + a0), .int x1, .int x2] h (some (.int out.1)) out.2 0 0 := by
  refine met_of (by decide) (Nat.le_of_ble_eq_true rfl) ?_
  intro p e s m below meth c ls X hnm S hl
  have hl : lv_has ls 3 [(0, .ref (b + a0)), (1, .int x1), (2, .int x2)] := hl
  replace hf := (ck_spec hf).2
  exact w_X8_room_e X (z_i X) _ _ _ _ hf _ _ _ S hl
/-! RoomRings.like(III)I -/
abbrev RM_X8_like : Room := { frames := 4, cells := 0, slots := 0, locals := 98 }
def f_X8_like_b22   (h : HP) : Option (Int32 × HP) :=
  some ((-1000000001), h)
set_option maxRecDepth 100000 in
set_option maxHeartbeats 4000000 in
theorem w_X8_like_b22 (X : CX RX8 cX8_like 4 (some .int) p s m args meth c G b) {out : Int32 × HP} (Z : ZI p l e RM_X8_like s m args below meth c cX8_like G b False 0 0 Q out)  : ∀  (h : HP), f_X8_like_b22   h = some out → ∀ (H : Heap) (locs : List Loc) (ls : Array Slot), ST G b False s h H locs → lv_has ls 4 [] → W p l e RM_X8_like s m args below meth c H locs 0 0 Q (F0 m 22 ls []) := by
  intro  h hf H locs ls S hl
  unfold f_X8_like_b22 at hf
  have hx := X.1
  have hb := X.2.1
  refine lv_ldc (v := (-1000000001)) hx hb X.2.2.2.1 (X.2.2.2.2.1 _ cn_X8_143) dX8_like_22 ?_
  obtain rfl := Option.some.inj hf
  exact Z _ _ _ _ dX8_like_24 S
def f_X8_like_b35   (h : HP) : Option (Int32 × HP) :=
  some ((-1000000002), h)
set_option maxRecDepth 100000 in
set_option maxHeartbeats 4000000 in
theorem w_X8_like_b35 (X : CX RX8 cX8_like 4 (some .int) p s m args meth c G b) {out : Int32 × HP} (Z : ZI p l e RM_X8_like s m args below meth c cX8_like G b False 0 0 Q out)  : ∀  (h : HP), f_X8_like_b35   h = some out → ∀ (H : Heap) (locs : List Loc) (ls : Array Slot), ST G b False s h H locs → lv_has ls 4 [] → W p l e RM_X8_like s m args below meth c H locs 0 0 Q (F0 m 35 ls []) := by
  intro  h hf H locs ls S hl
  unfold f_X8_like_b35 at hf
  have hx := X.1
  have hb := X.2.1
  refine lv_ldc (v := (-1000000002)) hx hb X.2.2.2.1 (X.2.2.2.2.1 _ cn_X8_68) dX8_like_35 ?_
  obtain rfl := Option.some.inj hf
  exact Z _ _ _ _ dX8_like_37 S
def f_X8_like_e  (a0 : Nat) (x1 : Int32) (x2 : Int32) (x3 : Int32) (h : HP) : Option (Int32 × HP) :=
  (gR h a0 8 1).bind fun r1 =>
  (f_X3_hasPerson r1 x1 h).bind fun q2 =>
  if q2.1 = 0 then
    f_X8_like_b22   q2.2
  else
    (gR q2.2 a0 8 1).bind fun r3 =>
    (f_X3_hasRoom r3 x2 q2.2).bind fun q4 =>
    if q4.1 = 0 then
      f_X8_like_b22   q4.2
    else
      if x3 < 0 then
        f_X8_like_b35   q4.2
      else
        if x3 < 8 then
          (gR q4.2 a0 8 5).bind fun r5 =>
          (gR q4.2 a0 8 1).bind fun r6 =>
          (f_X6_push r5 r6 q4.2).bind fun h7 =>
          (gR h7 a0 8 1).bind fun r8 =>
          (f_X3_putLiking r8 x1 x2 x3 h7).bind fun h9 =>
          (gR h9 a0 8 1).bind fun r10 =>
          (f_X3_amount r10 x1 h9).bind fun q11 =>
          some (q11.1, q11.2)
        else
          f_X8_like_b35   q4.2
set_option maxRecDepth 100000 in
set_option maxHeartbeats 4000000 in
theorem w_X8_like_e (X : CX RX8 cX8_like 4 (some .int) p s m args meth c G b) {out : Int32 × HP} (Z : ZI p l e RM_X8_like s m args below meth c cX8_like G b False 0 0 Q out)  : ∀ (a0 : Nat) (x1 : Int32) (x2 : Int32) (x3 : Int32) (h : HP), f_X8_like_e  a0 x1 x2 x3 h = some out → ∀ (H : Heap) (locs : List Loc) (ls : Array Slot), ST G b False s h H locs → lv_has ls 4 [(0, .ref (b + a0)), (1, .int x1), (2, .int x2), (3, .int x3)] → W p l e RM_X8_like s m args below meth c H locs 0 0 Q (F0 m 0 ls []) := by
  intro a0 x1 x2 x3 h hf H locs ls S hl
  unfold f_X8_like_e at hf
  have hx := X.1
  have hb := X.2.1
  refine lv_aload_n hx hb dX8_like_0 rfl (lv_at hl 0 rfl) ?_
  obtain ⟨r1, e_r1, hf⟩ := ob hf
  refine r_getR X S fl_X8_19 e_r1 dX8_like_1 ?_
  refine lv_iload_n hx hb dX8_like_4 rfl (lv_at hl 1 rfl) ?_
  obtain ⟨q2, e_q2, hf⟩ := ob hf
  refine r_callV X S hl.1 (As := [.int x1]) (rest := []) (c_X3_hasPerson e_q2) my_X3_hasPerson mv_X3_hasPerson ml_X8_139 rfl (o_X3_hasPerson e_q2) ⟨rfl, rfl, Nat.le_of_ble_eq_true rfl, Nat.le_of_ble_eq_true rfl⟩ rfl rfl (Nat.le_of_ble_eq_true rfl) dX8_like_5 ⟨Nat.le_of_ble_eq_true rfl, Nat.le_of_ble_eq_true rfl⟩ (fun H locs S => ?_)
  refine W.eq (g2 := F0 m 8 ls [.int q2.1]) rfl ?_
  refine lv_if_eq (tgt := 22) hx hb dX8_like_8 (by decide) (fun hc => ?_) (fun hc => ?_)
  · replace hf := ip hf hc
    exact w_X8_like_b22 X Z  _ hf _ _ _ S (lv_sub hl [] rfl)
  · replace hf := im hf hc
    refine lv_aload_n hx hb dX8_like_11 rfl (lv_at hl 0 rfl) ?_
    obtain ⟨r3, e_r3, hf⟩ := ob hf
    refine r_getR X S fl_X8_19 e_r3 dX8_like_12 ?_
    refine lv_iload_n hx hb dX8_like_15 rfl (lv_at hl 2 rfl) ?_
    obtain ⟨q4, e_q4, hf⟩ := ob hf
    refine r_callV X S hl.1 (As := [.int x2]) (rest := []) (c_X3_hasRoom e_q4) my_X3_hasRoom mv_X3_hasRoom ml_X8_172 rfl (o_X3_hasRoom e_q4) ⟨rfl, rfl, Nat.le_of_ble_eq_true rfl, Nat.le_of_ble_eq_true rfl⟩ rfl rfl (Nat.le_of_ble_eq_true rfl) dX8_like_16 ⟨Nat.le_of_ble_eq_true rfl, Nat.le_of_ble_eq_true rfl⟩ (fun H locs S => ?_)
    refine W.eq (g2 := F0 m 19 ls [.int q4.1]) rfl ?_
    refine lv_if_ne (tgt := 25) hx hb dX8_like_19 (by decide) (fun hc => ?_) (fun hc => ?_)
    · replace hf := im hf hc
      refine lv_iload_n hx hb dX8_like_25 rfl (lv_at hl 3 rfl) ?_
      refine lv_if_lt (tgt := 35) hx hb dX8_like_26 (by decide) (fun hc => ?_) (fun hc => ?_)
      · replace hf := ip hf hc
        exact w_X8_like_b35 X Z  _ hf _ _ _ S (lv_sub hl [] rfl)
      · replace hf := im hf hc
        refine lv_iload_n hx hb dX8_like_29 rfl (lv_at hl 3 rfl) ?_
        refine lv_bipush (v := 8) hx hb dX8_like_30 (by decide) ?_
        refine lv_icmp_lt (tgt := 38) hx hb dX8_like_32 (by decide) (fun hc => ?_) (fun hc => ?_)
        · replace hf := ip hf hc
          refine lv_aload_n hx hb dX8_like_38 rfl (lv_at hl 0 rfl) ?_
          obtain ⟨r5, e_r5, hf⟩ := ob hf
          refine r_getR X S fl_X8_43 e_r5 dX8_like_39 ?_
          refine lv_aload_n hx hb dX8_like_42 rfl (lv_at hl 0 rfl) ?_
          obtain ⟨r6, e_r6, hf⟩ := ob hf
          refine r_getR X S fl_X8_19 e_r6 dX8_like_43 ?_
          obtain ⟨h7, e_h7, hf⟩ := ob hf
          refine r_callV X S hl.1 (As := [.ref (b + r6)]) (rest := []) (c_X6_push e_h7) my_X6_push mv_X6_push ml_X8_182 rfl (o_X6_push e_h7) ⟨rfl, rfl, Nat.le_of_ble_eq_true rfl, Nat.le_of_ble_eq_true rfl⟩ rfl rfl (Nat.le_of_ble_eq_true rfl) dX8_like_46 ⟨Nat.le_of_ble_eq_true rfl, Nat.le_of_ble_eq_true rfl⟩ (fun H locs S => ?_)
          refine W.eq (g2 := F0 m 49 ls []) rfl ?_
          refine lv_aload_n hx hb dX8_like_49 rfl (lv_at hl 0 rfl) ?_
          obtain ⟨r8, e_r8, hf⟩ := ob hf
          refine r_getR X S fl_X8_19 e_r8 dX8_like_50 ?_
          refine lv_iload_n hx hb dX8_like_53 rfl (lv_at hl 1 rfl) ?_
          refine lv_iload_n hx hb dX8_like_54 rfl (lv_at hl 2 rfl) ?_
          refine lv_iload_n hx hb dX8_like_55 rfl (lv_at hl 3 rfl) ?_
          obtain ⟨h9, e_h9, hf⟩ := ob hf
          refine r_callV X S hl.1 (As := [.int x1, .int x2, .int x3]) (rest := []) (c_X3_putLiking e_h9) my_X3_putLiking mv_X3_putLiking ml_X8_185 rfl (o_X3_putLiking e_h9) ⟨rfl, rfl, Nat.le_of_ble_eq_true rfl, Nat.le_of_ble_eq_true rfl⟩ rfl rfl (Nat.le_of_ble_eq_true rfl) dX8_like_56 ⟨Nat.le_of_ble_eq_true rfl, Nat.le_of_ble_eq_true rfl⟩ (fun H locs S => ?_)
          refine W.eq (g2 := F0 m 59 ls []) rfl ?_
          refine lv_aload_n hx hb dX8_like_59 rfl (lv_at hl 0 rfl) ?_
          obtain ⟨r10, e_r10, hf⟩ := ob hf
          refine r_getR X S fl_X8_19 e_r10 dX8_like_60 ?_
          refine lv_iload_n hx hb dX8_like_63 rfl (lv_at hl 1 rfl) ?_
          obtain ⟨q11, e_q11, hf⟩ := ob hf
          refine r_callV X S hl.1 (As := [.int x1]) (rest := []) (c_X3_amount e_q11) my_X3_amount mv_X3_amount ml_X8_147 rfl (o_X3_amount e_q11) ⟨rfl, rfl, Nat.le_of_ble_eq_true rfl, Nat.le_of_ble_eq_true rfl⟩ rfl rfl (Nat.le_of_ble_eq_true rfl) dX8_like_64 ⟨Nat.le_of_ble_eq_true rfl, Nat.le_of_ble_eq_true rfl⟩ (fun H locs S => ?_)
          refine W.eq (g2 := F0 m 67 ls [.int q11.1]) rfl ?_
          obtain rfl := Option.some.inj hf
          exact Z _ _ _ _ dX8_like_67 S
        · replace hf := im hf hc
          exact w_X8_like_b35 X Z  _ hf _ _ _ S (lv_sub hl [] rfl)
    · replace hf := ip hf hc
      exact w_X8_like_b22 X Z  _ hf _ _ _ S (lv_sub hl [] rfl)
def f_X8_like (a0 : Nat) (x1 : Int32) (x2 : Int32) (x3 : Int32) (h : HP) : Option (Int32 × HP) := ck h a0 8 (f_X8_like_e a0 x1 x2 x3 h)
theorem o_X8_like {a0 : Nat} {x1 : Int32} {x2 : Int32} {x3 : Int32} {h : HP} {out : Int32 × HP} (hf : f_X8_like a0 x1 x2 x3 h = some out) : ∃ fs, h[a0]? = some (.inl (8, fs)) := (ck_spec hf).1
set_option maxRecDepth 100000 in
theorem c_X8_like {l : Launch} {G : GT} {b : Nat} {a0 : Nat} {x1 : Int32} {x2 : Int32} {x3 : Int32} {h : HP} {out : Int32 × HP} (hf : f_X8_like a0 x1 x2 x3 h = some out) : MT l G b False False yX8_like cX8_like 4 (some .int) RM_X8_like [.ref (b + a0), .int x1, .int x2, .int x3] h (some (.int out.1)) out.2 0 0 := by
  refine met_of (by decide) (Nat.le_of_ble_eq_true rfl) ?_
  intro p e s m below meth c ls X hnm S hl
  have hl : lv_has ls 4 [(0, .ref (b + a0)), (1, .int x1), (2, .int x2), (3, .int x3)] := hl
  replace hf := (ck_spec hf).2
  exact w_X8_like_e X (z_i X) _ _ _ _ _ hf _ _ _ S hl
end M08
