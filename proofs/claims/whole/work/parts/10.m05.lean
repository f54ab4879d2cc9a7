section M05
variable {p : Program} {l : Launch} {e : Env} {s : State} {m : MethodId} {args : Array Value} {below : List Frame} {meth : Method} {c : Code} {Q : State → Prop} {G : GT} {b : Nat}
/-! RoomRings$Past.<init>()V -/
abbrev RM_X6_init : Room := { frames := 2, cells := 101, slots := 1460, locals := 32 }
def f_X6_init_e  (a0 : Nat) (h : HP) : Option (HP) :=
  (pR (hpush h (.inr (.inr (false, 20, fun _ => none)))) a0 6 1 (List.length h)).bind fun h1 =>
  (gR h1 a0 6 1).bind fun r2 =>
  (alen h1 r2).bind fun v3 =>
  if v3 ≤ 0 then
    none
  else
    (gR h1 a0 6 1).bind fun r4 =>
    (f_X3_init (List.length h1) (hpush h1 (.inl (3, [.inl 0, .inl 0, .inr none, .inr none, .inr none, .inr none])))).bind fun h5 =>
    (qst h5 r4 0 (List.length h1)).bind fun h6 =>
    (gR h6 a0 6 1).bind fun r7 =>
    (alen h6 r7).bind fun v8 =>
    if v8 ≤ 1 then
      none
    else
      (gR h6 a0 6 1).bind fun r9 =>
      (f_X3_init (List.length h6) (hpush h6 (.inl (3, [.inl 0, .inl 0, .inr none, .inr none, .inr none, .inr none])))).bind fun h10 =>
      (qst h10 r9 1 (List.length h6)).bind fun h11 =>
      (gR h11 a0 6 1).bind fun r12 =>
      (alen h11 r12).bind fun v13 =>
      if v13 ≤ 2 then
        none
      else
        (gR h11 a0 6 1).bind fun r14 =>
        (f_X3_init (List.length h11) (hpush h11 (.inl (3, [.inl 0, .inl 0, .inr none, .inr none, .inr none, .inr none])))).bind fun h15 =>
        (qst h15 r14 2 (List.length h11)).bind fun h16 =>
        (gR h16 a0 6 1).bind fun r17 =>
        (alen h16 r17).bind fun v18 =>
        if v18 ≤ 3 then
          none
        else
          (gR h16 a0 6 1).bind fun r19 =>
          (f_X3_init (List.length h16) (hpush h16 (.inl (3, [.inl 0, .inl 0, .inr none, .inr none, .inr none, .inr none])))).bind fun h20 =>
          (qst h20 r19 3 (List.length h16)).bind fun h21 =>
          (gR h21 a0 6 1).bind fun r22 =>
          (alen h21 r22).bind fun v23 =>
          if v23 ≤ 4 then
            none
          else
            (gR h21 a0 6 1).bind fun r24 =>
            (f_X3_init (List.length h21) (hpush h21 (.inl (3, [.inl 0, .inl 0, .inr none, .inr none, .inr none, .inr none])))).bind fun h25 =>
            (qst h25 r24 4 (List.length h21)).bind fun h26 =>
            (gR h26 a0 6 1).bind fun r27 =>
            (alen h26 r27).bind fun v28 =>
            if v28 ≤ 5 then
              none
            else
              (gR h26 a0 6 1).bind fun r29 =>
              (f_X3_init (List.length h26) (hpush h26 (.inl (3, [.inl 0, .inl 0, .inr none, .inr none, .inr none, .inr none])))).bind fun h30 =>
              (qst h30 r29 5 (List.length h26)).bind fun h31 =>
              (gR h31 a0 6 1).bind fun r32 =>
              (alen h31 r32).bind fun v33 =>
              if v33 ≤ 6 then
                none
              else
                (gR h31 a0 6 1).bind fun r34 =>
                (f_X3_init (List.length h31) (hpush h31 (.inl (3, [.inl 0, .inl 0, .inr none, .inr none, .inr none, .inr none])))).bind fun h35 =>
                (qst h35 r34 6 (List.length h31)).bind fun h36 =>
                (gR h36 a0 6 1).bind fun r37 =>
                (alen h36 r37).bind fun v38 =>
                if v38 ≤ 7 then
                  none
                else
                  (gR h36 a0 6 1).bind fun r39 =>
                  (f_X3_init (List.length h36) (hpush h36 (.inl (3, [.inl 0, .inl 0, .inr none, .inr none, .inr none, .inr none])))).bind fun h40 =>
                  (qst h40 r39 7 (List.length h36)).bind fun h41 =>
                  (gR h41 a0 6 1).bind fun r42 =>
                  (alen h41 r42).bind fun v43 =>
                  if v43 ≤ 8 then
                    none
                  else
                    (gR h41 a0 6 1).bind fun r44 =>
                    (f_X3_init (List.length h41) (hpush h41 (.inl (3, [.inl 0, .inl 0, .inr none, .inr none, .inr none, .inr none])))).bind fun h45 =>
                    (qst h45 r44 8 (List.length h41)).bind fun h46 =>
                    (gR h46 a0 6 1).bind fun r47 =>
                    (alen h46 r47).bind fun v48 =>
                    if v48 ≤ 9 then
                      none
                    else
                      (gR h46 a0 6 1).bind fun r49 =>
                      (f_X3_init (List.length h46) (hpush h46 (.inl (3, [.inl 0, .inl 0, .inr none, .inr none, .inr none, .inr none])))).bind fun h50 =>
                      (qst h50 r49 9 (List.length h46)).bind fun h51 =>
                      (gR h51 a0 6 1).bind fun r52 =>
                      (alen h51 r52).bind fun v53 =>
                      if v53 ≤ 10 then
                        none
                      else
                        (gR h51 a0 6 1).bind fun r54 =>
                        (f_X3_init (List.length h51) (hpush h51 (.inl (3, [.inl 0, .inl 0, .inr none, .inr none, .inr none, .inr none])))).bind fun h55 =>
                        (qst h55 r54 10 (List.length h51)).bind fun h56 =>
                        (gR h56 a0 6 1).bind fun r57 =>
                        (alen h56 r57).bind fun v58 =>
                        if v58 ≤ 11 then
                          none
                        else
                          (gR h56 a0 6 1).bind fun r59 =>
                          (f_X3_init (List.length h56) (hpush h56 (.inl (3, [.inl 0, .inl 0, .inr none, .inr none, .inr none, .inr none])))).bind fun h60 =>
                          (qst h60 r59 11 (List.length h56)).bind fun h61 =>
                          (gR h61 a0 6 1).bind fun r62 =>
                          (alen h61 r62).bind fun v63 =>
                          if v63 ≤ 12 then
                            none
                          else
                            (gR h61 a0 6 1).bind fun r64 =>
                            (f_X3_init (List.length h61) (hpush h61 (.inl (3, [.inl 0, .inl 0, .inr none, .inr none, .inr none, .inr none])))).bind fun h65 =>
                            (qst h65 r64 12 (List.length h61)).bind fun h66 =>
                            (gR h66 a0 6 1).bind fun r67 =>
                            (alen h66 r67).bind fun v68 =>
                            if v68 ≤ 13 then
                              none
                            else
                              (gR h66 a0 6 1).bind fun r69 =>
                              (f_X3_init (List.length h66) (hpush h66 (.inl (3, [.inl 0, .inl 0, .inr none, .inr none, .inr none, .inr none])))).bind fun h70 =>
                              (qst h70 r69 13 (List.length h66)).bind fun h71 =>
                              (gR h71 a0 6 1).bind fun r72 =>
                              (alen h71 r72).bind fun v73 =>
                              if v73 ≤ 14 then
                                none
                              else
                                (gR h71 a0 6 1).bind fun r74 =>
                                (f_X3_init (List.length h71) (hpush h71 (.inl (3, [.inl 0, .inl 0, .inr none, .inr none, .inr none, .inr none])))).bind fun h75 =>
                                (qst h75 r74 14 (List.length h71)).bind fun h76 =>
                                (gR h76 a0 6 1).bind fun r77 =>
                                (alen h76 r77).bind fun v78 =>
                                if v78 ≤ 15 then
                                  none
                                else
                                  (gR h76 a0 6 1).bind fun r79 =>
                                  (f_X3_init (List.length h76) (hpush h76 (.inl (3, [.inl 0, .inl 0, .inr none, .inr none, .inr none, .inr none])))).bind fun h80 =>
                                  (qst h80 r79 15 (List.length h76)).bind fun h81 =>
                                  (gR h81 a0 6 1).bind fun r82 =>
                                  (alen h81 r82).bind fun v83 =>
                                  if v83 ≤ 16 then
                                    none
                                  else
                                    (gR h81 a0 6 1).bind fun r84 =>
                                    (f_X3_init (List.length h81) (hpush h81 (.inl (3, [.inl 0, .inl 0, .inr none, .inr none, .inr none, .inr none])))).bind fun h85 =>
                                    (qst h85 r84 16 (List.length h81)).bind fun h86 =>
                                    (gR h86 a0 6 1).bind fun r87 =>
                                    (alen h86 r87).bind fun v88 =>
                                    if v88 ≤ 17 then
                                      none
                                    else
                                      (gR h86 a0 6 1).bind fun r89 =>
                                      (f_X3_init (List.length h86) (hpush h86 (.inl (3, [.inl 0, .inl 0, .inr none, .inr none, .inr none, .inr none])))).bind fun h90 =>
                                      (qst h90 r89 17 (List.length h86)).bind fun h91 =>
                                      (gR h91 a0 6 1).bind fun r92 =>
                                      (alen h91 r92).bind fun v93 =>
                                      if v93 ≤ 18 then
                                        none
                                      else
                                        (gR h91 a0 6 1).bind fun r94 =>
                                        (f_X3_init (List.length h91) (hpush h91 (.inl (3, [.inl 0, .inl 0, .inr none, .inr none, .inr none, .inr none])))).bind fun h95 =>
                                        (qst h95 r94 18 (List.length h91)).bind fun h96 =>
                                        (gR h96 a0 6 1).bind fun r97 =>
                                        (alen h96 r97).bind fun v98 =>
                                        if v98 ≤ 19 then
                                          none
                                        else
                                          (gR h96 a0 6 1).bind fun r99 =>
                                          (f_X3_init (List.length h96) (hpush h96 (.inl (3, [.inl 0, .inl 0, .inr none, .inr none, .inr none, .inr none])))).bind fun h100 =>
                                          (qst h100 r99 19 (List.length h96)).bind fun h101 =>
                                          (gR h101 a0 6 1).bind fun r102 =>
                                          (alen h101 r102).bind fun v103 =>
                                          if v103 ≤ 20 then
                                            some h101
                                          else
                                            none
set_option maxRecDepth 100000 in
set_option maxHeartbeats 4000000 in
theorem w_X6_init_e (X : CX RX6 cX6_init 2 none p s m args meth c G b) (hnm : meth.name = "<init>") {out : HP} (Z : ZV p l e RM_X6_init s m args below meth c cX6_init G b True 101 1460 Q out)  : ∀ (a0 : Nat) (h : HP), f_X6_init_e  a0 h = some out → ∀ (H : Heap) (locs : List Loc) (ls : Array Slot), ST G b True s h H locs → lv_has ls 2 [(0, .ref (b + a0))] → W p l e RM_X6_init s m args below meth c H locs 0 0 Q (F0 m 0 ls []) := by
  intro a0 h hf H locs ls S hl
  unfold f_X6_init_e at hf
  have hx := X.1
  have hb := X.2.1
  refine lv_aload_n hx hb dX6_init_0 rfl (lv_at hl 0 rfl) ?_
  refine W.objInit hx hb X.2.2.2.1 (X.2.2.2.2.1 _ ml_X6_3) (X.2.2.2.2.1 _ oi_i) (X.2.2.2.2.1 _ oi_c) rfl (by rw [X.2.2.1]; exact hl.1) rfl dX6_init_1 (Nat.le_of_ble_eq_true rfl) (Nat.le_of_ble_eq_true rfl) ?_
  refine W.eq (g2 := F0 m 4 ls []) rfl ?_
  refine lv_aload_n hx hb dX6_init_4 rfl (lv_at hl 0 rfl) ?_
  refine lv_bipush (v := 20) hx hb dX6_init_5 (by decide) ?_
  refine r_newQ (N := 20) X S false kl_X6_9 (by decide) (by decide) (by decide) (Nat.le_of_ble_eq_true rfl) (Nat.le_of_ble_eq_true rfl) dX6_init_7 (fun H locs S => ?_)
  refine W.widen (k := 1) (n := 20) (Nat.le_of_ble_eq_true rfl) (Nat.le_of_ble_eq_true rfl) ?_
  obtain ⟨h1, e_h1, hf⟩ := ob hf
  refine r_put X S fp_X6_11 (fun _ => hnm) rfl rfl rfl e_h1 dX6_init_10 (fun H locs S => ?_)
  refine lv_iconst (v := 0) hx hb dX6_init_13 (by decide) ?_
  refine lv_istore_n (lv' := [(1, .int 0), (0, .ref (b + a0))]) hx hb dX6_init_14 rfl hl (by decide) rfl (fun ls hl => ?_)
  refine lv_iload_n hx hb dX6_init_15 rfl (lv_at hl 0 rfl) ?_
  refine lv_aload_n hx hb dX6_init_16 rfl (lv_at hl 1 rfl) ?_
  obtain ⟨r2, e_r2, hf⟩ := ob hf
  refine r_getR X S fl_X6_11 e_r2 dX6_init_17 ?_
  obtain ⟨v3, e_v3, hf⟩ := ob hf
  refine r_alen X S e_v3 dX6_init_20 ?_
  refine lv_icmp_ge (tgt := 43) hx hb dX6_init_21 (by decide) (fun hc => ?_) (fun hc => ?_)
  · replace hf := ip hf hc
    exact nn hf
  · replace hf := im hf hc
    refine lv_aload_n hx hb dX6_init_24 rfl (lv_at hl 1 rfl) ?_
    obtain ⟨r4, e_r4, hf⟩ := ob hf
    refine r_getR X S fl_X6_11 e_r4 dX6_init_25 ?_
    refine lv_iload_n hx hb dX6_init_28 rfl (lv_at hl 0 rfl) ?_
    refine r_new X S nw_X6_9 (Nat.le_of_ble_eq_true rfl) (Nat.le_of_ble_eq_true rfl) dX6_init_29 (fun H locs S => ?_)
    refine W.widen (k := 2) (n := 26) (Nat.le_of_ble_eq_true rfl) (Nat.le_of_ble_eq_true rfl) ?_
    refine lv_dup hx hb dX6_init_32 rfl ?_
    obtain ⟨h5, e_h5, hf⟩ := ob hf
    refine r_callIN X S hl.1 (As := []) (rest := [.ref (b + (List.length h1)), .int 0, .ref (b + r4)]) (c_X3_init e_h5) my_X3_init rfl mi_X3_init nl_X6_17 ⟨rfl, rfl, Nat.le_of_ble_eq_true rfl, Nat.le_of_ble_eq_true rfl⟩ rfl rfl (Nat.le_of_ble_eq_true rfl) dX6_init_33 ⟨Nat.le_of_ble_eq_true rfl, Nat.le_of_ble_eq_true rfl⟩ (fun H locs S => ?_)
    refine W.eq (g2 := F0 m 36 ls [.ref (b + (List.length h1)), .int 0, .ref (b + r4)]) rfl ?_
    refine W.widen (k := 6) (n := 92) (Nat.le_of_ble_eq_true rfl) (Nat.le_of_ble_eq_true rfl) ?_
    obtain ⟨h6, e_h6, hf⟩ := ob hf
    refine r_qst X S e_h6 dX6_init_36 (fun H locs S => ?_)
    refine lv_iinc (v := 1) (lv' := [(1, .int 1), (0, .ref (b + a0))]) hx hb dX6_init_37 hl (k := 0) rfl rfl (by decide) rfl (fun ls hl => ?_)
    refine lv_goto (tgt := 15) hx hb dX6_init_40 (by decide) ?_
    refine lv_iload_n hx hb dX6_init_15 rfl (lv_at hl 0 rfl) ?_
    refine lv_aload_n hx hb dX6_init_16 rfl (lv_at hl 1 rfl) ?_
    obtain ⟨r7, e_r7, hf⟩ := ob hf
    refine r_getR X S fl_X6_11 e_r7 dX6_init_17 ?_
    obtain ⟨v8, e_v8, hf⟩ := ob hf
    refine r_alen X S e_v8 dX6_init_20 ?_
    refine lv_icmp_ge (tgt := 43) hx hb dX6_init_21 (by decide) (fun hc => ?_) (fun hc => ?_)
    · replace hf := ip hf hc
      exact nn hf
    · replace hf := im hf hc
      refine lv_aload_n hx hb dX6_init_24 rfl (lv_at hl 1 rfl) ?_
      obtain ⟨r9, e_r9, hf⟩ := ob hf
      refine r_getR X S fl_X6_11 e_r9 dX6_init_25 ?_
      refine lv_iload_n hx hb dX6_init_28 rfl (lv_at hl 0 rfl) ?_
      refine r_new X S nw_X6_9 (Nat.le_of_ble_eq_true rfl) (Nat.le_of_ble_eq_true rfl) dX6_init_29 (fun H locs S => ?_)
      refine W.widen (k := 7) (n := 98) (Nat.le_of_ble_eq_true rfl) (Nat.le_of_ble_eq_true rfl) ?_
      refine lv_dup hx hb dX6_init_32 rfl ?_
      obtain ⟨h10, e_h10, hf⟩ := ob hf
      refine r_callIN X S hl.1 (As := []) (rest := [.ref (b + (List.length h6)), .int 1, .ref (b + r9)]) (c_X3_init e_h10) my_X3_init rfl mi_X3_init nl_X6_17 ⟨rfl, rfl, Nat.le_of_ble_eq_true rfl, Nat.le_of_ble_eq_true rfl⟩ rfl rfl (Nat.le_of_ble_eq_true rfl) dX6_init_33 ⟨Nat.le_of_ble_eq_true rfl, Nat.le_of_ble_eq_true rfl⟩ (fun H locs S => ?_)
      refine W.eq (g2 := F0 m 36 ls [.ref (b + (List.length h6)), .int 1, .ref (b + r9)]) rfl ?_
      refine W.widen (k := 11) (n := 164) (Nat.le_of_ble_eq_true rfl) (Nat.le_of_ble_eq_true rfl) ?_
      obtain ⟨h11, e_h11, hf⟩ := ob hf
      refine r_qst X S e_h11 dX6_init_36 (fun H locs S => ?_)
      refine lv_iinc (v := 2) (lv' := [(1, .int 2), (0, .ref (b + a0))]) hx hb dX6_init_37 hl (k := 0) rfl rfl (by decide) rfl (fun ls hl => ?_)
      refine lv_goto (tgt := 15) hx hb dX6_init_40 (by decide) ?_
      refine lv_iload_n hx hb dX6_init_15 rfl (lv_at hl 0 rfl) ?_
      refine lv_aload_n hx hb dX6_init_16 rfl (lv_at hl 1 rfl) ?_
      obtain ⟨r12, e_r12, hf⟩ := ob hf
      refine r_getR X S fl_X6_11 e_r12 dX6_init_17 ?_
      obtain ⟨v13, e_v13, hf⟩ := ob hf
      refine r_alen X S e_v13 dX6_init_20 ?_
      refine lv_icmp_ge (tgt := 43) hx hb dX6_init_21 (by decide) (fun hc => ?_) (fun hc => ?_)
      · replace hf := ip hf hc
        exact nn hf
      · replace hf := im hf hc
        refine lv_aload_n hx hb dX6_init_24 rfl (lv_at hl 1 rfl) ?_
        obtain ⟨r14, e_r14, hf⟩ := ob hf
        refine r_getR X S fl_X6_11 e_r14 dX6_init_25 ?_
        refine lv_iload_n hx hb dX6_init_28 rfl (lv_at hl 0 rfl) ?_
        refine r_new X S nw_X6_9 (Nat.le_of_ble_eq_true rfl) (Nat.le_of_ble_eq_true rfl) dX6_init_29 (fun H locs S => ?_)
        refine W.widen (k := 12) (n := 170) (Nat.le_of_ble_eq_true rfl) (Nat.le_of_ble_eq_true rfl) ?_
        refine lv_dup hx hb dX6_init_32 rfl ?_
        obtain ⟨h15, e_h15, hf⟩ := ob hf
        refine r_callIN X S hl.1 (As := []) (rest := [.ref (b + (List.length h11)), .int 2, .ref (b + r14)]) (c_X3_init e_h15) my_X3_init rfl mi_X3_init nl_X6_17 ⟨rfl, rfl, Nat.le_of_ble_eq_true rfl, Nat.le_of_ble_eq_true rfl⟩ rfl rfl (Nat.le_of_ble_eq_true rfl) dX6_init_33 ⟨Nat.le_of_ble_eq_true rfl, Nat.le_of_ble_eq_true rfl⟩ (fun H locs S => ?_)
        refine W.eq (g2 := F0 m 36 ls [.ref (b + (List.length h11)), .int 2, .ref (b + r14)]) rfl ?_
        refine W.widen (k := 16) (n := 236) (Nat.le_of_ble_eq_true rfl) (Nat.le_of_ble_eq_true rfl) ?_
        obtain ⟨h16, e_h16, hf⟩ := ob hf
        refine r_qst X S e_h16 dX6_init_36 (fun H locs S => ?_)
        refine lv_iinc (v := 3) (lv' := [(1, .int 3), (0, .ref (b + a0))]) hx hb dX6_init_37 hl (k := 0) rfl rfl (by decide) rfl (fun ls hl => ?_)
        refine lv_goto (tgt := 15) hx hb dX6_init_40 (by decide) ?_
        refine lv_iload_n hx hb dX6_init_15 rfl (lv_at hl 0 rfl) ?_
        refine lv_aload_n hx hb dX6_init_16 rfl (lv_at hl 1 rfl) ?_
        obtain ⟨r17, e_r17, hf⟩ := ob hf
        refine r_getR X S fl_X6_11 e_r17 dX6_init_17 ?_
        obtain ⟨v18, e_v18, hf⟩ := ob hf
        refine r_alen X S e_v18 dX6_init_20 ?_
        refine lv_icmp_ge (tgt := 43) hx hb dX6_init_21 (by decide) (fun hc => ?_) (fun hc => ?_)
        · replace hf := ip hf hc
          exact nn hf
        · replace hf := im hf hc
          refine lv_aload_n hx hb dX6_init_24 rfl (lv_at hl 1 rfl) ?_
          obtain ⟨r19, e_r19, hf⟩ := ob hf
          refine r_getR X S fl_X6_11 e_r19 dX6_init_25 ?_
          refine lv_iload_n hx hb dX6_init_28 rfl (lv_at hl 0 rfl) ?_
          refine r_new X S nw_X6_9 (Nat.le_of_ble_eq_true rfl) (Nat.le_of_ble_eq_true rfl) dX6_init_29 (fun H locs S => ?_)
          refine W.widen (k := 17) (n := 242) (Nat.le_of_ble_eq_true rfl) (Nat.le_of_ble_eq_true rfl) ?_
          refine lv_dup hx hb dX6_init_32 rfl ?_
          obtain ⟨h20, e_h20, hf⟩ := ob hf
          refine r_callIN X S hl.1 (As := []) (rest := [.ref (b + (List.length h16)), .int 3, .ref (b + r19)]) (c_X3_init e_h20) my_X3_init rfl mi_X3_init nl_X6_17 ⟨rfl, rfl, Nat.le_of_ble_eq_true rfl, Nat.le_of_ble_eq_true rfl⟩ rfl rfl (Nat.le_of_ble_eq_true rfl) dX6_init_33 ⟨Nat.le_of_ble_eq_true rfl, Nat.le_of_ble_eq_true rfl⟩ (fun H locs S => ?_)
          refine W.eq (g2 := F0 m 36 ls [.ref (b + (List.length h16)), .int 3, .ref (b + r19)]) rfl ?_
          refine W.widen (k := 21) (n := 308) (Nat.le_of_ble_eq_true rfl) (Nat.le_of_ble_eq_true rfl) ?_
          obtain ⟨h21, e_h21, hf⟩ := ob hf
          refine r_qst X S e_h21 dX6_init_36 (fun H locs S => ?_)
          refine lv_iinc (v := 4) (lv' := [(1, .int 4), (0, .ref (b + a0))]) hx hb dX6_init_37 hl (k := 0) rfl rfl (by decide) rfl (fun ls hl => ?_)
          refine lv_goto (tgt := 15) hx hb dX6_init_40 (by decide) ?_
          refine lv_iload_n hx hb dX6_init_15 rfl (lv_at hl 0 rfl) ?_
          refine lv_aload_n hx hb dX6_init_16 rfl (lv_at hl 1 rfl) ?_
          obtain ⟨r22, e_r22, hf⟩ := ob hf
          refine r_getR X S fl_X6_11 e_r22 dX6_init_17 ?_
          obtain ⟨v23, e_v23, hf⟩ := ob hf
          refine r_alen X S e_v23 dX6_init_20 ?_
          refine lv_icmp_ge (tgt := 43) hx hb dX6_init_21 (by decide) (fun hc => ?_) (fun hc => ?_)
          · replace hf := ip hf hc
            exact nn hf
          · replace hf := im hf hc
            refine lv_aload_n hx hb dX6_init_24 rfl (lv_at hl 1 rfl) ?_
            obtain ⟨r24, e_r24, hf⟩ := ob hf
            refine r_getR X S fl_X6_11 e_r24 dX6_init_25 ?_
            refine lv_iload_n hx hb dX6_init_28 rfl (lv_at hl 0 rfl) ?_
            refine r_new X S nw_X6_9 (Nat.le_of_ble_eq_true rfl) (Nat.le_of_ble_eq_true rfl) dX6_init_29 (fun H locs S => ?_)
            refine W.widen (k := 22) (n := 314) (Nat.le_of_ble_eq_true rfl) (Nat.le_of_ble_eq_true rfl) ?_
            refine lv_dup hx hb dX6_init_32 rfl ?_
            obtain ⟨h25, e_h25, hf⟩ := ob hf
            refine r_callIN X S hl.1 (As := []) (rest := [.ref (b + (List.length h21)), .int 4, .ref (b + r24)]) (c_X3_init e_h25) my_X3_init rfl mi_X3_init nl_X6_17 ⟨rfl, rfl, Nat.le_of_ble_eq_true rfl, Nat.le_of_ble_eq_true rfl⟩ rfl rfl (Nat.le_of_ble_eq_true rfl) dX6_init_33 ⟨Nat.le_of_ble_eq_true rfl, Nat.le_of_ble_eq_true rfl⟩ (fun H locs S => ?_)
            refine W.eq (g2 := F0 m 36 ls [.ref (b + (List.length h21)), .int 4, .ref (b + r24)]) rfl ?_
            refine W.widen (k := 26) (n := 380) (Nat.le_of_ble_eq_true rfl) (Nat.le_of_ble_eq_true rfl) ?_
            obtain ⟨h26, e_h26, hf⟩ := ob hf
            refine r_qst X S e_h26 dX6_init_36 (fun H locs S => ?_)
            refine lv_iinc (v := 5) (lv' := [(1, .int 5), (0, .ref (b + a0))]) hx hb dX6_init_37 hl (k := 0) rfl rfl (by decide) rfl (fun ls hl => ?_)
            refine lv_goto (tgt := 15) hx hb dX6_init_40 (by decide) ?_
            refine lv_iload_n hx hb dX6_init_15 rfl (lv_at hl 0 rfl) ?_
            refine lv_aload_n hx hb dX6_init_16 rfl (lv_at hl 1 rfl) ?_
            obtain ⟨r27, e_r27, hf⟩ := ob hf
            refine r_getR X S fl_X6_11 e_r27 dX6_init_17 ?_
            obtain ⟨v28, e_v28, hf⟩ := ob hf
            refine r_alen X S e_v28 dX6_init_20 ?_
            refine lv_icmp_ge (tgt := 43) hx hb dX6_init_21 (by decide) (fun hc => ?_) (fun hc => ?_)
            · replace hf := ip hf hc
              exact nn hf
            · replace hf := im hf hc
              refine lv_aload_n hx hb dX6_init_24 rfl (lv_at hl 1 rfl) ?_
              obtain ⟨r29, e_r29, hf⟩ := ob hf
              refine r_getR X S fl_X6_11 e_r29 dX6_init_25 ?_
              refine lv_iload_n hx hb dX6_init_28 rfl (lv_at hl 0 rfl) ?_
              refine r_new X S nw_X6_9 (Nat.le_of_ble_eq_true rfl) (Nat.le_of_ble_eq_true rfl) dX6_init_29 (fun H locs S => ?_)
              refine W.widen (k := 27) (n := 386) (Nat.le_of_ble_eq_true rfl) (Nat.le_of_ble_eq_true rfl) ?_
              refine lv_dup hx hb dX6_init_32 rfl ?_
              obtain ⟨h30, e_h30, hf⟩ := ob hf
              refine r_callIN X S hl.1 (As := []) (rest := [.ref (b + (List.length h26)), .int 5, .ref (b + r29)]) (c_X3_init e_h30) my_X3_init rfl mi_X3_init nl_X6_17 ⟨rfl, rfl, Nat.le_of_ble_eq_true rfl, Nat.le_of_ble_eq_true rfl⟩ rfl rfl (Nat.le_of_ble_eq_true rfl) dX6_init_33 ⟨Nat.le_of_ble_eq_true rfl, Nat.le_of_ble_eq_true rfl⟩ (fun H locs S => ?_)
              refine W.eq (g2 := F0 m 36 ls [.ref (b + (List.length h26)), .int 5, .ref (b + r29)]) rfl ?_
              refine W.widen (k := 31) (n := 452) (Nat.le_of_ble_eq_true rfl) (Nat.le_of_ble_eq_true rfl) ?_
              obtain ⟨h31, e_h31, hf⟩ := ob hf
              refine r_qst X S e_h31 dX6_init_36 (fun H locs S => ?_)
              refine lv_iinc (v := 6) (lv' := [(1, .int 6), (0, .ref (b + a0))]) hx hb dX6_init_37 hl (k := 0) rfl rfl (by decide) rfl (fun ls hl => ?_)
              refine lv_goto (tgt := 15) hx hb dX6_init_40 (by decide) ?_
              refine lv_iload_n hx hb dX6_init_15 rfl (lv_at hl 0 rfl) ?_
              refine lv_aload_n hx hb dX6_init_16 rfl (lv_at hl 1 rfl) ?_
              obtain ⟨r32, e_r32, hf⟩ := ob hf
              refine r_getR X S fl_X6_11 e_r32 dX6_init_17 ?_
              obtain ⟨v33, e_v33, hf⟩ := ob hf
              refine r_alen X S e_v33 dX6_init_20 ?_
              refine lv_icmp_ge (tgt := 43) hx hb dX6_init_21 (by decide) (fun hc => ?_) (fun hc => ?_)
              · replace hf := ip hf hc
                exact nn hf
              · replace hf := im hf hc
                refine lv_aload_n hx hb dX6_init_24 rfl (lv_at hl 1 rfl) ?_
                obtain ⟨r34, e_r34, hf⟩ := ob hf
                refine r_getR X S fl_X6_11 e_r34 dX6_init_25 ?_
                refine lv_iload_n hx hb dX6_init_28 rfl (lv_at hl 0 rfl) ?_
                refine r_new X S nw_X6_9 (Nat.le_of_ble_eq_true rfl) (Nat.le_of_ble_eq_true rfl) dX6_init_29 (fun H locs S => ?_)
                refine W.widen (k := 32) (n := 458) (Nat.le_of_ble_eq_true rfl) (Nat.le_of_ble_eq_true rfl) ?_
                refine lv_dup hx hb dX6_init_32 rfl ?_
                obtain ⟨h35, e_h35, hf⟩ := ob hf
                refine r_callIN X S hl.1 (As := []) (rest := [.ref (b + (List.length h31)), .int 6, .ref (b + r34)]) (c_X3_init e_h35) my_X3_init rfl mi_X3_init nl_X6_17 ⟨rfl, rfl, Nat.le_of_ble_eq_true rfl, Nat.le_of_ble_eq_true rfl⟩ rfl rfl (Nat.le_of_ble_eq_true rfl) dX6_init_33 ⟨Nat.le_of_ble_eq_true rfl, Nat.le_of_ble_eq_true rfl⟩ (fun H locs S => ?_)
                refine W.eq (g2 := F0 m 36 ls [.ref (b + (List.length h31)), .int 6, .ref (b + r34)]) rfl ?_
                refine W.widen (k := 36) (n := 524) (Nat.le_of_ble_eq_true rfl) (Nat.le_of_ble_eq_true rfl) ?_
                obtain ⟨h36, e_h36, hf⟩ := ob hf
                refine r_qst X S e_h36 dX6_init_36 (fun H locs S => ?_)
                refine lv_iinc (v := 7) (lv' := [(1, .int 7), (0, .ref (b + a0))]) hx hb dX6_init_37 hl (k := 0) rfl rfl (by decide) rfl (fun ls hl => ?_)
                refine lv_goto (tgt := 15) hx hb dX6_init_40 (by decide) ?_
                refine lv_iload_n hx hb dX6_init_15 rfl (lv_at hl 0 rfl) ?_
                refine lv_aload_n hx hb dX6_init_16 rfl (lv_at hl 1 rfl) ?_
                obtain ⟨r37, e_r37, hf⟩ := ob hf
                refine r_getR X S fl_X6_11 e_r37 dX6_init_17 ?_
                obtain ⟨v38, e_v38, hf⟩ := ob hf
                refine r_alen X S e_v38 dX6_init_20 ?_
                refine lv_icmp_ge (tgt := 43) hx hb dX6_init_21 (by decide) (fun hc => ?_) (fun hc => ?_)
                · replace hf := ip hf hc
                  exact nn hf
                · replace hf := im hf hc
                  refine lv_aload_n hx hb dX6_init_24 rfl (lv_at hl 1 rfl) ?_
                  obtain ⟨r39, e_r39, hf⟩ := ob hf
                  refine r_getR X S fl_X6_11 e_r39 dX6_init_25 ?_
                  refine lv_iload_n hx hb dX6_init_28 rfl (lv_at hl 0 rfl) ?_
                  refine r_new X S nw_X6_9 (Nat.le_of_ble_eq_true rfl) (Nat.le_of_ble_eq_true rfl) dX6_init_29 (fun H locs S => ?_)
                  refine W.widen (k := 37) (n := 530) (Nat.le_of_ble_eq_true rfl) (Nat.le_of_ble_eq_true rfl) ?_
                  refine lv_dup hx hb dX6_init_32 rfl ?_
                  obtain ⟨h40, e_h40, hf⟩ := ob hf
                  refine r_callIN X S hl.1 (As := []) (rest := [.ref (b + (List.length h36)), .int 7, .ref (b + r39)]) (c_X3_init e_h40) my_X3_init rfl mi_X3_init nl_X6_17 ⟨rfl, rfl, Nat.le_of_ble_eq_true rfl, Nat.le_of_ble_eq_true rfl⟩ rfl rfl (Nat.le_of_ble_eq_true rfl) dX6_init_33 ⟨Nat.le_of_ble_eq_true rfl, Nat.le_of_ble_eq_true rfl⟩ (fun H locs S => ?_)
                  refine W.eq (g2 := F0 m 36 ls [.ref (b + (List.length h36)), .int 7, .ref (b + r39)]) rfl ?_
                  refine W.widen (k := 41) (n := 596) (Nat.le_of_ble_eq_true rfl) (Nat.le_of_ble_eq_true rfl) ?_
                  obtain ⟨h41, e_h41, hf⟩ := ob hf
                  refine r_qst X S e_h41 dX6_init_36 (fun H locs S => ?_)
                  refine lv_iinc (v := 8) (lv' := [(1, .int 8), (0, .ref (b + a0))]) hx hb dX6_init_37 hl (k := 0) rfl rfl (by decide) rfl (fun ls hl => ?_)
                  refine lv_goto (tgt := 15) hx hb dX6_init_40 (by decide) ?_
                  refine lv_iload_n hx hb dX6_init_15 rfl (lv_at hl 0 rfl) ?_
                  refine lv_aload_n hx hb dX6_init_16 rfl (lv_at hl 1 rfl) ?_
                  obtain ⟨r42, e_r42, hf⟩ := ob hf
                  refine r_getR X S fl_X6_11 e_r42 dX6_init_17 ?_
                  obtain ⟨v43, e_v43, hf⟩ := ob hf
                  refine r_alen X S e_v43 dX6_init_20 ?_
                  refine lv_icmp_ge (tgt := 43) hx hb dX6_init_21 (by decide) (fun hc => ?_) (fun hc => ?_)
                  · replace hf := ip hf hc
                    exact nn hf
                  · replace hf := im hf hc
                    refine lv_aload_n hx hb dX6_init_24 rfl (lv_at hl 1 rfl) ?_
                    obtain ⟨r44, e_r44, hf⟩ := ob hf
                    refine r_getR X S fl_X6_11 e_r44 dX6_init_25 ?_
                    refine lv_iload_n hx hb dX6_init_28 rfl (lv_at hl 0 rfl) ?_
                    refine r_new X S nw_X6_9 (Nat.le_of_ble_eq_true rfl) (Nat.le_of_ble_eq_true rfl) dX6_init_29 (fun H locs S => ?_)
                    refine W.widen (k := 42) (n := 602) (Nat.le_of_ble_eq_true rfl) (Nat.le_of_ble_eq_true rfl) ?_
                    refine lv_dup hx hb dX6_init_32 rfl ?_
                    obtain ⟨h45, e_h45, hf⟩ := ob hf
                    refine r_callIN X S hl.1 (As := []) (rest := [.ref (b + (List.length h41)), .int 8, .ref (b + r44)]) (c_X3_init e_h45) my_X3_init rfl mi_X3_init nl_X6_17 ⟨rfl, rfl, Nat.le_of_ble_eq_true rfl, Nat.le_of_ble_eq_true rfl⟩ rfl rfl (Nat.le_of_ble_eq_true rfl) dX6_init_33 ⟨Nat.le_of_ble_eq_true rfl, Nat.le_of_ble_eq_true rfl⟩ (fun H locs S => ?_)
                    refine W.eq (g2 := F0 m 36 ls [.ref (b + (List.length h41)), .int 8, .ref (b + r44)]) rfl ?_
                    refine W.widen (k := 46) (n := 668) (Nat.le_of_ble_eq_true rfl) (Nat.le_of_ble_eq_true rfl) ?_
                    obtain ⟨h46, e_h46, hf⟩ := ob hf
                    refine r_qst X S e_h46 dX6_init_36 (fun H locs S => ?_)
                    refine lv_iinc (v := 9) (lv' := [(1, .int 9), (0, .ref (b + a0))]) hx hb dX6_init_37 hl (k := 0) rfl rfl (by decide) rfl (fun ls hl => ?_)
                    refine lv_goto (tgt := 15) hx hb dX6_init_40 (by decide) ?_
                    refine lv_iload_n hx hb dX6_init_15 rfl (lv_at hl 0 rfl) ?_
                    refine lv_aload_n hx hb dX6_init_16 rfl (lv_at hl 1 rfl) ?_
                    obtain ⟨r47, e_r47, hf⟩ := ob hf
                    refine r_getR X S fl_X6_11 e_r47 dX6_init_17 ?_
                    obtain ⟨v48, e_v48, hf⟩ := ob hf
                    refine r_alen X S e_v48 dX6_init_20 ?_
                    refine lv_icmp_ge (tgt := 43) hx hb dX6_init_21 (by decide) (fun hc => ?_) (fun hc => ?_)
                    · replace hf := ip hf hc
                      exact nn hf
                    · replace hf := im hf hc
                      refine lv_aload_n hx hb dX6_init_24 rfl (lv_at hl 1 rfl) ?_
                      obtain ⟨r49, e_r49, hf⟩ := ob hf
                      refine r_getR X S fl_X6_11 e_r49 dX6_init_25 ?_
                      refine lv_iload_n hx hb dX6_init_28 rfl (lv_at hl 0 rfl) ?_
                      refine r_new X S nw_X6_9 (Nat.le_of_ble_eq_true rfl) (Nat.le_of_ble_eq_true rfl) dX6_init_29 (fun H locs S => ?_)
                      refine W.widen (k := 47) (n := 674) (Nat.le_of_ble_eq_true rfl) (Nat.le_of_ble_eq_true rfl) ?_
                      refine lv_dup hx hb dX6_init_32 rfl ?_
                      obtain ⟨h50, e_h50, hf⟩ := ob hf
                      refine r_callIN X S hl.1 (As := []) (rest := [.ref (b + (List.length h46)), .int 9, .ref (b + r49)]) (c_X3_init e_h50) my_X3_init rfl mi_X3_init nl_X6_17 ⟨rfl, rfl, Nat.le_of_ble_eq_true rfl, Nat.le_of_ble_eq_true rfl⟩ rfl rfl (Nat.le_of_ble_eq_true rfl) dX6_init_33 ⟨Nat.le_of_ble_eq_true rfl, Nat.le_of_ble_eq_true rfl⟩ (fun H locs S => ?_)
                      refine W.eq (g2 := F0 m 36 ls [.ref (b + (List.length h46)), .int 9, .ref (b + r49)]) rfl ?_
                      refine W.widen (k := 51) (n := 740) (Nat.le_of_ble_eq_true rfl) (Nat.le_of_ble_eq_true rfl) ?_
                      obtain ⟨h51, e_h51, hf⟩ := ob hf
                      refine r_qst X S e_h51 dX6_init_36 (fun H locs S => ?_)
                      refine lv_iinc (v := 10) (lv' := [(1, .int 10), (0, .ref (b + a0))]) hx hb dX6_init_37 hl (k := 0) rfl rfl (by decide) rfl (fun ls hl => ?_)
                      refine lv_goto (tgt := 15) hx hb dX6_init_40 (by decide) ?_
                      refine lv_iload_n hx hb dX6_init_15 rfl (lv_at hl 0 rfl) ?_
                      refine lv_aload_n hx hb dX6_init_16 rfl (lv_at hl 1 rfl) ?_
                      obtain ⟨r52, e_r52, hf⟩ := ob hf
                      refine r_getR X S fl_X6_11 e_r52 dX6_init_17 ?_
                      obtain ⟨v53, e_v53, hf⟩ := ob hf
                      refine r_alen X S e_v53 dX6_init_20 ?_
                      refine lv_icmp_ge (tgt := 43) hx hb dX6_init_21 (by decide) (fun hc => ?_) (fun hc => ?_)
                      · replace hf := ip hf hc
                        exact nn hf
                      · replace hf := im hf hc
                        refine lv_aload_n hx hb dX6_init_24 rfl (lv_at hl 1 rfl) ?_
                        obtain ⟨r54, e_r54, hf⟩ := ob hf
                        refine r_getR X S fl_X6_11 e_r54 dX6_init_25 ?_
                        refine lv_iload_n hx hb dX6_init_28 rfl (lv_at hl 0 rfl) ?_
                        refine r_new X S nw_X6_9 (Nat.le_of_ble_eq_true rfl) (Nat.le_of_ble_eq_true rfl) dX6_init_29 (fun H locs S => ?_)
                        refine W.widen (k := 52) (n := 746) (Nat.le_of_ble_eq_true rfl) (Nat.le_of_ble_eq_true rfl) ?_
                        refine lv_dup hx hb dX6_init_32 rfl ?_
                        obtain ⟨h55, e_h55, hf⟩ := ob hf
                        refine r_callIN X S hl.1 (As := []) (rest := [.ref (b + (List.length h51)), .int 10, .ref (b + r54)]) (c_X3_init e_h55) my_X3_init rfl mi_X3_init nl_X6_17 ⟨rfl, rfl, Nat.le_of_ble_eq_true rfl, Nat.le_of_ble_eq_true rfl⟩ rfl rfl (Nat.le_of_ble_eq_true rfl) dX6_init_33 ⟨Nat.le_of_ble_eq_true rfl, Nat.le_of_ble_eq_true rfl⟩ (fun H locs S => ?_)
                        refine W.eq (g2 := F0 m 36 ls [.ref (b + (List.length h51)), .int 10, .ref (b + r54)]) rfl ?_
                        refine W.widen (k := 56) (n := 812) (Nat.le_of_ble_eq_true rfl) (Nat.le_of_ble_eq_true rfl) ?_
                        obtain ⟨h56, e_h56, hf⟩ := ob hf
                        refine r_qst X S e_h56 dX6_init_36 (fun H locs S => ?_)
                        refine lv_iinc (v := 11) (lv' := [(1, .int 11), (0, .ref (b + a0))]) hx hb dX6_init_37 hl (k := 0) rfl rfl (by decide) rfl (fun ls hl => ?_)
                        refine lv_goto (tgt := 15) hx hb dX6_init_40 (by decide) ?_
                        refine lv_iload_n hx hb dX6_init_15 rfl (lv_at hl 0 rfl) ?_
                        refine lv_aload_n hx hb dX6_init_16 rfl (lv_at hl 1 rfl) ?_
                        obtain ⟨r57, e_r57, hf⟩ := ob hf
                        refine r_getR X S fl_X6_11 e_r57 dX6_init_17 ?_
                        obtain ⟨v58, e_v58, hf⟩ := ob hf
                        refine r_alen X S e_v58 dX6_init_20 ?_
                        refine lv_icmp_ge (tgt := 43) hx hb dX6_init_21 (by decide) (fun hc => ?_) (fun hc => ?_)
                        · replace hf := ip hf hc
                          exact nn hf
                        · replace hf := im hf hc
                          refine lv_aload_n hx hb dX6_init_24 rfl (lv_at hl 1 rfl) ?_
                          obtain ⟨r59, e_r59, hf⟩ := ob hf
                          refine r_getR X S fl_X6_11 e_r59 dX6_init_25 ?_
                          refine lv_iload_n hx hb dX6_init_28 rfl (lv_at hl 0 rfl) ?_
                          refine r_new X S nw_X6_9 (Nat.le_of_ble_eq_true rfl) (Nat.le_of_ble_eq_true rfl) dX6_init_29 (fun H locs S => ?_)
                          refine W.widen (k := 57) (n := 818) (Nat.le_of_ble_eq_true rfl) (Nat.le_of_ble_eq_true rfl) ?_
                          refine lv_dup hx hb dX6_init_32 rfl ?_
                          obtain ⟨h60, e_h60, hf⟩ := ob hf
                          refine r_callIN X S hl.1 (As := []) (rest := [.ref (b + (List.length h56)), .int 11, .ref (b + r59)]) (c_X3_init e_h60) my_X3_init rfl mi_X3_init nl_X6_17 ⟨rfl, rfl, Nat.le_of_ble_eq_true rfl, Nat.le_of_ble_eq_true rfl⟩ rfl rfl (Nat.le_of_ble_eq_true rfl) dX6_init_33 ⟨Nat.le_of_ble_eq_true rfl, Nat.le_of_ble_eq_true rfl⟩ (fun H locs S => ?_)
                          refine W.eq (g2 := F0 m 36 ls [.ref (b + (List.length h56)), .int 11, .ref (b + r59)]) rfl ?_
                          refine W.widen (k := 61) (n := 884) (Nat.le_of_ble_eq_true rfl) (Nat.le_of_ble_eq_true rfl) ?_
                          obtain ⟨h61, e_h61, hf⟩ := ob hf
                          refine r_qst X S e_h61 dX6_init_36 (fun H locs S => ?_)
                          refine lv_iinc (v := 12) (lv' := [(1, .int 12), (0, .ref (b + a0))]) hx hb dX6_init_37 hl (k := 0) rfl rfl (by decide) rfl (fun ls hl => ?_)
                          refine lv_goto (tgt := 15) hx hb dX6_init_40 (by decide) ?_
                          refine lv_iload_n hx hb dX6_init_15 rfl (lv_at hl 0 rfl) ?_
                          refine lv_aload_n hx hb dX6_init_16 rfl (lv_at hl 1 rfl) ?_
                          obtain ⟨r62, e_r62, hf⟩ := ob hf
                          refine r_getR X S fl_X6_11 e_r62 dX6_init_17 ?_
                          obtain ⟨v63, e_v63, hf⟩ := ob hf
                          refine r_alen X S e_v63 dX6_init_20 ?_
                          refine lv_icmp_ge (tgt := 43) hx hb dX6_init_21 (by decide) (fun hc => ?_) (fun hc => ?_)
                          · replace hf := ip hf hc
                            exact nn hf
                          · replace hf := im hf hc
                            refine lv_aload_n hx hb dX6_init_24 rfl (lv_at hl 1 rfl) ?_
                            obtain ⟨r64, e_r64, hf⟩ := ob hf
                            refine r_getR X S fl_X6_11 e_r64 dX6_init_25 ?_
                            refine lv_iload_n hx hb dX6_init_28 rfl (lv_at hl 0 rfl) ?_
                            refine r_new X S nw_X6_9 (Nat.le_of_ble_eq_true rfl) (Nat.le_of_ble_eq_true rfl) dX6_init_29 (fun H locs S => ?_)
                            refine W.widen (k := 62) (n := 890) (Nat.le_of_ble_eq_true rfl) (Nat.le_of_ble_eq_true rfl) ?_
                            refine lv_dup hx hb dX6_init_32 rfl ?_
                            obtain ⟨h65, e_h65, hf⟩ := ob hf
                            refine r_callIN X S hl.1 (As := []) (rest := [.ref (b + (List.length h61)), .int 12, .ref (b + r64)]) (c_X3_init e_h65) my_X3_init rfl mi_X3_init nl_X6_17 ⟨rfl, rfl, Nat.le_of_ble_eq_true rfl, Nat.le_of_ble_eq_true rfl⟩ rfl rfl (Nat.le_of_ble_eq_true rfl) dX6_init_33 ⟨Nat.le_of_ble_eq_true rfl, Nat.le_of_ble_eq_true rfl⟩ (fun H locs S => ?_)
                            refine W.eq (g2 := F0 m 36 ls [.ref (b + (List.length h61)), .int 12, .ref (b + r64)]) rfl ?_
                            refine W.widen (k := 66) (n := 956) (Nat.le_of_ble_eq_true rfl) (Nat.le_of_ble_eq_true rfl) ?_
                            obtain ⟨h66, e_h66, hf⟩ := ob hf
                            refine r_qst X S e_h66 dX6_init_36 (fun H locs S => ?_)
                            refine lv_iinc (v := 13) (lv' := [(1, .int 13), (0, .ref (b + a0))]) hx hb dX6_init_37 hl (k := 0) rfl rfl (by decide) rfl (fun ls hl => ?_)
                            refine lv_goto (tgt := 15) hx hb dX6_init_40 (by decide) ?_
                            refine lv_iload_n hx hb dX6_init_15 rfl (lv_at hl 0 rfl) ?_
                            refine lv_aload_n hx hb dX6_init_16 rfl (lv_at hl 1 rfl) ?_
                            obtain ⟨r67, e_r67, hf⟩ := ob hf
                            refine r_getR X S fl_X6_11 e_r67 dX6_init_17 ?_
                            obtain ⟨v68, e_v68, hf⟩ := ob hf
                            refine r_alen X S e_v68 dX6_init_20 ?_
                            refine lv_icmp_ge (tgt := 43) hx hb dX6_init_21 (by decide) (fun hc => ?_) (fun hc => ?_)
                            · replace hf := ip hf hc
                              exact nn hf
                            · replace hf := im hf hc
                              refine lv_aload_n hx hb dX6_init_24 rfl (lv_at hl 1 rfl) ?_
                              obtain ⟨r69, e_r69, hf⟩ := ob hf
                              refine r_getR X S fl_X6_11 e_r69 dX6_init_25 ?_
                              refine lv_iload_n hx hb dX6_init_28 rfl (lv_at hl 0 rfl) ?_
                              refine r_new X S nw_X6_9 (Nat.le_of_ble_eq_true rfl) (Nat.le_of_ble_eq_true rfl) dX6_init_29 (fun H locs S => ?_)
                              refine W.widen (k := 67) (n := 962) (Nat.le_of_ble_eq_true rfl) (Nat.le_of_ble_eq_true rfl) ?_
                              refine lv_dup hx hb dX6_init_32 rfl ?_
                              obtain ⟨h70, e_h70, hf⟩ := ob hf
                              refine r_callIN X S hl.1 (As := []) (rest := [.ref (b + (List.length h66)), .int 13, .ref (b + r69)]) (c_X3_init e_h70) my_X3_init rfl mi_X3_init nl_X6_17 ⟨rfl, rfl, Nat.le_of_ble_eq_true rfl, Nat.le_of_ble_eq_true rfl⟩ rfl rfl (Nat.le_of_ble_eq_true rfl) dX6_init_33 ⟨Nat.le_of_ble_eq_true rfl, Nat.le_of_ble_eq_true rfl⟩ (fun H locs S => ?_)
                              refine W.eq (g2 := F0 m 36 ls [.ref (b + (List.length h66)), .int 13, .ref (b + r69)]) rfl ?_
                              refine W.widen (k := 71) (n := 1028) (Nat.le_of_ble_eq_true rfl) (Nat.le_of_ble_eq_true rfl) ?_
                              obtain ⟨h71, e_h71, hf⟩ := ob hf
                              refine r_qst X S e_h71 dX6_init_36 (fun H locs S => ?_)
                              refine lv_iinc (v := 14) (lv' := [(1, .int 14), (0, .ref (b + a0))]) hx hb dX6_init_37 hl (k := 0) rfl rfl (by decide) rfl (fun ls hl => ?_)
                              refine lv_goto (tgt := 15) hx hb dX6_init_40 (by decide) ?_
                              refine lv_iload_n hx hb dX6_init_15 rfl (lv_at hl 0 rfl) ?_
                              refine lv_aload_n hx hb dX6_init_16 rfl (lv_at hl 1 rfl) ?_
                              obtain ⟨r72, e_r72, hf⟩ := ob hf
                              refine r_getR X S fl_X6_11 e_r72 dX6_init_17 ?_
                              obtain ⟨v73, e_v73, hf⟩ := ob hf
                              refine r_alen X S e_v73 dX6_init_20 ?_
                              refine lv_icmp_ge (tgt := 43) hx hb dX6_init_21 (by decide) (fun hc => ?_) (fun hc => ?_)
                              · replace hf := ip hf hc
                                exact nn hf
                              · replace hf := im hf hc
                                refine lv_aload_n hx hb dX6_init_24 rfl (lv_at hl 1 rfl) ?_
                                obtain ⟨r74, e_r74, hf⟩ := ob hf
                                refine r_getR X S fl_X6_11 e_r74 dX6_init_25 ?_
                                refine lv_iload_n hx hb dX6_init_28 rfl (lv_at hl 0 rfl) ?_
                                refine r_new X S nw_X6_9 (Nat.le_of_ble_eq_true rfl) (Nat.le_of_ble_eq_true rfl) dX6_init_29 (fun H locs S => ?_)
                                refine W.widen (k := 72) (n := 1034) (Nat.le_of_ble_eq_true rfl) (Nat.le_of_ble_eq_true rfl) ?_
                                refine lv_dup hx hb dX6_init_32 rfl ?_
                                obtain ⟨h75, e_h75, hf⟩ := ob hf
                                refine r_callIN X S hl.1 (As := []) (rest := [.ref (b + (List.length h71)), .int 14, .ref (b + r74)]) (c_X3_init e_h75) my_X3_init rfl mi_X3_init nl_X6_17 ⟨rfl, rfl, Nat.le_of_ble_eq_true rfl, Nat.le_of_ble_eq_true rfl⟩ rfl rfl (Nat.le_of_ble_eq_true rfl) dX6_init_33 ⟨Nat.le_of_ble_eq_true rfl, Nat.le_of_ble_eq_true rfl⟩ (fun H locs S => ?_)
                                refine W.eq (g2 := F0 m 36 ls [.ref (b + (List.length h71)), .int 14, .ref (b + r74)]) rfl ?_
                                refine W.widen (k := 76) (n := 1100) (Nat.le_of_ble_eq_true rfl) (Nat.le_of_ble_eq_true rfl) ?_
                                obtain ⟨h76, e_h76, hf⟩ := ob hf
                                refine r_qst X S e_h76 dX6_init_36 (fun H locs S => ?_)
                                refine lv_iinc (v := 15) (lv' := [(1, .int 15), (0, .ref (b + a0))]) hx hb dX6_init_37 hl (k := 0) rfl rfl (by decide) rfl (fun ls hl => ?_)
                                refine lv_goto (tgt := 15) hx hb dX6_init_40 (by decide) ?_
                                refine lv_iload_n hx hb dX6_init_15 rfl (lv_at hl 0 rfl) ?_
                                refine lv_aload_n hx hb dX6_init_16 rfl (lv_at hl 1 rfl) ?_
                                obtain ⟨r77, e_r77, hf⟩ := ob hf
                                refine r_getR X S fl_X6_11 e_r77 dX6_init_17 ?_
                                obtain ⟨v78, e_v78, hf⟩ := ob hf
                                refine r_alen X S e_v78 dX6_init_20 ?_
                                refine lv_icmp_ge (tgt := 43) hx hb dX6_init_21 (by decide) (fun hc => ?_) (fun hc => ?_)
                                · replace hf := ip hf hc
                                  exact nn hf
                                · replace hf := im hf hc
                                  refine lv_aload_n hx hb dX6_init_24 rfl (lv_at hl 1 rfl) ?_
                                  obtain ⟨r79, e_r79, hf⟩ := ob hf
                                  refine r_getR X S fl_X6_11 e_r79 dX6_init_25 ?_
                                  refine lv_iload_n hx hb dX6_init_28 rfl (lv_at hl 0 rfl) ?_
                                  refine r_new X S nw_X6_9 (Nat.le_of_ble_eq_true rfl) (Nat.le_of_ble_eq_true rfl) dX6_init_29 (fun H locs S => ?_)
                                  refine W.widen (k := 77) (n := 1106) (Nat.le_of_ble_eq_true rfl) (Nat.le_of_ble_eq_true rfl) ?_
                                  refine lv_dup hx hb dX6_init_32 rfl ?_
                                  obtain ⟨h80, e_h80, hf⟩ := ob hf
                                  refine r_callIN X S hl.1 (As := []) (rest := [.ref (b + (List.length h76)), .int 15, .ref (b + r79)]) (c_X3_init e_h80) my_X3_init rfl mi_X3_init nl_X6_17 ⟨rfl, rfl, Nat.le_of_ble_eq_true rfl, Nat.le_of_ble_eq_true rfl⟩ rfl rfl (Nat.le_of_ble_eq_true rfl) dX6_init_33 ⟨Nat.le_of_ble_eq_true rfl, Nat.le_of_ble_eq_true rfl⟩ (fun H locs S => ?_)
                                  refine W.eq (g2 := F0 m 36 ls [.ref (b + (List.length h76)), .int 15, .ref (b + r79)]) rfl ?_
                                  refine W.widen (k := 81) (n := 1172) (Nat.le_of_ble_eq_true rfl) (Nat.le_of_ble_eq_true rfl) ?_
                                  obtain ⟨h81, e_h81, hf⟩ := ob hf
                                  refine r_qst X S e_h81 dX6_init_36 (fun H locs S => ?_)
                                  refine lv_iinc (v := 16) (lv' := [(1, .int 16), (0, .ref (b + a0))]) hx hb dX6_init_37 hl (k := 0) rfl rfl (by decide) rfl (fun ls hl => ?_)
                                  refine lv_goto (tgt := 15) hx hb dX6_init_40 (by decide) ?_
                                  refine lv_iload_n hx hb dX6_init_15 rfl (lv_at hl 0 rfl) ?_
                                  refine lv_aload_n hx hb dX6_init_16 rfl (lv_at hl 1 rfl) ?_
                                  obtain ⟨r82, e_r82, hf⟩ := ob hf
                                  refine r_getR X S fl_X6_11 e_r82 dX6_init_17 ?_
                                  obtain ⟨v83, e_v83, hf⟩ := ob hf
                                  refine r_alen X S e_v83 dX6_init_20 ?_
                                  refine lv_icmp_ge (tgt := 43) hx hb dX6_init_21 (by decide) (fun hc => ?_) (fun hc => ?_)
                                  · replace hf := ip hf hc
                                    exact nn hf
                                  · replace hf := im hf hc
                                    refine lv_aload_n hx hb dX6_init_24 rfl (lv_at hl 1 rfl) ?_
                                    obtain ⟨r84, e_r84, hf⟩ := ob hf
                                    refine r_getR X S fl_X6_11 e_r84 dX6_init_25 ?_
                                    refine lv_iload_n hx hb dX6_init_28 rfl (lv_at hl 0 rfl) ?_
                                    refine r_new X S nw_X6_9 (Nat.le_of_ble_eq_true rfl) (Nat.le_of_ble_eq_true rfl) dX6_init_29 (fun H locs S => ?_)
                                    refine W.widen (k := 82) (n := 1178) (Nat.le_of_ble_eq_true rfl) (Nat.le_of_ble_eq_true rfl) ?_
                                    refine lv_dup hx hb dX6_init_32 rfl ?_
                                    obtain ⟨h85, e_h85, hf⟩ := ob hf
                                    refine r_callIN X S hl.1 (As := []) (rest := [.ref (b + (List.length h81)), .int 16, .ref (b + r84)]) (c_X3_init e_h85) my_X3_init rfl mi_X3_init nl_X6_17 ⟨rfl, rfl, Nat.le_of_ble_eq_true rfl, Nat.le_of_ble_eq_true rfl⟩ rfl rfl (Nat.le_of_ble_eq_true rfl) dX6_init_33 ⟨Nat.le_of_ble_eq_true rfl, Nat.le_of_ble_eq_true rfl⟩ (fun H locs S => ?_)
                                    refine W.eq (g2 := F0 m 36 ls [.ref (b + (List.length h81)), .int 16, .ref (b + r84)]) rfl ?_
                                    refine W.widen (k := 86) (n := 1244) (Nat.le_of_ble_eq_true rfl) (Nat.le_of_ble_eq_true rfl) ?_
                                    obtain ⟨h86, e_h86, hf⟩ := ob hf
                                    refine r_qst X S e_h86 dX6_init_36 (fun H locs S => ?_)
                                    refine lv_iinc (v := 17) (lv' := [(1, .int 17), (0, .ref (b + a0))]) hx hb dX6_init_37 hl (k := 0) rfl rfl (by decide) rfl (fun ls hl => ?_)
                                    refine lv_goto (tgt := 15) hx hb dX6_init_40 (by decide) ?_
                                    refine lv_iload_n hx hb dX6_init_15 rfl (lv_at hl 0 rfl) ?_
                                    refine lv_aload_n hx hb dX6_init_16 rfl (lv_at hl 1 rfl) ?_
                                    obtain ⟨r87, e_r87, hf⟩ := ob hf
                                    refine r_getR X S fl_X6_11 e_r87 dX6_init_17 ?_
                                    obtain ⟨v88, e_v88, hf⟩ := ob hf
                                    refine r_alen X S e_v88 dX6_init_20 ?_
                                    refine lv_icmp_ge (tgt := 43) hx hb dX6_init_21 (by decide) (fun hc => ?_) (fun hc => ?_)
                                    · replace hf := ip hf hc
                                      exact nn hf
                                    · replace hf := im hf hc
                                      refine lv_aload_n hx hb dX6_init_24 rfl (lv_at hl 1 rfl) ?_
                                      obtain ⟨r89, e_r89, hf⟩ := ob hf
                                      refine r_getR X S fl_X6_11 e_r89 dX6_init_25 ?_
                                      refine lv_iload_n hx hb dX6_init_28 rfl (lv_at hl 0 rfl) ?_
                                      refine r_new X S nw_X6_9 (Nat.le_of_ble_eq_true rfl) (Nat.le_of_ble_eq_true rfl) dX6_init_29 (fun H locs S => ?_)
                                      refine W.widen (k := 87) (n := 1250) (Nat.le_of_ble_eq_true rfl) (Nat.le_of_ble_eq_true rfl) ?_
                                      refine lv_dup hx hb dX6_init_32 rfl ?_
                                      obtain ⟨h90, e_h90, hf⟩ := ob hf
                                      refine r_callIN X S hl.1 (As := []) (rest := [.ref (b + (List.length h86)), .int 17, .ref (b + r89)]) (c_X3_init e_h90) my_X3_init rfl mi_X3_init nl_X6_17 ⟨rfl, rfl, Nat.le_of_ble_eq_true rfl, Nat.le_of_ble_eq_true rfl⟩ rfl rfl (Nat.le_of_ble_eq_true rfl) dX6_init_33 ⟨Nat.le_of_ble_eq_true rfl, Nat.le_of_ble_eq_true rfl⟩ (fun H locs S => ?_)
                                      refine W.eq (g2 := F0 m 36 ls [.ref (b + (List.length h86)), .int 17, .ref (b + r89)]) rfl ?_
                                      refine W.widen (k := 91) (n := 1316) (Nat.le_of_ble_eq_true rfl) (Nat.le_of_ble_eq_true rfl) ?_
                                      obtain ⟨h91, e_h91, hf⟩ := ob hf
                                      refine r_qst X S e_h91 dX6_init_36 (fun H locs S => ?_)
                                      refine lv_iinc (v := 18) (lv' := [(1, .int 18), (0, .ref (b + a0))]) hx hb dX6_init_37 hl (k := 0) rfl rfl (by decide) rfl (fun ls hl => ?_)
                                      refine lv_goto (tgt := 15) hx hb dX6_init_40 (by decide) ?_
                                      refine lv_iload_n hx hb dX6_init_15 rfl (lv_at hl 0 rfl) ?_
                                      refine lv_aload_n hx hb dX6_init_16 rfl (lv_at hl 1 rfl) ?_
                                      obtain ⟨r92, e_r92, hf⟩ := ob hf
                                      refine r_getR X S fl_X6_11 e_r92 dX6_init_17 ?_
                                      obtain ⟨v93, e_v93, hf⟩ := ob hf
                                      refine r_alen X S e_v93 dX6_init_20 ?_
                                      refine lv_icmp_ge (tgt := 43) hx hb dX6_init_21 (by decide) (fun hc => ?_) (fun hc => ?_)
                                      · replace hf := ip hf hc
                                        exact nn hf
                                      · replace hf := im hf hc
                                        refine lv_aload_n hx hb dX6_init_24 rfl (lv_at hl 1 rfl) ?_
                                        obtain ⟨r94, e_r94, hf⟩ := ob hf
                                        refine r_getR X S fl_X6_11 e_r94 dX6_init_25 ?_
                                        refine lv_iload_n hx hb dX6_init_28 rfl (lv_at hl 0 rfl) ?_
                                        refine r_new X S nw_X6_9 (Nat.le_of_ble_eq_true rfl) (Nat.le_of_ble_eq_true rfl) dX6_init_29 (fun H locs S => ?_)
                                        refine W.widen (k := 92) (n := 1322) (Nat.le_of_ble_eq_true rfl) (Nat.le_of_ble_eq_true rfl) ?_
                                        refine lv_dup hx hb dX6_init_32 rfl ?_
                                        obtain ⟨h95, e_h95, hf⟩ := ob hf
                                        refine r_callIN X S hl.1 (As := []) (rest := [.ref (b + (List.length h91)), .int 18, .ref (b + r94)]) (c_X3_init e_h95) my_X3_init rfl mi_X3_init nl_X6_17 ⟨rfl, rfl, Nat.le_of_ble_eq_true rfl, Nat.le_of_ble_eq_true rfl⟩ rfl rfl (Nat.le_of_ble_eq_true rfl) dX6_init_33 ⟨Nat.le_of_ble_eq_true rfl, Nat.le_of_ble_eq_true rfl⟩ (fun H locs S => ?_)
                                        refine W.eq (g2 := F0 m 36 ls [.ref (b + (List.length h91)), .int 18, .ref (b + r94)]) rfl ?_
                                        refine W.widen (k := 96) (n := 1388) (Nat.le_of_ble_eq_true rfl) (Nat.le_of_ble_eq_true rfl) ?_
                                        obtain ⟨h96, e_h96, hf⟩ := ob hf
                                        refine r_qst X S e_h96 dX6_init_36 (fun H locs S => ?_)
                                        refine lv_iinc (v := 19) (lv' := [(1, .int 19), (0, .ref (b + a0))]) hx hb dX6_init_37 hl (k := 0) rfl rfl (by decide) rfl (fun ls hl => ?_)
                                        refine lv_goto (tgt := 15) hx hb dX6_init_40 (by decide) ?_
                                        refine lv_iload_n hx hb dX6_init_15 rfl (lv_at hl 0 rfl) ?_
                                        refine lv_aload_n hx hb dX6_init_16 rfl (lv_at hl 1 rfl) ?_
                                        obtain ⟨r97, e_r97, hf⟩ := ob hf
                                        refine r_getR X S fl_X6_11 e_r97 dX6_init_17 ?_
                                        obtain ⟨v98, e_v98, hf⟩ := ob hf
                                        refine r_alen X S e_v98 dX6_init_20 ?_
                                        refine lv_icmp_ge (tgt := 43) hx hb dX6_init_21 (by decide) (fun hc => ?_) (fun hc => ?_)
                                        · replace hf := ip hf hc
                                          exact nn hf
                                        · replace hf := im hf hc
                                          refine lv_aload_n hx hb dX6_init_24 rfl (lv_at hl 1 rfl) ?_
                                          obtain ⟨r99, e_r99, hf⟩ := ob hf
                                          refine r_getR X S fl_X6_11 e_r99 dX6_init_25 ?_
                                          refine lv_iload_n hx hb dX6_init_28 rfl (lv_at hl 0 rfl) ?_
                                          refine r_new X S nw_X6_9 (Nat.le_of_ble_eq_true rfl) (Nat.le_of_ble_eq_true rfl) dX6_init_29 (fun H locs S => ?_)
                                          refine W.widen (k := 97) (n := 1394) (Nat.le_of_ble_eq_true rfl) (Nat.le_of_ble_eq_true rfl) ?_
                                          refine lv_dup hx hb dX6_init_32 rfl ?_
                                          obtain ⟨h100, e_h100, hf⟩ := ob hf
                                          refine r_callIN X S hl.1 (As := []) (rest := [.ref (b + (List.length h96)), .int 19, .ref (b + r99)]) (c_X3_init e_h100) my_X3_init rfl mi_X3_init nl_X6_17 ⟨rfl, rfl, Nat.le_of_ble_eq_true rfl, Nat.le_of_ble_eq_true rfl⟩ rfl rfl (Nat.le_of_ble_eq_true rfl) dX6_init_33 ⟨Nat.le_of_ble_eq_true rfl, Nat.le_of_ble_eq_true rfl⟩ (fun H locs S => ?_)
                                          refine W.eq (g2 := F0 m 36 ls [.ref (b + (List.length h96)), .int 19, .ref (b + r99)]) rfl ?_
                                          refine W.widen (k := 101) (n := 1460) (Nat.le_of_ble_eq_true rfl) (Nat.le_of_ble_eq_true rfl) ?_
                                          obtain ⟨h101, e_h101, hf⟩ := ob hf
                                          refine r_qst X S e_h101 dX6_init_36 (fun H locs S => ?_)
                                          refine lv_iinc (v := 20) (lv' := [(1, .int 20), (0, .ref (b + a0))]) hx hb dX6_init_37 hl (k := 0) rfl rfl (by decide) rfl (fun ls hl => ?_)
                                          refine lv_goto (tgt := 15) hx hb dX6_init_40 (by decide) ?_
                                          refine lv_iload_n hx hb dX6_init_15 rfl (lv_at hl 0 rfl) ?_
                                          refine lv_aload_n hx hb dX6_init_16 rfl (lv_at hl 1 rfl) ?_
                                          obtain ⟨r102, e_r102, hf⟩ := ob hf
                                          refine r_getR X S fl_X6_11 e_r102 dX6_init_17 ?_
                                          obtain ⟨v103, e_v103, hf⟩ := ob hf
                                          refine r_alen X S e_v103 dX6_init_20 ?_
                                          refine lv_icmp_ge (tgt := 43) hx hb dX6_init_21 (by decide) (fun hc => ?_) (fun hc => ?_)
                                          · replace hf := ip hf hc
                                            obtain rfl := Option.some.inj hf
                                            exact Z _ _ _ _ dX6_init_43 S
                                          · replace hf := im hf hc
                                            exact nn hf
def f_X6_init (a0 : Nat) (h : HP) : Option (HP) := f_X6_init_e a0 h
set_option maxRecDepth 100000 in
theorem c_X6_init {l : Launch} {G : GT} {b : Nat} {a0 : Nat} {h : HP} {out : HP} (hf : f_X6_init a0 h = some out) : MT l G b True True yX6_init cX6_init 2 none RM_X6_init [.ref (b + a0)] h none out 101 1460 := by
  refine met_of (by decide) (Nat.le_of_ble_eq_true rfl) ?_
  intro p e s m below meth c ls X hnm S hl
  have hl : lv_has ls 2 [(0, .ref (b + a0))] := hl
  exact w_X6_init_e X hnm (z_v X) _ _ hf _ _ _ S hl
/-! RoomRings$Past.forget()V -/
abbrev RM_X6_forget : Room := { frames := 0, cells := 0, slots := 0, locals := 0 }
def f_X6_forget_e  (a0 : Nat) (h : HP) : Option (HP) :=
  (pI h a0 6 0 0).bind fun h1 =>
  some h1
set_option maxRecDepth 100000 in
set_option maxHeartbeats 4000000 in
theorem w_X6_forget_e (X : CX RX6 cX6_forget 1 none p s m args meth c G b) {out : HP} (Z : ZV p l e RM_X6_forget s m args below meth c cX6_forget G b False 0 0 Q out)  : ∀ (a0 : Nat) (h : HP), f_X6_forget_e  a0 h = some out → ∀ (H : Heap) (locs : List Loc) (ls : Array Slot), ST G b False s h H locs → lv_has ls 1 [(0, .ref (b + a0))] → W p l e RM_X6_forget s m args below meth c H locs 0 0 Q (F0 m 0 ls []) := by
  intro a0 h hf H locs ls S hl
  unfold f_X6_forget_e at hf
  have hx := X.1
  have hb := X.2.1
  refine lv_aload_n hx hb dX6_forget_0 rfl (lv_at hl 0 rfl) ?_
  refine lv_iconst (v := 0) hx hb dX6_forget_1 (by decide) ?_
  obtain ⟨h1, e_h1, hf⟩ := ob hf
  refine r_put X S fp_X6_18 (fun h9 => by cases h9) rfl rfl rfl e_h1 dX6_forget_2 (fun H locs S => ?_)
  obtain rfl := Option.some.inj hf
  exact Z _ _ _ _ dX6_forget_5 S
def f_X6_forget (a0 : Nat) (h : HP) : Option (HP) := ck h a0 6 (f_X6_forget_e a0 h)
theorem o_X6_forget {a0 : Nat} {h : HP} {out : HP} (hf : f_X6_forget a0 h = some out) : ∃ fs, h[a0]? = some (.inl (6, fs)) := (ck_spec hf).1
set_option maxRecDepth 100000 in
theorem c_X6_forget {l : Launch} {G : GT} {b : Nat} {a0 : Nat} {h : HP} {out : HP} (hf : f_X6_forget a0 h = some out) : MT l G b False False yX6_forget cX6_forget 1 none RM_X6_forget [.ref (b + a0)] h none out 0 0 := by
  refine met_of (by decide) (Nat.le_of_ble_eq_true rfl) ?_
  intro p e s m below meth c ls X hnm S hl
  have hl : lv_has ls 1 [(0, .ref (b + a0))] := hl
  replace hf := (ck_spec hf).2
  exact w_X6_forget_e X (z_v X) _ _ hf _ _ _ S hl
/-! RoomRings$Past.dropOldest()V -/
abbrev RM_X6_dropOldest : Room := { frames := 0, cells := 0, slots := 0, locals := 0 }
def f_X6_dropOldest_b17 (K17 : Nat → Nat → Int32 → Int32 → HP → Option (HP)) (a0 : Nat) (a1 : Nat) (x2 : Int32) (x3 : Int32) (h : HP) : Option (HP) :=
  if x2 ≤ x3 then
    (gR h a0 6 1).bind fun r1 =>
    (qst h r1 x2 a1).bind fun h2 =>
    (pI h2 a0 6 0 x2).bind fun h3 =>
    some h3
  else
    (gR h a0 6 1).bind fun r4 =>
    (gR h a0 6 1).bind fun r5 =>
    (qld h r5 (x3 + 1)).bind fun r6 =>
    (qst h r4 x3 r6).bind fun h7 =>
    K17 a0 a1 x2 (x3 + 1) h7
set_option maxRecDepth 100000 in
set_option maxHeartbeats 4000000 in
theorem w_X6_dropOldest_b17 (X : CX RX6 cX6_dropOldest 4 none p s m args meth c G b) {out : HP} (Z : ZV p l e RM_X6_dropOldest s m args below meth c cX6_dropOldest G b False 0 0 Q out) {K17 : Nat → Nat → Int32 → Int32 → HP → Option (HP)} (hK17 : ∀ (a0 : Nat) (a1 : Nat) (x2 : Int32) (x3 : Int32) (h : HP), K17 a0 a1 x2 x3 h = some out → ∀ (H : Heap) (locs : List Loc) (ls : Array Slot), ST G b False s h H locs → lv_has ls 4 [(0, .ref (b + a0)), (1, .ref (b + a1)), (2, .int x2), (3, .int x3)] → W p l e RM_X6_dropOldest s m args below meth c H locs 0 0 Q (F0 m 17 ls [])) : ∀ (a0 : Nat) (a1 : Nat) (x2 : Int32) (x3 : Int32) (h : HP), f_X6_dropOldest_b17 K17 a0 a1 x2 x3 h = some out → ∀ (H : Heap) (locs : List Loc) (ls : Array Slot), ST G b False s h H locs → lv_has ls 4 [(0, .ref (b + a0)), (1, .ref (b + a1)), (2, .int x2), (3, .int x3)] → W p l e RM_X6_dropOldest s m args below meth c H locs 0 0 Q (F0 m 17 ls []) := by
  intro a0 a1 x2 x3 h hf H locs ls S hl
  unfold f_X6_dropOldest_b17 at hf
  have hx := X.1
  have hb := X.2.1
  refine lv_iload_n hx hb dX6_dropOldest_17 rfl (lv_at hl 3 rfl) ?_
  refine lv_iload_n hx hb dX6_dropOldest_18 rfl (lv_at hl 2 rfl) ?_
  refine lv_icmp_ge (tgt := 42) hx hb dX6_dropOldest_19 (by decide) (fun hc => ?_) (fun hc => ?_)
  · replace hf := ip hf hc
    refine lv_aload_n hx hb dX6_dropOldest_42 rfl (lv_at hl 0 rfl) ?_
    obtain ⟨r1, e_r1, hf⟩ := ob hf
    refine r_getR X S fl_X6_11 e_r1 dX6_dropOldest_43 ?_
    refine lv_iload_n hx hb dX6_dropOldest_46 rfl (lv_at hl 2 rfl) ?_
    refine lv_aload_n hx hb dX6_dropOldest_47 rfl (lv_at hl 1 rfl) ?_
    obtain ⟨h2, e_h2, hf⟩ := ob hf
    refine r_qst X S e_h2 dX6_dropOldest_48 (fun H locs S => ?_)
    refine lv_aload_n hx hb dX6_dropOldest_49 rfl (lv_at hl 0 rfl) ?_
    refine lv_iload_n hx hb dX6_dropOldest_50 rfl (lv_at hl 2 rfl) ?_
    obtain ⟨h3, e_h3, hf⟩ := ob hf
    refine r_put X S fp_X6_18 (fun h9 => by cases h9) rfl rfl rfl e_h3 dX6_dropOldest_51 (fun H locs S => ?_)
    obtain rfl := Option.some.inj hf
    exact Z _ _ _ _ dX6_dropOldest_54 S
  · replace hf := im hf hc
    refine lv_aload_n hx hb dX6_dropOldest_22 rfl (lv_at hl 0 rfl) ?_
    obtain ⟨r4, e_r4, hf⟩ := ob hf
    refine r_getR X S fl_X6_11 e_r4 dX6_dropOldest_23 ?_
    refine lv_iload_n hx hb dX6_dropOldest_26 rfl (lv_at hl 3 rfl) ?_
    refine lv_aload_n hx hb dX6_dropOldest_27 rfl (lv_at hl 0 rfl) ?_
    obtain ⟨r5, e_r5, hf⟩ := ob hf
    refine r_getR X S fl_X6_11 e_r5 dX6_dropOldest_28 ?_
    refine lv_iload_n hx hb dX6_dropOldest_31 rfl (lv_at hl 3 rfl) ?_
    refine lv_iconst (v := 1) hx hb dX6_dropOldest_32 (by decide) ?_
    refine lv_iadd hx hb dX6_dropOldest_33 ?_
    obtain ⟨r6, e_r6, hf⟩ := ob hf
    refine r_qld X S e_r6 dX6_dropOldest_34 ?_
    obtain ⟨h7, e_h7, hf⟩ := ob hf
    refine r_qst X S e_h7 dX6_dropOldest_35 (fun H locs S => ?_)
    refine lv_iinc (v := x3 + 1) (lv' := [(3, .int (x3 + 1)), (0, .ref (b + a0)), (1, .ref (b + a1)), (2, .int x2)]) hx hb dX6_dropOldest_36 hl (k := 3) rfl rfl (by decide) rfl (fun ls hl => ?_)
    refine lv_goto (tgt := 17) hx hb dX6_dropOldest_39 (by decide) ?_
    exact hK17 _ _ _ _ _ hf _ _ _ S (lv_sub hl [1, 2, 3, 0] rfl)
def F_X6_dropOldest_17  : Nat → Nat → Nat → Int32 → Int32 → HP → Option (HP)
  | 0 => fun _ _ _ _ _ => none
  | n + 1 => fun a0 a1 x2 x3 h => f_X6_dropOldest_b17 (F_X6_dropOldest_17  n) a0 a1 x2 x3 h
theorem wl_X6_dropOldest_17 (X : CX RX6 cX6_dropOldest 4 none p s m args meth c G b) {out : HP} (Z : ZV p l e RM_X6_dropOldest s m args below meth c cX6_dropOldest G b False 0 0 Q out)  : ∀ (n : Nat) (a0 : Nat) (a1 : Nat) (x2 : Int32) (x3 : Int32) (h : HP), F_X6_dropOldest_17  n a0 a1 x2 x3 h = some out → ∀ (H : Heap) (locs : List Loc) (ls : Array Slot), ST G b False s h H locs → lv_has ls 4 [(0, .ref (b + a0)), (1, .ref (b + a1)), (2, .int x2), (3, .int x3)] → W p l e RM_X6_dropOldest s m args below meth c H locs 0 0 Q (F0 m 17 ls []) := by
  intro n
  induction n with
  | zero => intro a0 a1 x2 x3 h hf; exact nn hf
  | succ n ih => exact w_X6_dropOldest_b17 X Z ih
def f_X6_dropOldest_e  (a0 : Nat) (h : HP) : Option (HP) :=
  (gR h a0 6 1).bind fun r1 =>
  (qld h r1 0).bind fun r2 =>
  (gR h a0 6 1).bind fun r3 =>
  (alen h r3).bind fun v4 =>
  F_X6_dropOldest_17  FU a0 r2 (v4 - 1) 0 h
set_option maxRecDepth 100000 in
set_option maxHeartbeats 4000000 in
theorem w_X6_dropOldest_e (X : CX RX6 cX6_dropOldest 4 none p s m args meth c G b) {out : HP} (Z : ZV p l e RM_X6_dropOldest s m args below meth c cX6_dropOldest G b False 0 0 Q out)  : ∀ (a0 : Nat) (h : HP), f_X6_dropOldest_e  a0 h = some out → ∀ (H : Heap) (locs : List Loc) (ls : Array Slot), ST G b False s h H locs → lv_has ls 4 [(0, .ref (b + a0))] → W p l e RM_X6_dropOldest s m args below meth c H locs 0 0 Q (F0 m 0 ls []) := by
  intro a0 h hf H locs ls S hl
  unfold f_X6_dropOldest_e at hf
  have hx := X.1
  have hb := X.2.1
  refine lv_aload_n hx hb dX6_dropOldest_0 rfl (lv_at hl 0 rfl) ?_
  obtain ⟨r1, e_r1, hf⟩ := ob hf
  refine r_getR X S fl_X6_11 e_r1 dX6_dropOldest_1 ?_
  refine lv_iconst (v := 0) hx hb dX6_dropOldest_4 (by decide) ?_
  obtain ⟨r2, e_r2, hf⟩ := ob hf
  refine r_qld X S e_r2 dX6_dropOldest_5 ?_
  refine lv_astore_n (lv' := [(1, .ref (b + r2)), (0, .ref (b + a0))]) hx hb dX6_dropOldest_6 rfl hl (by decide) rfl (fun ls hl => ?_)
  refine lv_aload_n hx hb dX6_dropOldest_7 rfl (lv_at hl 1 rfl) ?_
  obtain ⟨r3, e_r3, hf⟩ := ob hf
  refine r_getR X S fl_X6_11 e_r3 dX6_dropOldest_8 ?_
  obtain ⟨v4, e_v4, hf⟩ := ob hf
  refine r_alen X S e_v4 dX6_dropOldest_11 ?_
  refine lv_iconst (v := 1) hx hb dX6_dropOldest_12 (by decide) ?_
  refine lv_isub hx hb dX6_dropOldest_13 ?_
  refine lv_istore_n (lv' := [(2, .int (v4 - 1)), (1, .ref (b + r2)), (0, .ref (b + a0))]) hx hb dX6_dropOldest_14 rfl hl (by decide) rfl (fun ls hl => ?_)
  refine lv_iconst (v := 0) hx hb dX6_dropOldest_15 (by decide) ?_
  refine lv_istore_n (lv' := [(3, .int 0), (2, .int (v4 - 1)), (1, .ref (b + r2)), (0, .ref (b + a0))]) hx hb dX6_dropOldest_16 rfl hl (by decide) rfl (fun ls hl => ?_)
  exact wl_X6_dropOldest_17 X Z  FU _ _ _ _ _ hf _ _ _ S (lv_sub hl [3, 2, 1, 0] rfl)
def f_X6_dropOldest (a0 : Nat) (h : HP) : Option (HP) := ck h a0 6 (f_X6_dropOldest_e a0 h)
theorem o_X6_dropOldest {a0 : Nat} {h : HP} {out : HP} (hf : f_X6_dropOldest a0 h = some out) : ∃ fs, h[a0]? = some (.inl (6, fs)) := (ck_spec hf).1
set_option maxRecDepth 100000 in
theorem c_X6_dropOldest {l : Launch} {G : GT} {b : Nat} {a0 : Nat} {h : HP} {out : HP} (hf : f_X6_dropOldest a0 h = some out) : MT l G b False False yX6_dropOldest cX6_dropOldest 4 none RM_X6_dropOldest [.ref (b + a0)] h none out 0 0 := by
  refine met_of (by decide) (Nat.le_of_ble_eq_true rfl) ?_
  intro p e s m below meth c ls X hnm S hl
  have hl : lv_has ls 4 [(0, .ref (b + a0))] := hl
  replace hf := (ck_spec hf).2
  exact w_X6_dropOldest_e X (z_v X) _ _ hf _ _ _ S hl
/-! RoomRings$Past.push(LRoomRings$House;)V -/
abbrev RM_X6_push : Room := { frames := 2, cells := 0, slots := 0, locals := 39 }
def f_X6_push_b68   (h : HP) : Option (HP) :=
  some h
set_option maxRecDepth 100000 in
set_option maxHeartbeats 4000000 in
theorem w_X6_push_b68 (X : CX RX6 cX6_push 3 none p s m args meth c G b) {out : HP} (Z : ZV p l e RM_X6_push s m args below meth c cX6_push G b False 0 0 Q out)  : ∀  (h : HP), f_X6_push_b68   h = some out → ∀ (H : Heap) (locs : List Loc) (ls : Array Slot), ST G b False s h H locs → lv_has ls 3 [] → W p l e RM_X6_push s m args below meth c H locs 0 0 Q (F0 m 68 ls []) := by
  intro  h hf H locs ls S hl
  unfold f_X6_push_b68 at hf
  have hx := X.1
  have hb := X.2.1
  obtain rfl := Option.some.inj hf
  exact Z _ _ _ _ dX6_push_68 S
def f_X6_push_b47  (a0 : Nat) (a1 : Nat) (h : HP) : Option (HP) :=
  f_X6_push_b68   h
set_option maxRecDepth 100000 in
set_option maxHeartbeats 4000000 in
theorem w_X6_push_b47 (X : CX RX6 cX6_push 3 none p s m args meth c G b) {out : HP} (Z : ZV p l e RM_X6_push s m args below meth c cX6_push G b False 0 0 Q out)  : ∀ (a0 : Nat) (a1 : Nat) (h : HP), f_X6_push_b47  a0 a1 h = some out → ∀ (H : Heap) (locs : List Loc) (ls : Array Slot), ST G b False s h H locs → lv_has ls 3 [(0, .ref (b + a0)), (1, .ref (b + a1))] → W p l e RM_X6_push s m args below meth c H locs 0 0 Q (F0 m 47 ls []) := by
  intro a0 a1 h hf H locs ls S hl
  unfold f_X6_push_b47 at hf
  have hx := X.1
  have hb := X.2.1
  refine lv_null hx hb dX6_push_47 ?_
  refine lv_astore_nN (lv' := [(2, .null), (0, .ref (b + a0)), (1, .ref (b + a1))]) hx hb dX6_push_48 rfl hl (by decide) rfl (fun ls hl => ?_)
  refine lv_aload_nN hx hb dX6_push_49 rfl (lv_at hl 0 rfl) ?_
  refine lv_ifnullN (tgt := 68) hx hb dX6_push_50 (by decide) ?_
  exact w_X6_push_b68 X Z  _ hf _ _ _ S (lv_sub hl [] rfl)
def f_X6_push_b16  (a0 : Nat) (a1 : Nat) (h : HP) : Option (HP) :=
  (gI h a0 6 0).bind fun v1 =>
  if v1 < 0 then
    f_X6_push_b47  a0 a1 h
  else
    (gI h a0 6 0).bind fun v2 =>
    (gR h a0 6 1).bind fun r3 =>
    (alen h r3).bind fun v4 =>
    if v4 ≤ v2 then
      f_X6_push_b47  a0 a1 h
    else
      (gR h a0 6 1).bind fun r5 =>
      (gI h a0 6 0).bind fun v6 =>
      (qld h r5 v6).bind fun r7 =>
      (f_X3_copy r7 a1 h).bind fun h8 =>
      (gI h8 a0 6 0).bind fun v9 =>
      (pI h8 a0 6 0 (v9 + 1)).bind fun h10 =>
      f_X6_push_b68   h10
set_option maxRecDepth 100000 in
set_option maxHeartbeats 4000000 in
theorem w_X6_push_b16 (X : CX RX6 cX6_push 3 none p s m args meth c G b) {out : HP} (Z : ZV p l e RM_X6_push s m args below meth c cX6_push G b False 0 0 Q out)  : ∀ (a0 : Nat) (a1 : Nat) (h : HP), f_X6_push_b16  a0 a1 h = some out → ∀ (H : Heap) (locs : List Loc) (ls : Array Slot), ST G b False s h H locs → lv_has ls 3 [(0, .ref (b + a0)), (1, .ref (b + a1))] → W p l e RM_X6_push s m args below meth c H locs 0 0 Q (F0 m 16 ls []) := by
  intro a0 a1 h hf H locs ls S hl
  unfold f_X6_push_b16 at hf
  have hx := X.1
  have hb := X.2.1
  refine lv_aload_n hx hb dX6_push_16 rfl (lv_at hl 0 rfl) ?_
  obtain ⟨v1, e_v1, hf⟩ := ob hf
  refine r_getI X S fl_X6_18 e_v1 dX6_push_17 ?_
  refine lv_if_lt (tgt := 47) hx hb dX6_push_20 (by decide) (fun hc => ?_) (fun hc => ?_)
  · replace hf := ip hf hc
    exact w_X6_push_b47 X Z  _ _ _ hf _ _ _ S (lv_sub hl [0, 1] rfl)
  · replace hf := im hf hc
    refine lv_aload_n hx hb dX6_push_23 rfl (lv_at hl 0 rfl) ?_
    obtain ⟨v2, e_v2, hf⟩ := ob hf
    refine r_getI X S fl_X6_18 e_v2 dX6_push_24 ?_
    refine lv_aload_n hx hb dX6_push_27 rfl (lv_at hl 0 rfl) ?_
    obtain ⟨r3, e_r3, hf⟩ := ob hf
    refine r_getR X S fl_X6_11 e_r3 dX6_push_28 ?_
    obtain ⟨v4, e_v4, hf⟩ := ob hf
    refine r_alen X S e_v4 dX6_push_31 ?_
    refine lv_icmp_ge (tgt := 47) hx hb dX6_push_32 (by decide) (fun hc => ?_) (fun hc => ?_)
    · replace hf := ip hf hc
      exact w_X6_push_b47 X Z  _ _ _ hf _ _ _ S (lv_sub hl [0, 1] rfl)
    · replace hf := im hf hc
      refine lv_aload_n hx hb dX6_push_35 rfl (lv_at hl 0 rfl) ?_
      obtain ⟨r5, e_r5, hf⟩ := ob hf
      refine r_getR X S fl_X6_11 e_r5 dX6_push_36 ?_
      refine lv_aload_n hx hb dX6_push_39 rfl (lv_at hl 0 rfl) ?_
      obtain ⟨v6, e_v6, hf⟩ := ob hf
      refine r_getI X S fl_X6_18 e_v6 dX6_push_40 ?_
      obtain ⟨r7, e_r7, hf⟩ := ob hf
      refine r_qld X S e_r7 dX6_push_43 ?_
      refine lv_goto (tgt := 48) hx hb dX6_push_44 (by decide) ?_
      refine lv_astore_n (lv' := [(2, .ref (b + r7)), (0, .ref (b + a0)), (1, .ref (b + a1))]) hx hb dX6_push_48 rfl hl (by decide) rfl (fun ls hl => ?_)
      refine lv_aload_n hx hb dX6_push_49 rfl (lv_at hl 0 rfl) ?_
      refine lv_ifnull hx hb dX6_push_50 ?_
      refine lv_aload_n hx hb dX6_push_53 rfl (lv_at hl 0 rfl) ?_
      refine lv_aload_n hx hb dX6_push_54 rfl (lv_at hl 2 rfl) ?_
      obtain ⟨h8, e_h8, hf⟩ := ob hf
      refine r_callV X S hl.1 (As := [.ref (b + a1)]) (rest := []) (c_X3_copy e_h8) my_X3_copy mv_X3_copy ml_X6_25 rfl (o_X3_copy e_h8) ⟨rfl, rfl, Nat.le_of_ble_eq_true rfl, Nat.le_of_ble_eq_true rfl⟩ rfl rfl (Nat.le_of_ble_eq_true rfl) dX6_push_55 ⟨Nat.le_of_ble_eq_true rfl, Nat.le_of_ble_eq_true rfl⟩ (fun H locs S => ?_)
      refine W.eq (g2 := F0 m 58 ls []) rfl ?_
      refine lv_aload_n hx hb dX6_push_58 rfl (lv_at hl 1 rfl) ?_
      refine lv_dup hx hb dX6_push_59 rfl ?_
      obtain ⟨v9, e_v9, hf⟩ := ob hf
      refine r_getI X S fl_X6_18 e_v9 dX6_push_60 ?_
      refine lv_iconst (v := 1) hx hb dX6_push_63 (by decide) ?_
      refine lv_iadd hx hb dX6_push_64 ?_
      obtain ⟨h10, e_h10, hf⟩ := ob hf
      refine r_put X S fp_X6_18 (fun h9 => by cases h9) rfl rfl rfl e_h10 dX6_push_65 (fun H locs S => ?_)
      exact w_X6_push_b68 X Z  _ hf _ _ _ S (lv_sub hl [] rfl)
def f_X6_push_e  (a0 : Nat) (a1 : Nat) (h : HP) : Option (HP) :=
  (gI h a0 6 0).bind fun v1 =>
  (gR h a0 6 1).bind fun r2 =>
  (alen h r2).bind fun v3 =>
  if v1 < v3 then
    f_X6_push_b16  a0 a1 h
  else
    (f_X6_dropOldest a0 h).bind fun h4 =>
    f_X6_push_b16  a0 a1 h4
set_option maxRecDepth 100000 in
set_option maxHeartbeats 4000000 in
theorem w_X6_push_e (X : CX RX6 cX6_push 3 none p s m args meth c G b) {out : HP} (Z : ZV p l e RM_X6_push s m args below meth c cX6_push G b False 0 0 Q out)  : ∀ (a0 : Nat) (a1 : Nat) (h : HP), f_X6_push_e  a0 a1 h = some out → ∀ (H : Heap) (locs : List Loc) (ls : Array Slot), ST G b False s h H locs → lv_has ls 3 [(0, .ref (b + a0)), (1, .ref (b + a1))] → W p l e RM_X6_push s m args below meth c H locs 0 0 Q (F0 m 0 ls []) := by
  intro a0 a1 h hf H locs ls S hl
  unfold f_X6_push_e at hf
  have hx := X.1
  have hb := X.2.1
  refine lv_aload_n hx hb dX6_push_0 rfl (lv_at hl 0 rfl) ?_
  obtain ⟨v1, e_v1, hf⟩ := ob hf
  refine r_getI X S fl_X6_18 e_v1 dX6_push_1 ?_
  refine lv_aload_n hx hb dX6_push_4 rfl (lv_at hl 0 rfl) ?_
  obtain ⟨r2, e_r2, hf⟩ := ob hf
  refine r_getR X S fl_X6_11 e_r2 dX6_push_5 ?_
  obtain ⟨v3, e_v3, hf⟩ := ob hf
  refine r_alen X S e_v3 dX6_push_8 ?_
  refine lv_icmp_lt (tgt := 16) hx hb dX6_push_9 (by decide) (fun hc => ?_) (fun hc => ?_)
  · replace hf := ip hf hc
    exact w_X6_push_b16 X Z  _ _ _ hf _ _ _ S (lv_sub hl [0, 1] rfl)
  · replace hf := im hf hc
    refine lv_aload_n hx hb dX6_push_12 rfl (lv_at hl 0 rfl) ?_
    obtain ⟨h4, e_h4, hf⟩ := ob hf
    refine r_callV X S hl.1 (As := []) (rest := []) (c_X6_dropOldest e_h4) my_X6_dropOldest mv_X6_dropOldest ml_X6_22 rfl (o_X6_dropOldest e_h4) ⟨rfl, rfl, Nat.le_of_ble_eq_true rfl, Nat.le_of_ble_eq_true rfl⟩ rfl rfl (Nat.le_of_ble_eq_true rfl) dX6_push_13 ⟨Nat.le_of_ble_eq_true rfl, Nat.le_of_ble_eq_true rfl⟩ (fun H locs S => ?_)
    refine W.eq (g2 := F0 m 16 ls []) rfl ?_
    exact w_X6_push_b16 X Z  _ _ _ hf _ _ _ S (lv_sub hl [0, 1] rfl)
def f_X6_push (a0 : Nat) (a1 : Nat) (h : HP) : Option (HP) := ck h a0 6 (f_X6_push_e a0 a1 h)
theorem o_X6_push {a0 : Nat} {a1 : Nat} {h : HP} {out : HP} (hf : f_X6_push a0 a1 h = some out) : ∃ fs, h[a0]? = some (.inl (6, fs)) := (ck_spec hf).1
set_option maxRecDepth 100000 in
theorem c_X6_push {l : Launch} {G : GT} {b : Nat} {a0 : Nat} {a1 : Nat} {h : HP} {out : HP} (hf : f_X6_push a0 a1 h = some out) : MT l G b False False yX6_push cX6_push 3 none RM_X6_push [.ref (b + a0), .ref (b + a1)] h none out 0 0 := by
  refine met_of (by decide) (Nat.le_of_ble_eq_true rfl) ?_
  intro p e s m below meth c ls X hnm S hl
  have hl : lv_has ls 3 [(0, .ref (b + a0)), (1, .ref (b + a1))] := hl
  replace hf := (ck_spec hf).2
  exact w_X6_push_e X (z_v X) _ _ _ hf _ _ _ S hl
end M05
