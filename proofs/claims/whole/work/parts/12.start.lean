theorem ii_X0 : Cond.instantiable RX0 3 ∈ tg := tg_in 186 (by decide +kernel) (by decide +kernel)
theorem ii_X1 : Cond.instantiable RX1 8 ∈ tg := tg_in 153 (by decide +kernel) (by decide +kernel)
theorem ii_X2 : Cond.instantiable RX2 1 ∈ tg := tg_in 248 (by decide +kernel) (by decide +kernel)
theorem ii_X3 : Cond.instantiable RX3 6 ∈ tg := tg_in 120 (by decide +kernel) (by decide +kernel)
theorem ii_X4 : Cond.instantiable RX4 3 ∈ tg := tg_in 260 (by decide +kernel) (by decide +kernel)
theorem ii_X5 : Cond.instantiable RX5 6 ∈ tg := tg_in 221 (by decide +kernel) (by decide +kernel)
theorem ii_X6 : Cond.instantiable RX6 2 ∈ tg := tg_in 204 (by decide +kernel) (by decide +kernel)
theorem ii_X7 : Cond.instantiable RX7 6 ∈ tg := tg_in 92 (by decide +kernel) (by decide +kernel)
theorem ii_X8 : Cond.instantiable RX8 9 ∈ tg := tg_in 84 (by decide +kernel) (by decide +kernel)
theorem ii_X9 : Cond.instantiable RX9 28 ∈ tg := tg_in 787 (by decide +kernel) (by decide +kernel)
theorem ao_X3 : Cond.arrayOver (.object RX3) ∈ lw_tbl := List.mem_of_getElem? (i := 210) (by decide +kernel)
theorem ao_X4 : Cond.arrayOver (.object RX4) ∈ lw_tbl := List.mem_of_getElem? (i := 259) (by decide +kernel)
theorem nwt_0 : ∃ q, nwL[0]? = some q ∧ nwC q ∈ lw_tbl := ⟨_, rfl, List.mem_of_getElem? (i := 93) (by decide +kernel)⟩
theorem nwt_1 : ∃ q, nwL[1]? = some q ∧ nwC q ∈ lw_tbl := ⟨_, rfl, List.mem_of_getElem? (i := 121) (by decide +kernel)⟩
theorem nwt_2 : ∃ q, nwL[2]? = some q ∧ nwC q ∈ lw_tbl := ⟨_, rfl, List.mem_of_getElem? (i := 154) (by decide +kernel)⟩
theorem nwt_3 : ∃ q, nwL[3]? = some q ∧ nwC q ∈ lw_tbl := ⟨_, rfl, List.mem_of_getElem? (i := 187) (by decide +kernel)⟩
theorem nwt_4 : ∃ q, nwL[4]? = some q ∧ nwC q ∈ lw_tbl := ⟨_, rfl, List.mem_of_getElem? (i := 211) (by decide +kernel)⟩
theorem nwt_5 : ∃ q, nwL[5]? = some q ∧ nwC q ∈ lw_tbl := ⟨_, rfl, List.mem_of_getElem? (i := 222) (by decide +kernel)⟩
theorem nwt_6 : ∃ q, nwL[6]? = some q ∧ nwC q ∈ lw_tbl := ⟨_, rfl, List.mem_of_getElem? (i := 249) (by decide +kernel)⟩
theorem nwt_7 : ∃ q, nwL[7]? = some q ∧ nwC q ∈ lw_tbl := ⟨_, rfl, List.mem_of_getElem? (i := 261) (by decide +kernel)⟩
theorem nwt_8 : ∃ q, nwL[8]? = some q ∧ nwC q ∈ lw_tbl := ⟨_, rfl, List.mem_of_getElem? (i := 266) (by decide +kernel)⟩
theorem nwt_9 : ∃ q, nwL[9]? = some q ∧ nwC q ∈ lw_tbl := ⟨_, rfl, List.mem_of_getElem? (i := 318) (by decide +kernel)⟩
theorem nwt_10 : ∃ q, nwL[10]? = some q ∧ nwC q ∈ lw_tbl := ⟨_, rfl, List.mem_of_getElem? (i := 353) (by decide +kernel)⟩
theorem nwt_11 : ∃ q, nwL[11]? = some q ∧ nwC q ∈ lw_tbl := ⟨_, rfl, List.mem_of_getElem? (i := 371) (by decide +kernel)⟩
theorem nwt_12 : ∃ q, nwL[12]? = some q ∧ nwC q ∈ lw_tbl := ⟨_, rfl, List.mem_of_getElem? (i := 391) (by decide +kernel)⟩
theorem nwt_13 : ∃ q, nwL[13]? = some q ∧ nwC q ∈ lw_tbl := ⟨_, rfl, List.mem_of_getElem? (i := 443) (by decide +kernel)⟩
theorem nwt_14 : ∃ q, nwL[14]? = some q ∧ nwC q ∈ lw_tbl := ⟨_, rfl, List.mem_of_getElem? (i := 450) (by decide +kernel)⟩
theorem nwt_15 : ∃ q, nwL[15]? = some q ∧ nwC q ∈ lw_tbl := ⟨_, rfl, List.mem_of_getElem? (i := 457) (by decide +kernel)⟩
theorem nwt_16 : ∃ q, nwL[16]? = some q ∧ nwC q ∈ lw_tbl := ⟨_, rfl, List.mem_of_getElem? (i := 458) (by decide +kernel)⟩
theorem nwt_17 : ∃ q, nwL[17]? = some q ∧ nwC q ∈ lw_tbl := ⟨_, rfl, List.mem_of_getElem? (i := 459) (by decide +kernel)⟩
theorem nwt_18 : ∃ q, nwL[18]? = some q ∧ nwC q ∈ lw_tbl := ⟨_, rfl, List.mem_of_getElem? (i := 466) (by decide +kernel)⟩
theorem nwt_19 : ∃ q, nwL[19]? = some q ∧ nwC q ∈ lw_tbl := ⟨_, rfl, List.mem_of_getElem? (i := 477) (by decide +kernel)⟩
theorem nwt_20 : ∃ q, nwL[20]? = some q ∧ nwC q ∈ lw_tbl := ⟨_, rfl, List.mem_of_getElem? (i := 495) (by decide +kernel)⟩
theorem nwt_21 : ∃ q, nwL[21]? = some q ∧ nwC q ∈ lw_tbl := ⟨_, rfl, List.mem_of_getElem? (i := 500) (by decide +kernel)⟩
theorem nwt_22 : ∃ q, nwL[22]? = some q ∧ nwC q ∈ lw_tbl := ⟨_, rfl, List.mem_of_getElem? (i := 513) (by decide +kernel)⟩
theorem nwt_23 : ∃ q, nwL[23]? = some q ∧ nwC q ∈ lw_tbl := ⟨_, rfl, List.mem_of_getElem? (i := 522) (by decide +kernel)⟩
theorem nwt_24 : ∃ q, nwL[24]? = some q ∧ nwC q ∈ lw_tbl := ⟨_, rfl, List.mem_of_getElem? (i := 527) (by decide +kernel)⟩
theorem nwt_25 : ∃ q, nwL[25]? = some q ∧ nwC q ∈ lw_tbl := ⟨_, rfl, List.mem_of_getElem? (i := 528) (by decide +kernel)⟩
theorem nwt_26 : ∃ q, nwL[26]? = some q ∧ nwC q ∈ lw_tbl := ⟨_, rfl, List.mem_of_getElem? (i := 529) (by decide +kernel)⟩
theorem nwt_27 : ∃ q, nwL[27]? = some q ∧ nwC q ∈ lw_tbl := ⟨_, rfl, List.mem_of_getElem? (i := 705) (by decide +kernel)⟩
theorem nwt_28 : ∃ q, nwL[28]? = some q ∧ nwC q ∈ lw_tbl := ⟨_, rfl, List.mem_of_getElem? (i := 721) (by decide +kernel)⟩
theorem nwt_29 : ∃ q, nwL[29]? = some q ∧ nwC q ∈ lw_tbl := ⟨_, rfl, List.mem_of_getElem? (i := 735) (by decide +kernel)⟩
theorem nwt_30 : ∃ q, nwL[30]? = some q ∧ nwC q ∈ lw_tbl := ⟨_, rfl, List.mem_of_getElem? (i := 736) (by decide +kernel)⟩
theorem nw_all : ∀ q ∈ nwL, nwC q ∈ lw_tbl := by
  have h : ∀ k, k < 31 → ∃ q, nwL[k]? = some q ∧ nwC q ∈ lw_tbl := lt_s (lt_s (lt_s (lt_s (lt_s (lt_s (lt_s (lt_s (lt_s (lt_s (lt_s (lt_s (lt_s (lt_s (lt_s (lt_s (lt_s (lt_s (lt_s (lt_s (lt_s (lt_s (lt_s (lt_s (lt_s (lt_s (lt_s (lt_s (lt_s (lt_s (lt_s (lt_0) nwt_0) nwt_1) nwt_2) nwt_3) nwt_4) nwt_5) nwt_6) nwt_7) nwt_8) nwt_9) nwt_10) nwt_11) nwt_12) nwt_13) nwt_14) nwt_15) nwt_16) nwt_17) nwt_18) nwt_19) nwt_20) nwt_21) nwt_22) nwt_23) nwt_24) nwt_25) nwt_26) nwt_27) nwt_28) nwt_29) nwt_30
  intro q hq
  obtain ⟨k, hk⟩ := List.getElem?_of_mem hq
  obtain ⟨q', h1, h2⟩ := h k ((List.getElem?_eq_some_iff.mp hk).1)
  rw [hk] at h1
  cases h1
  exact h2
def StepAll (Inv : HP → Prop) : Prop := SK1 f_X8_feed f_X9_feed Inv ∧ SK0 f_X8_hostel f_X9_hostel Inv ∧ SK0 f_X8_fault f_X9_fault Inv ∧ SK1 f_X8_told f_X9_told Inv ∧ SK2 f_X8_person f_X9_person Inv ∧ SK2 f_X8_likes f_X9_likes Inv ∧ SK2 f_X8_room f_X9_room Inv ∧ SK3 f_X8_like f_X9_like Inv ∧ SK2 f_X8_strike f_X9_strike Inv ∧ SK2 f_X8_lot f_X9_lot Inv ∧ SK1 f_X8_refuse f_X9_refuse Inv ∧ SK0 f_X8_moved f_X9_moved Inv ∧ SK1 f_X8_leave f_X9_leave Inv ∧ SK1 f_X8_drift f_X9_drift Inv ∧ SK1 f_X8_undo f_X9_undo Inv ∧ SK2 f_X8_otherwise f_X9_otherwise Inv ∧ SK2 f_X8_odds f_X9_odds Inv ∧ SK2 f_X8_quiet f_X9_quiet Inv ∧ SKZ f_X8_see f_X9_see Inv ∧ SK0 f_X8_couldBe f_X9_couldBe Inv ∧ SK0 f_X8_ask f_X9_ask Inv ∧ SK2 f_X8_write f_X9_write Inv ∧ SK0 f_X8_judge f_X9_judge Inv ∧ SK0 f_X8_tear f_X9_tear Inv ∧ SK1 f_X8_seed f_X9_seed Inv ∧ SK1 f_X8_keep f_X9_keep Inv ∧ SK1 f_X8_goBack f_X9_goBack Inv
def HA : HP := hpush [] (.inl (8, [.inr none, .inr none, .inr none, .inr none, .inr none, .inr none, .inr none, .inr none, .inr none]))
def HC : HP := (f_X8_init 0 HA).getD []
def HB : HP := hpush HC (.inl (9, [.inr none, .inl 0, .inl 0, .inl 0, .inl 0, .inr none, .inl 0, .inl 0, .inr none, .inr none, .inr none, .inl 0, .inr none, .inr none, .inr none, .inl 0, .inr none, .inr none, .inl 0, .inl 0, .inl 0, .inl 0, .inl 0, .inl 0, .inl 0, .inl 0, .inl 0, .inr none]))
def HM : HP := (f_X9_init 142 HB).getD []
theorem som {α : Type} {o : Option α} {d : α} (h : o.isSome = true) : o = some (o.getD d) := by
  cases o with
  | none => cases h
  | some a => rfl
set_option maxRecDepth 100000 in
theorem ha_e : f_X8_init 0 HA = some HC := som (by decide +kernel)
set_option maxRecDepth 100000 in
theorem hc_len : HC.length = 142 := by decide +kernel
set_option maxRecDepth 100000 in
theorem hb_e : f_X9_init 142 HB = some HM := som (by decide +kernel)
theorem rk_start {s : State} {args : Array Value} (hts : ∀ w ∈ lw_tbl, w.before args s = true) : ∃ G : GT, RK G s := by
  have htg : ∀ w ∈ tg, w.before args s = true := fun w hw => hts w (List.mem_filter.mp hw).1
  obtain ⟨c0, s0, k0⟩ := u_known (C := RX0) (T := TX0) (N := 3) (n := 3) htg in_X0 (htg _ ii_X0)
  obtain ⟨c1, s1, k1⟩ := u_known (C := RX1) (T := TX1) (N := 8) (n := 8) htg in_X1 (htg _ ii_X1)
  obtain ⟨c2, s2, k2⟩ := u_known (C := RX2) (T := TX2) (N := 1) (n := 1) htg in_X2 (htg _ ii_X2)
  obtain ⟨c3, s3, k3⟩ := u_known (C := RX3) (T := TX3) (N := 6) (n := 6) htg in_X3 (htg _ ii_X3)
  obtain ⟨c4, s4, k4⟩ := u_known (C := RX4) (T := TX4) (N := 3) (n := 3) htg in_X4 (htg _ ii_X4)
  obtain ⟨c5, s5, k5⟩ := u_known (C := RX5) (T := TX5) (N := 6) (n := 6) htg in_X5 (htg _ ii_X5)
  obtain ⟨c6, s6, k6⟩ := u_known (C := RX6) (T := TX6) (N := 2) (n := 2) htg in_X6 (htg _ ii_X6)
  obtain ⟨c7, s7, k7⟩ := u_known (C := RX7) (T := TX7) (N := 6) (n := 6) htg in_X7 (htg _ ii_X7)
  obtain ⟨c8, s8, k8⟩ := u_known (C := RX8) (T := TX8) (N := 9) (n := 9) htg in_X8 (htg _ ii_X8)
  obtain ⟨c9, s9, k9⟩ := u_known (C := RX9) (T := TX9) (N := 28) (n := 28) htg in_X9 (htg _ ii_X9)
  obtain ⟨cI, kI, compI, a1, a2, a3⟩ := Cond.arrayClass_spec (htg _ ac_int)
  obtain ⟨comp3, cH, kH, b1, -, b3, b4, b5⟩ := Cond.arrayOver_spec (hts _ ao_X3)
  obtain ⟨comp4, cM, kM, d1, -, d3, d4, d5⟩ := Cond.arrayOver_spec (hts _ ao_X4)
  refine ⟨((fun k => match k with | 0 => c0 | 1 => c1 | 2 => c2 | 3 => c3 | 4 => c4 | 5 => c5 | 6 => c6 | 7 => c7 | 8 => c8 | _ => c9, fun k => match k with | 0 => s0 | 1 => s1 | 2 => s2 | 3 => s3 | 4 => s4 | 5 => s5 | 6 => s6 | 7 => s7 | 8 => s8 | _ => s9), cI, cH, cM), ⟨?_, ?_⟩, fun q hq => va_Nw.of rfl (hts _ (nw_all q hq)), va_AO.of (hts _ ao_X3), va_AO.of (hts _ ao_X4)⟩
  · intro k q hq
    match k, hq with
    | 0, hq => cases hq; exact k0
    | 1, hq => cases hq; exact k1
    | 2, hq => cases hq; exact k2
    | 3, hq => cases hq; exact k3
    | 4, hq => cases hq; exact k4
    | 5, hq => cases hq; exact k5
    | 6, hq => cases hq; exact k6
    | 7, hq => cases hq; exact k7
    | 8, hq => cases hq; exact k8
    | 9, hq => cases hq; exact k9
    | k + 10, hq => simp [vwCl] at hq
  · intro k q hq
    match k, hq with
    | 0, hq => cases hq; exact ⟨fun n z => ⟨(fun k h => by cases h), kI, a2, compI, a3⟩, a1⟩
    | 1, hq => cases hq; exact ⟨fun n z => ⟨(fun k h => by cases h), kH, b3, comp3, b4⟩, kH, comp3, b3, b4, b1, b5⟩
    | 2, hq => cases hq; exact ⟨fun n z => ⟨(fun k h => by cases h), kM, d3, comp4, d4⟩, kM, comp4, d3, d4, d1, d5⟩
    | k + 3, hq => simp [RT] at hq
set_option maxRecDepth 100000 in
set_option maxHeartbeats 4000000 in
/-- THE LAW FROM ITS ENTRY, out of what every call keeps -/
theorem whole_of {Inv : HP → Prop} (h0 : Inv HM) (tt : StepAll Inv) {p : Program} {e : Env} {s : State} {m : MethodId} {below : List Frame} {meth : Method} {c : Code} (l : Launch) {b L : Nat} {xs : Nat → Int32} (hL : L ≤ 2048) (C0 : lw_At p s m meth c b L xs) : W p l e room_1 s m #[Value.ref b] below meth c s.heap [] 0 0 (lw_Z below #[Value.ref b] s) (entryFrame m ([Value.ref b] : List Value).toArray 4) := by
  obtain ⟨hx, hb, hr, hml, hown, hts, hX, hbl, hlocks, hgv⟩ := C0
  obtain ⟨G, hK⟩ := rk_start hts
  have X : CX RL cL_law 4 (some .boolean) p s m #[Value.ref b] meth c G s.heap.size := ⟨hx, hb, hml, hown, fun w hw => hts w (List.mem_filter.mp hw).1, hr, hlocks, hK, Nat.le_refl _⟩
  have S : ST G s.heap.size True s [] s.heap [] := ⟨⟨fun k q h => by simp [rwW] at h, fun _ => rfl⟩, va_S.rf⟩
  have hbA : ¬ AB s.heap.size b := Nat.not_le.mpr hbl
  obtain ⟨B, hB⟩ : ∃ B, B = s.heap.size := ⟨_, rfl⟩
  rw [← hB] at X S hbA
  have hl := lv_entry ([.ref b]) (n := 4) (Nat.le_of_ble_eq_true rfl)
  rw [lg_entry_eq]
  generalize (lg_sl ([.ref b]) ++ List.replicate (4 - (lg_sl ([.ref b])).length) Slot.unset).toArray = ls at hl ⊢
  have hl : lv_has ls 4 [(0, .ref b)] := hl
  refine r_new X S nw_L_7 (Nat.le_of_ble_eq_true rfl) (Nat.le_of_ble_eq_true rfl) dL_law_0 (fun H locs S => ?_)
  have S : ST G B True s HA H locs := S
  refine W.widen (k := 1) (n := 9) (Nat.le_of_ble_eq_true rfl) (Nat.le_of_ble_eq_true rfl) ?_
  refine W.eq (g2 := F0 m 3 ls [.ref (B + 0)]) rfl ?_
  refine lv_dup hx hb dL_law_3 rfl ?_
  refine r_callI X S hl.1 (As := []) (rest := [.ref (B + 0)]) (c_X8_init ha_e) my_X8_init rfl mi_X8_init ml_L_9 ⟨rfl, rfl, Nat.le_of_ble_eq_true rfl, Nat.le_of_ble_eq_true rfl⟩ rfl rfl (Nat.le_of_ble_eq_true rfl) dL_law_4 ⟨Nat.le_of_ble_eq_true rfl, Nat.le_of_ble_eq_true rfl⟩ (fun H locs S => ?_)
  refine W.widen (k := 142) (n := 2119) (Nat.le_of_ble_eq_true rfl) (Nat.le_of_ble_eq_true rfl) ?_
  refine lv_astore_n (lv' := [(1, .ref (B + 0)), (0, .ref b)]) hx hb dL_law_7 rfl hl (by decide) rfl (fun ls hl => ?_)
  refine r_new X S nw_L_10 (Nat.le_of_ble_eq_true rfl) (Nat.le_of_ble_eq_true rfl) dL_law_8 (fun H locs S => ?_)
  have S : ST G B True s HB H locs := S
  refine W.widen (k := 143) (n := 2147) (Nat.le_of_ble_eq_true rfl) (Nat.le_of_ble_eq_true rfl) ?_
  rw [hc_len]
  refine W.eq (g2 := F0 m 11 ls [.ref (B + 142)]) rfl ?_
  refine lv_dup hx hb dL_law_11 rfl ?_
  refine r_callI X S hl.1 (As := []) (rest := [.ref (B + 142)]) (c_X9_init hb_e) my_X9_init rfl mi_X9_init ml_L_12 ⟨rfl, rfl, Nat.le_of_ble_eq_true rfl, Nat.le_of_ble_eq_true rfl⟩ rfl rfl (Nat.le_of_ble_eq_true rfl) dL_law_12 ⟨Nat.le_of_ble_eq_true rfl, Nat.le_of_ble_eq_true rfl⟩ (fun H locs S => ?_)
  refine W.widen (k := CC) (n := SS) (Nat.le_of_ble_eq_true rfl) (Nat.le_of_ble_eq_true rfl) ?_
  refine lv_astore_n (lv' := [(2, .ref (B + 142)), (1, .ref (B + 0)), (0, .ref b)]) hx hb dL_law_15 rfl hl (by decide) rfl (fun ls hl => ?_)
  refine lv_iconst (v := 0) hx hb dL_law_16 (by decide) ?_
  refine lv_istore_n (lv' := [(3, .int 0), (2, .ref (B + 142)), (1, .ref (B + 0)), (0, .ref b)]) hx hb dL_law_17 rfl hl (by decide) rfl (fun ls hl => ?_)
  obtain ⟨t0, t1, t2, t3, t4, t5, t6, t7, t8, t9, t10, t11, t12, t13, t14, t15, t16, t17, t18, t19, t20, t21, t22, t23, t24, t25, t26⟩ := tt
  exact law_loop X hr hlocks hL hB hX hbl hbA t0 t1 t2 t3 t4 t5 t6 t7 t8 t9 t10 t11 t12 t13 t14 t15 t16 t17 t18 t19 t20 t21 t22 t23 t24 t25 t26 (L + 5) 0 _ _ _ _ (by omega) (by omega) h0 S.low (lv_sub hl [3, 2, 1, 0] rfl)
