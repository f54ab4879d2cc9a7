theorem s_lot : SK2 f_X8_lot f_X9_lot Inv := by
  intro h x y hI
  obtain ⟨F, A, S, M, I⟩ := id hI
  have Y := I.2.1
  have hP := Y.p6
  obtain ⟨t, e1, e2, ht⟩ := both_person M I x
  have e8 : f_X8_lot 0 x y h = if bI t = 0 then some (-1000000001, h) else if y < 0 then some (-1000000002, h) else if y < nI (cP S) then (f_X3_placeOf 3 x h).bind fun q6 => (gR q6.2 0 8 5).bind fun r7 => (gR q6.2 0 8 1).bind fun r8 => (f_X6_push r7 r8 q6.2).bind fun h9 => (gR h9 0 8 1).bind fun r10 => (f_X3_toPlace r10 x y h9).bind fun h11 => some (q6.1, h11) else some (-1000000002, h) := by
    unfold f_X8_lot f_X8_lot_e f_X8_lot_b29
    rw [I.1.chk, I.1.r 1 rfl, bs, e1, bs]
    show (if bI t = 0 then some (-1000000001, h) else if y < 0 then some (-1000000002, h) else (gR h 0 8 1).bind fun r3 => (gI h r3 3 1).bind fun v4 => if y < v4 then (gR h 0 8 1).bind _ else _) = _
    rw [I.1.r 1 rfl, bs, I.2.2.1.pers, bs, bs]
  have e9 : ∀ h1 F1 A1, MM h1 F1 A1 → F1 2 = nI (cP S) → f_X9_lot 142 x y h1 = if bI t = 0 then some (-1000000001, h1) else if bI (decide (¬ y < 0 ∧ ¬ nI (cP S) - 1 < y)) = 0 then some (-1000000002, h1) else (f_X9_remember 142 h1).bind fun h4 => (f_X9_placeInLots 142 x h4).bind fun q5 => (f_X9_setLot 142 x y q5.2).bind fun h6 => some (q5.1, h6) := by
    intro h1 F1 A1 M1 f2
    unfold f_X9_lot f_X9_lot_e
    rw [M1.chk, e2 h1 F1 A1 M1 f2, bs]
    show (if bI t = 0 then some (-1000000001, h1) else (gI h1 142 9 2).bind fun v2 => (f_X9_in y 0 (v2 - 1) h1).bind _) = _
    rw [M1.g 2 rfl, bs, f2, p_in, bs]
  cases t with
  | false => exact ⟨-1000000001, h, h, by rw [e8]; rfl, by rw [e9 h F A M I.2.2.2.2.1]; rfl, hI⟩
  | true =>
    obtain ⟨p, hp, rfl⟩ := ht.mp rfl
    rw [if_neg b1n] at e8
    by_cases hz : ¬ y < 0 ∧ ¬ nI (cP S) - 1 < y
    · obtain ⟨c, hc, rfl⟩ := (in_iff (by omega)).mp hz
      obtain ⟨i, hi, hi2⟩ := ord_idx Y hp
      rw [if_neg hz.1, if_pos (nI_lt hc (by omega)), p_placeOf I.2.2.1 Y (by omega), bs, hi] at e8
      obtain ⟨ps, k, C, f, T⟩ := I.opn
      obtain ⟨h1, p1, C1⟩ := C.psh Y
      obtain ⟨h2, p2, V2, X2⟩ := p_toPlace C1.2.1 Y hp hc
      have C2 := C1.hou X2 V2
      have Y2 : VS (setOd S (movC (cO S) p c)) := Y.od movC_perm
      have M2 := C2.mm M
      obtain ⟨h3, F3, A3, p3, G3, -⟩ := (MC.start M2 f).rem Y T.2.1
      obtain ⟨h4, A4, p4, G4⟩ := G3.lot Y (T.2.1.push Y) hp hc
      refine ⟨nI i, h2, h4, ?_, ?_, close_all I C2 G4 ⟨Y2, (T.2.1.push Y).to rfl rfl, T.2.2⟩ rfl rfl⟩
      · rw [e8]
        show (gR h 0 8 5).bind _ = _
        rw [C.1.r 5 rfl, bs]
        show (gR h 0 8 1).bind _ = _
        rw [C.1.r 1 rfl, bs]
        show (f_X6_push 21 3 h).bind _ = _
        rw [p1, bs, C1.1.r 1 rfl, bs, p2, bs]
        rfl
      · rw [e9 h2 F A M2 I.2.2.2.2.1, if_neg b1n, if_neg (by rw [decide_eq_true hz]; exact b1n), p3, bs, p_placeInLots G3.1 G3.2.1.2.2.1 Y hp hi, bs, p4, bs]
    · refine ⟨-1000000002, h, h, ?_, ?_, hI⟩
      · rw [e8]
        by_cases h0 : y < 0
        · rw [if_pos h0]
        · rw [if_neg h0, if_neg (fun q => hz ((in_iff (by omega)).mpr (by
            obtain ⟨j, hj, rfl⟩ := nI_of h0
            exact ⟨j, (nI_ltI hj (by omega)).mp q, rfl⟩)))]
      · rw [e9 h F A M I.2.2.2.2.1, if_neg b1n, if_pos (by rw [decide_eq_false hz]; rfl)]
theorem VS.leave {S : CS} (Y : VS S) (p : Nat) : VS (setSeat S p none) := by
  refine ⟨Y.1, Y.2.1, fun q hq r hr => ?_, fun q z hq hz he hn => ?_, Y.2.2.2.2⟩
  · have hr : (if q = p then none else cS S q) = some r := hr
    by_cases hqp : q = p
    · rw [if_pos hqp] at hr; cases hr
    · rw [if_neg hqp] at hr; exact Y.2.2.1 q hq r hr
  · have he : (if q = p then none else cS S q) = (if z = p then none else cS S z) := he
    have hn : (if q = p then none else cS S q) ≠ none := hn
    by_cases hqp : q = p
    · rw [if_pos hqp] at hn; exact absurd rfl hn
    · rw [if_neg hqp] at hn he
      by_cases hzp : z = p
      · rw [if_pos hzp] at he; exact absurd he hn
      · rw [if_neg hzp] at he
        exact Y.2.2.2.1 q z hq hz he hn
theorem s_leave : SK1 f_X8_leave f_X9_leave Inv := by
  intro h x hI
  obtain ⟨F, A, S, M, I⟩ := id hI
  have Y := I.2.1
  have hP := Y.p6
  obtain ⟨t, e1, e2, ht⟩ := both_person M I x
  cases t with
  | false =>
    refine ⟨-1000000001, h, h, ?_, ?_, hI⟩
    · unfold f_X8_leave f_X8_leave_e
      rw [I.1.chk, I.1.r 1 rfl, bs, e1, bs, if_pos (by rfl)]
    · unfold f_X9_leave f_X9_leave_e
      rw [M.chk, e2 h F A M I.2.2.2.2.1, bs, if_pos (by rfl)]
  | true =>
    obtain ⟨p, hp, rfl⟩ := ht.mp rfl
    have e8 : f_X8_leave 0 (nI p) h = if enc (cS S p) = -1 then some (-1000000003, h) else (f_X6_push 21 3 h).bind fun h7 => (gR h7 0 8 1).bind fun r8 => (f_X3_seat r8 (nI p) (-1) h7).bind fun h9 => some (enc (cS S p), h9) := by
      unfold f_X8_leave f_X8_leave_e
      rw [I.1.chk, I.1.r 1 rfl, bs, e1, bs, if_neg b1n]
      show (gR h 0 8 1).bind _ = _
      rw [I.1.r 1 rfl, bs]
      show (f_X3_seatOf 3 (nI p) h).bind _ = _
      rw [p_seatOf I.2.2.1 Y hp, bs]
      show (if enc (cS S p) = -1 then some (-1000000003, h) else (gR h 0 8 5).bind fun r5 => (gR h 0 8 1).bind _) = _
      rw [I.1.r 5 rfl, bs, I.1.r 1 rfl, bs]
    have e9 : ∀ h1, MM h1 F A → f_X9_leave 142 (nI p) h1 = if enc (cS S p) = -1 then some (-1000000003, h1) else (f_X9_remember 142 h1).bind fun h4 => (gR h4 142 9 0).bind fun r5 => (ast h4 r5 (54 + nI p) (-1)).bind fun h6 => some (enc (cS S p), h6) := by
      intro h1 M1
      have hw := I.2.2.2.2.2.1.1 p hp
      rw [Nat.zero_add] at hw
      unfold f_X9_leave f_X9_leave_e
      rw [M1.chk, e2 h1 F A M1 I.2.2.2.2.1, bs, if_neg b1n]
      show (gR h1 142 9 0).bind _ = _
      rw [M1.r 0 rfl, bs]
      show (ald h1 (143 + 0) (nI 54 + nI p)).bind _ = _
      rw [nI_add, M1.ald 0 (by omega) (show 54 + p < 1608 by omega), bs, hw]
    cases hs : cS S p with
    | none => exact ⟨-1000000003, h, h, by rw [e8, hs]; rfl, by rw [e9 h M, hs]; rfl, hI⟩
    | some r =>
      have hr := Y.seat hp hs
      have hne : ¬ enc (cS S p) = -1 := by rw [hs]; exact nI_neg1 (by omega)
      rw [if_neg hne] at e8
      obtain ⟨ps, k, C, f, T⟩ := I.opn
      obtain ⟨h1, p1, C1⟩ := C.psh Y
      obtain ⟨h2, p2, V2, X2⟩ := p_seat C1.2.1 Y hp none
      have p2 : f_X3_seat 3 (nI p) (-1) h1 = some h2 := p2
      have C2 := C1.hou X2 V2
      have Y2 := Y.leave p
      have M2 := C2.mm M
      obtain ⟨h3, F3, A3, p3, G3, -⟩ := (MC.start M2 f).rem Y T.2.1
      obtain ⟨h4, p4, M4, X4⟩ := G3.1.ast 0 (by omega) (show 54 + p < 1608 by omega) (-1)
      have R3 := G3.2.1.2.2.1
      have G4 : MC h2 F A h4 F3 _ (setSeat S p none) (pushL ps S) k := G3.row (T.2.1.push Y) M4 X4 (by
        refine ⟨fun q hq => ?_, fun q hq => ?_, fun q hq j y hj => ?_, fun j y hj => ?_⟩
        · have hq : q < cP S := hq
          by_cases hqp : q = p
          · subst hqp
            rw [Nat.zero_add, us]
            show -1 = enc (if q = q then none else cS S q)
            rw [if_pos rfl]; rfl
          · rw [un (by omega), R3.1 q hq]
            show _ = enc (if q = p then none else cS S q)
            rw [if_neg hqp]
        · have hq : q < cP S := hq
          rw [un (by omega)]; exact R3.2.1 q hq
        · have hq : q < cP S := hq
          have := Y.len hq
          have hj : (cL S q)[j]? = some y := hj
          have := (List.getElem?_eq_some_iff.mp hj).1
          rw [un (by omega)]; exact R3.2.2.1 q hq j y hj
        · rw [un (by omega)]; exact R3.2.2.2 j y hj) rfl rfl (fun j hj => un (by omega))
      refine ⟨enc (cS S p), h2, h4, ?_, ?_, close_all I C2 G4 ⟨Y2, (T.2.1.push Y).to rfl rfl, T.2.2⟩ rfl rfl⟩
      · rw [e8, p1, bs, C1.1.r 1 rfl, bs, p2, bs]
      · rw [e9 h2 M2, if_neg hne, p3, bs, G3.1.r 0 rfl, bs]
        show (ast h3 (143 + 0) (nI 54 + nI p) _).bind _ = _
        rw [nI_add, p4, bs]
theorem s_moved : SK0 f_X8_moved f_X9_moved Inv := by
  intro h hI
  obtain ⟨F, A, S, M, I⟩ := id hI
  have Y := I.2.1
  have hP := Y.p6
  by_cases h0 : cP S = 0
  · refine ⟨-1000000003, h, h, ?_, ?_, hI⟩
    · unfold f_X8_moved f_X8_moved_e
      rw [I.1.chk, I.1.r 1 rfl, bs, I.2.2.1.pers, bs, h0]; rfl
    · unfold f_X9_moved f_X9_moved_e
      rw [M.chk, M.g 2 rfl, bs, I.2.2.2.2.1, h0]; rfl
  · obtain ⟨ps, k, C, f, T⟩ := I.opn
    obtain ⟨h1, p1, C1⟩ := C.psh Y
    obtain ⟨h2, p2, C2⟩ := C1.mov Y
    have M2 := C2.mm M
    obtain ⟨h3, F3, A3, p3, G3, -⟩ := (MC.start M2 f).rem Y T.2.1
    obtain ⟨h4, F4, A4, p4, G4⟩ := G3.mov Y (T.2.1.push Y)
    refine ⟨nI (fld (mvF S) (cP S) 0 0), h2, h4, ?_, ?_, close_all I C2 G4 ⟨Y.moved, (T.2.1.push Y).to rfl rfl, T.2.2⟩ rfl rfl⟩
    · unfold f_X8_moved f_X8_moved_e
      rw [I.1.chk, I.1.r 1 rfl, bs, I.2.2.1.pers, bs, if_neg (nI_ne0 (by omega) (by omega)), I.1.r 5 rfl, bs, bs, p1, bs, p2, bs]
    · unfold f_X9_moved f_X9_moved_e
      rw [M2.chk, M2.g 2 rfl, bs, I.2.2.2.2.1, if_neg (nI_ne0 (by omega) (by omega)), p3, bs, p4, bs]
theorem s_refuse : SK1 f_X8_refuse f_X9_refuse Inv := by
  intro h x hI
  obtain ⟨F, A, S, M, I⟩ := id hI
  have Y := I.2.1
  have hP := Y.p6
  have hN := Y.n8
  obtain ⟨t, e1, e2, ht⟩ := both_person M I x
  cases t with
  | false =>
    refine ⟨-1000000001, h, h, ?_, ?_, hI⟩
    · unfold f_X8_refuse f_X8_refuse_e
      rw [I.1.chk, I.1.r 1 rfl, bs, e1, bs, if_pos (by rfl)]
    · unfold f_X9_refuse f_X9_refuse_e
      rw [M.chk, e2 h F A M I.2.2.2.2.1, bs, if_pos (by rfl)]
  | true =>
    obtain ⟨p, hp, rfl⟩ := ht.mp rfl
    obtain ⟨ps, k, C, f, T⟩ := I.opn
    obtain ⟨h1, p1, D1, C1⟩ := C.dlt Y
    have e8 : f_X8_refuse 0 (nI p) h = if gC S p = -1 then some (-1000000003, h1) else if gC S p = enc (cS S p) then some (-1000000003, h1) else (f_X6_push 21 3 h1).bind fun h10 => (gR h10 0 8 1).bind fun r11 => (f_X3_dropLiking r11 (nI p) (gC S p) h10).bind fun h12 => (f_X8_dealt 0 h12).bind fun q13 => om q13.1 (none) fun r14 => (f_X1_roomOf r14 (nI p) q13.2).bind fun q15 => some (q15.1, q15.2) := by
      unfold f_X8_refuse f_X8_refuse_e f_X8_refuse_b40
      rw [I.1.chk, I.1.r 1 rfl, bs, e1, bs, if_neg b1n]
      show (f_X8_dealt 0 h).bind _ = _
      rw [p1, bs]
      show (f_X1_roomOf 13 (nI p) h1).bind _ = _
      rw [p_roomOf D1 Y hp, bs]
      show (if gC S p = -1 then some (-1000000003, h1) else (gR h1 0 8 1).bind fun r6 => (f_X3_seatOf r6 (nI p) h1).bind _) = _
      rw [C1.1.r 1 rfl, bs, p_seatOf C1.2.1 Y hp, bs]
      show (if gC S p = -1 then some (-1000000003, h1) else if gC S p = enc (cS S p) then some (-1000000003, h1) else (gR h1 0 8 5).bind fun r8 => (gR h1 0 8 1).bind _) = _
      rw [C1.1.r 5 rfl, bs, C1.1.r 1 rfl, bs]
    have e9 : ∀ k1, MM k1 F A → ∃ h2 F2 A2, MC k1 F A h2 F2 A2 S ps k ∧ (∀ q, q < cP S → A2 2 q = gC S q) ∧ f_X9_refuse 142 (nI p) k1 = if gC S p = -1 then some (-1000000003, h2) else if gC S p = enc (cS S p) then some (-1000000003, h2) else (f_X9_remember 142 h2).bind fun h9 => (gR h9 142 9 8).bind fun r10 => (ald h9 r10 (nI p)).bind fun v11 => (f_X9_strikeOut 142 0 (nI p) v11 h9).bind fun h12 => (f_X9_giveOut 142 0 h12).bind fun h13 => (gR h13 142 9 8).bind fun r14 => (ald h13 r14 (nI p)).bind fun v15 => some (v15, h13) := by
      intro k1 M1
      obtain ⟨h2, F2, A2, g2, G2, hg, -⟩ := (MC.start M1 f).gav Y T.2.1
      refine ⟨h2, F2, A2, G2, fun q hq => (hg q hq).1, ?_⟩
      have hw := G2.2.1.2.2.1.1 p hp
      rw [Nat.zero_add] at hw
      unfold f_X9_refuse f_X9_refuse_e f_X9_refuse_b44
      rw [M1.chk, e2 k1 F A M1 I.2.2.2.2.1, bs, if_neg b1n]
      show (f_X9_giveOut 142 0 k1).bind _ = _
      rw [g2, bs, G2.1.r 8 rfl, bs]
      show (ald h2 (143 + 2) (nI p)).bind _ = _
      rw [G2.1.ald 2 (by omega) (show p < 6 by omega), bs, (hg p hp).1, bs]
      show (if gC S p = -1 then some (-1000000003, h2) else (ald h2 (143 + 2) (nI p)).bind _) = _
      rw [G2.1.ald 2 (by omega) (show p < 6 by omega), bs, (hg p hp).1, G2.1.r 0 rfl, bs]
      show (if gC S p = -1 then some (-1000000003, h2) else (ald h2 (143 + 0) (nI 54 + nI p)).bind _) = _
      rw [nI_add, G2.1.ald 0 (by omega) (show 54 + p < 1608 by omega), bs, hw]
    have not : (gC S p = -1 ∨ gC S p = enc (cS S p)) → ∃ r h1 h2, f_X8_refuse 0 (nI p) h = some (r, h1) ∧ f_X9_refuse 142 (nI p) h1 = some (r, h2) ∧ Inv h2 := by
      intro hc
      obtain ⟨h2, F2, A2, G2, -, g9⟩ := e9 h1 (C1.mm M)
      refine ⟨-1000000003, h1, h2, ?_, ?_, close_all I C1 G2 T rfl rfl⟩
      · rw [e8]
        rcases hc with z | z
        · rw [if_pos z]
        · rw [if_pos z]; split <;> rfl
      · rw [g9]
        rcases hc with z | z
        · rw [if_pos z]
        · rw [if_pos z]; split <;> rfl
    by_cases hc1 : gC S p = -1
    · exact not (Or.inl hc1)
    · by_cases hc2 : gC S p = enc (cS S p)
      · exact not (Or.inr hc2)
      · obtain ⟨o1, o2⟩ := oC_spec Y hp
        cases ho : oC S p with
        | none => rw [ho] at o1; exact absurd o1 hc1
        | some r =>
          have hr := o2 r ho
          have hgr : gC S p = nI r := by rw [o1, ho]; rfl
          rw [if_neg hc1, if_neg hc2, hgr] at e8
          obtain ⟨h2, p2, C2⟩ := C1.psh Y
          obtain ⟨h3, p3, V3, X3⟩ := p_dropLiking C2.2.1 Y hp (x := r) (by omega)
          have C3 := C2.hou X3 V3
          have Y3 := Y.drop hp r
          obtain ⟨h4, p4, D4, C4⟩ := C3.dlt Y3
          have M4 := C4.mm M
          obtain ⟨k2, F2, A2, G2, hg2, g9⟩ := e9 h4 M4
          rw [if_neg hc1, if_neg hc2] at g9
          obtain ⟨k3, F3, A3, q3, G3, a3⟩ := G2.rem Y T.2.1
          obtain ⟨k4, A4, q4, G4⟩ := G3.stk Y (T.2.1.push Y) hp (r := r) (by omega)
          obtain ⟨k5, F5, A5, q5, G5, hg5, -⟩ := G4.gav Y3 ((T.2.1.push Y).to rfl rfl)
          refine ⟨gC (setLk S p (dropC r (cL S p))) p, h4, k5, ?_, ?_, close_all I C4 G5 ⟨Y3, (T.2.1.push Y).to rfl rfl, T.2.2⟩ rfl rfl⟩
          · rw [e8, p2, bs, C2.1.r 1 rfl, bs, p3, bs, p4, bs]
            show (f_X1_roomOf 13 (nI p) h4).bind _ = _
            rw [p_roomOf D4 Y3 (p := p) hp, bs]
          · rw [g9, q3, bs, G3.1.r 8 rfl, bs]
            show (ald k3 (143 + 2) (nI p)).bind _ = _
            rw [G3.1.ald 2 (by omega) (show p < 6 by omega), bs, a3 2 (by omega), hg2 p hp, hgr, q4, bs, q5, bs, G5.1.r 8 rfl, bs]
            show (ald k5 (143 + 2) (nI p)).bind _ = _
            rw [G5.1.ald 2 (by omega) (show p < 6 by omega), bs, (hg5 p hp).1]
theorem in1 {x : Int32} {n : Nat} (hn : n < 2 ^ 30) : (¬ x < 1 ∧ ¬ nI n < x) ↔ ∃ p, 1 ≤ p ∧ p ≤ n ∧ x = nI p := by
  constructor
  · intro ⟨h1, h2⟩
    have h0 : ¬ x < 0 := fun z => h1 (Int32.lt_trans z (by decide))
    obtain ⟨j, hj, rfl⟩ := nI_of h0
    refine ⟨j, ?_, ?_, rfl⟩
    · rcases Nat.lt_or_ge 0 j with z | z
      · exact z
      · have : j = 0 := by omega
        subst this
        exact absurd (show nI 0 < (1 : Int32) by decide) h1
    · rcases Nat.lt_or_ge n j with z | z
      · exact absurd (nI_lt z hj) h2
      · exact z
  · rintro ⟨p, h1, h2, rfl⟩
    exact ⟨nI_nlt (b := 1) h1 (by omega), nI_nlt h2 (by omega)⟩
theorem s_undo : SK1 f_X8_undo f_X9_undo Inv := by
  intro h x hI
  obtain ⟨F, A, S, M, I⟩ := id hI
  have Y := I.2.1
  have hP := Y.p6
  obtain ⟨ps, k, C, f, T⟩ := I.opn
  obtain ⟨sg, f6, t1, t2, t3, t5, t6, t7⟩ := id C.2.2.2.2.2.1
  have e8 : f_X8_undo 0 x h = if x < 1 then some (-1000000002, h) else if x ≤ 20 then if x ≤ nI ps.length then (f_X6_pop 21 x 3 h).bind fun h5 => (gR h5 0 8 5).bind fun r6 => (gI h5 r6 6 0).bind fun v7 => some (v7, h5) else some (-1000000003, h) else some (-1000000002, h) := by
    unfold f_X8_undo f_X8_undo_e f_X8_undo_b11
    rw [I.1.chk, I.1.r 5 rfl, bs, t2.g 0 rfl, bs, bs, I.1.r 1 rfl, bs]
  have e9 : ∀ h1, MM h1 F A → f_X9_undo 142 x h1 = if bI (decide (¬ x < 1 ∧ ¬ (20 : Int32) < x)) = 0 then some (-1000000002, h1) else if x ≤ nI ps.length then (pI h1 142 9 3 (nI ps.length - x)).bind fun h6 => (gI h6 142 9 3).bind fun v7 => (f_X9_copyRow 142 (67 + 67 * v7) 0 h6).bind fun h8 => (gR h8 142 9 0).bind fun r9 => (ast h8 r9 66 (nI k)).bind fun h10 => (gI h10 142 9 3).bind fun v11 => some (v11, h10) else some (-1000000003, h1) := by
    intro h1 M1
    unfold f_X9_undo f_X9_undo_e
    rw [M1.chk, p_in, bs]
    show (if bI (decide (¬ x < 1 ∧ ¬ (20 : Int32) < x)) = 0 then some (-1000000002, h1) else (gI h1 142 9 3).bind fun v2 => if x ≤ v2 then (gR h1 142 9 0).bind fun r3 => (ald h1 r3 66).bind fun v4 => (gI h1 142 9 3).bind _ else _) = _
    rw [M1.g 3 rfl, bs, f.2.2.2.1.1, M1.r 0 rfl, bs]
    show (if bI (decide (¬ x < 1 ∧ ¬ (20 : Int32) < x)) = 0 then some (-1000000002, h1) else if x ≤ nI ps.length then (ald h1 (143 + 0) (nI 66)).bind _ else _) = _
    rw [M1.ald 0 (by omega) (show 66 < 1608 by omega), bs, f.2.2.2.2, bs]
  by_cases hx : ¬ x < 1 ∧ ¬ (20 : Int32) < x
  · obtain ⟨m, hm1, hm2, rfl⟩ := (in1 (n := 20) (by omega)).mp hx
    rw [if_neg hx.1, if_pos (Int32.not_lt.mp hx.2)] at e8
    by_cases hl : m ≤ ps.length
    · have hq : ps[ps.length - m]? = some (ps[ps.length - m]'(by omega)) := List.getElem?_eq_getElem (by omega)
      generalize (ps[ps.length - m]'(by omega)) = Q at hq
      obtain ⟨YQ, nQ, pQ⟩ := T.2.1.2 _ _ hq
      rw [if_pos (nI_le hl (by omega))] at e8
      obtain ⟨h1, p1, V1, P1, X1⟩ := p_pop C.2.2.2.2.2.1 hm1 hl hq YQ C.2.1.hx
      have hlen : (ps.take (ps.length - m)).length = ps.length - m := by rw [List.length_take]; omega
      have C1 : CX9 h h1 Q (ps.take (ps.length - m)) k := by
        obtain ⟨c1, c2, c3, c4, c5, c6, c7, c8⟩ := C
        exact ⟨c1.eq (X1 _ (by omega)), V1, c3.eq (fun j _ _ => X1 j (by omega)), c4.eq (fun j _ _ => X1 j (by omega)), c5.mv (X1 _ (by omega)) (X1 _ (by omega)), P1, c7.eq (X1 _ (by omega)), fun j hj => X1 j (by omega)⟩
      have M1 := C1.mm M
      obtain ⟨h2, p2, M2, X2⟩ := M1.p 3 (nI (ps.length - m)) rfl (by omega)
      obtain ⟨h3, p3, M3, X3⟩ := p_copyRow M2 (x := 67 + 67 * (ps.length - m)) (y := 0) (by omega) (by omega) (by omega)
      obtain ⟨h4, p4, M4, X4⟩ := M3.ast 0 (by omega) (show 66 < 1608 by omega) (nI k)
      rw [setA_set, setA_s] at M4
      have hw : ∀ j, 67 ≤ j → upd (cpR (A 0) (67 + 67 * (ps.length - m)) 0) 66 (nI k) j = A 0 j := fun j hj => by rw [un (by omega), cpR_out (by omega)]
      have tk : ∀ (i : Nat) q, (ps.take (ps.length - m))[i]? = some q → ps[i]? = some q := fun i q hq => by
        have hi := (List.getElem?_eq_some_iff.mp hq).1
        rw [hlen] at hi
        rwa [List.getElem?_take_of_lt hi] at hq
      have G4 : MC h1 F A h4 (upd F 3 (nI (ps.length - m))) (setA A 0 (upd (cpR (A 0) (67 + 67 * (ps.length - m)) 0) 66 (nI k))) Q (ps.take (ps.length - m)) k := by
        obtain ⟨f1, f2, f3, f4, f5⟩ := f
        refine ⟨M4, ⟨f1.trans (by rw [nQ]), f2.trans (by rw [pQ]), ?_, ⟨us.trans (by rw [hlen]), fun i q hq => ?_⟩, ?_⟩, ⟨⟨rfl, rfl, rfl, rfl, rfl⟩, ?_, rfl, rfl, rfl, rfl, rfl⟩, fun j hj => ((X4 j (by omega)).trans (X3 j (by omega))).trans (X2 j (by omega))⟩
        · rw [setA_s]
          refine (f4.2 _ _ hq).to YQ (fun j hj => ?_)
          rw [un (by omega), cpR_in (by omega)]
        · rw [setA_s]
          exact (f4.2 i q (tk i q hq)).eq (T.2.1.2 i q (tk i q hq)).1 (fun j h1 h2 => hw j (by omega))
        · rw [setA_s, us]
        · intro j h1 h2; rw [setA_s]; exact hw j (by omega)
      refine ⟨nI (ps.length - m), h1, h4, ?_, ?_, close_all I C1 G4 ⟨YQ, ⟨by omega, fun i q hq => ?_⟩, T.2.2⟩ nQ pQ⟩
      · obtain ⟨sg, f6, t1, t2, t3, t5, t6, t7⟩ := P1
        rw [e8, p1, bs, C1.1.r 5 rfl, bs, t2.g 0 rfl, bs, hlen]
      · rw [e9 h1 M1, if_neg (by rw [decide_eq_true hx]; exact b1n), if_pos (nI_le hl (by omega)), pk_sub hl, p2, bs, M2.g 3 rfl, bs, us, ix67]
        show (f_X9_copyRow 142 _ (nI 0) h2).bind _ = _
        rw [p3, bs, M3.r 0 rfl, bs]
        show (ast h3 (143 + 0) (nI 66) _).bind _ = _
        rw [p4, bs, M4.g 3 rfl, bs, us]
      · obtain ⟨w1, w2, w3⟩ := T.2.1.2 i q (tk i q hq)
        exact ⟨w1, w2.trans nQ.symm, w3.trans pQ.symm⟩
    · refine ⟨-1000000003, h, h, ?_, ?_, hI⟩
      · rw [e8, if_neg (nI_ge (by omega) (by omega))]
      · rw [e9 h M, if_neg (by rw [decide_eq_true hx]; exact b1n), if_neg (nI_ge (by omega) (by omega))]
  · refine ⟨-1000000002, h, h, ?_, ?_, hI⟩
    · rw [e8]
      by_cases h1 : x < 1
      · rw [if_pos h1]
      · rw [if_neg h1, if_neg (fun z => hx ⟨h1, Int32.not_lt.mpr z⟩)]
    · rw [e9 h M, if_pos (by rw [decide_eq_false hx]; rfl)]
theorem s_otherwise : SK2 f_X8_otherwise f_X9_otherwise Inv := by
  intro h x y hI
  obtain ⟨F, A, S, M, I⟩ := id hI
  have Y := I.2.1
  have hP := Y.p6
  have hN := Y.n8
  obtain ⟨t, e1, e2, ht⟩ := both_person M I x
  obtain ⟨u, d1, d2, hu⟩ := both_room M I y
  have e8 : f_X8_otherwise 0 x y h = if bI t = 0 then some (-1000000001, h) else if bI u = 0 then some (-1000000001, h) else (f_X3_copy 8 3 h).bind fun h7 => (gR h7 0 8 2).bind fun r8 => (f_X3_clearLikings r8 x h7).bind fun h9 => (gR h9 0 8 2).bind fun r10 => (f_X3_addLiking r10 x y h9).bind fun h11 => (gR h11 0 8 3).bind fun r12 => (gR h11 0 8 2).bind fun r13 => (f_X1_deal r12 r13 h11).bind fun h14 => (gR h14 0 8 3).bind fun r15 => (f_X1_roomOf r15 x h14).bind fun q16 => some (q16.1, q16.2) := by
    unfold f_X8_otherwise f_X8_otherwise_e f_X8_otherwise_b22
    rw [I.1.chk, I.1.r 1 rfl, bs, e1, bs]
    show (if bI t = 0 then some (-1000000001, h) else (gR h 0 8 1).bind fun r3 => (f_X3_hasRoom r3 y h).bind _) = _
    rw [I.1.r 1 rfl, bs, d1, bs]
    show (if bI t = 0 then some (-1000000001, h) else if bI u = 0 then some (-1000000001, h) else (gR h 0 8 2).bind fun r5 => (gR h 0 8 1).bind _) = _
    rw [I.1.r 2 rfl, bs, I.1.r 1 rfl, bs]
  have e9 : ∀ h1 F1 A1, MM h1 F1 A1 → F1 1 = nI (cN S) → F1 2 = nI (cP S) → f_X9_otherwise 142 x y h1 = if bI t = 0 then some (-1000000001, h1) else if bI u = 0 then some (-1000000001, h1) else (f_X9_copyRow 142 0 1541 h1).bind fun h3 => (gR h3 142 9 0).bind fun r4 => (ast h3 r4 (1589 + x) 1).bind fun h5 => (gR h5 142 9 0).bind fun r6 => (ast h5 r6 (1541 + (8 * x)) y).bind fun h7 => (f_X9_giveOut 142 1541 h7).bind fun h8 => (gR h8 142 9 8).bind fun r9 => (ald h8 r9 x).bind fun v10 => some (v10, h8) := by
    intro h1 F1 A1 M1 f1 f2
    unfold f_X9_otherwise f_X9_otherwise_e f_X9_otherwise_b16
    rw [M1.chk, e2 h1 F1 A1 M1 f2, bs]
    show (if bI t = 0 then some (-1000000001, h1) else (f_X9_isRoom 142 y h1).bind _) = _
    rw [d2 h1 F1 A1 M1 f1, bs]
  cases t with
  | false => exact ⟨-1000000001, h, h, by rw [e8]; rfl, by rw [e9 h F A M I.2.2.2.1 I.2.2.2.2.1]; rfl, hI⟩
  | true =>
    cases u with
    | false => exact ⟨-1000000001, h, h, by rw [e8]; rfl, by rw [e9 h F A M I.2.2.2.1 I.2.2.2.2.1]; rfl, hI⟩
    | true =>
      obtain ⟨p, hp, rfl⟩ := ht.mp rfl
      obtain ⟨r, hr, rfl⟩ := hu.mp rfl
      rw [if_neg b1n, if_neg b1n] at e8
      obtain ⟨h1, p1, V1, X1⟩ := p_copy I.2.2.2.2.2.2.1 I.2.2.1 Y (by omega)
      obtain ⟨h2, p2, V2, X2⟩ := p_clearLikings V1 Y hp
      have Y2 : VS (setLk S p []) := Y.lk List.nodup_nil (fun r hr => by cases hr)
      obtain ⟨h3, p3, V3, X3⟩ := p_addLiking V2 Y2 (p := p) hp (by rw [setLk_at]; decide) r
      rw [setLk_at, setLk_set] at V3
      have V3 : HV h3 8 (setLk S p [r]) := V3
      have Y3 : VS (setLk S p [r]) := Y.lk (by simp) (fun z hz => by simp at hz; rw [hz]; exact hr)
      have X123 := (X1.trans X2).trans X3
      obtain ⟨h4, p4, D4, X4⟩ := p_dealA Y3 (a := 8) (by omega) V3 (I.2.2.2.2.2.2.2.1.eq (fun j _ _ => X123 j (by omega)))
      have XX : ∀ j, (j < 8 ∨ 19 ≤ j) → h4[j]? = h[j]? := fun j hj => (X4 j (by omega)).trans (X123 j (by omega))
      have c1 := I.1.eq (X1 0 (by omega))
      have c2 := c1.eq (X2 0 (by omega))
      have c3 := c2.eq (X3 0 (by omega))
      have c4 := c3.eq (X4 0 (by omega))
      have I4 : INV h4 F A S := I.scr (fun j _ hj => XX j (by omega)) (V3.hx.fr X4 (by omega)) D4.dx (I.2.2.2.2.2.2.2.2.1.mv (XX _ (by omega)) (XX _ (by omega)))
      have M4 : MM h4 F A := M.fr (fun j hj => XX j (by omega) : Fr h h4 8 11) (by omega)
      obtain ⟨k1, q1, N1, Z1⟩ := p_copyRow M4 (x := 0) (y := 1541) (by omega) (by omega) (by omega)
      obtain ⟨k2, q2, N2, Z2⟩ := N1.ast 0 (by omega) (show 1589 + p < 1608 by omega) 1
      rw [setA_set, setA_s] at N2
      obtain ⟨k3, q3, N3, Z3⟩ := N2.ast 0 (by omega) (show 1541 + 8 * p < 1608 by omega) (nI r)
      rw [setA_set, setA_s] at N3
      have R : RV (cpR (A 0) 0 1541) 1541 S := I.2.2.2.2.2.1.to Y (fun j hj => cpR_in (by omega))
      have R3 : RV (upd (upd (cpR (A 0) 0 1541) (1589 + p) 1) (1541 + 8 * p) (nI r)) 1541 (setLk S p [r]) := by
        refine R.lk Y hp ?_ ?_ (fun j h1 h2 => ?_)
        · rw [un (by omega), show 1541 + 48 + p = 1589 + p by omega, us]; rfl
        · intro j z hj
          have hz := (List.getElem?_eq_some_iff.mp hj).1
          simp at hz
          subst hz
          cases hj
          rw [Nat.add_zero, us]
        · rw [un (by omega), un (by omega)]
      obtain ⟨k4, q4, ⟨F', A', N4, fs, as, a0, -, -, hg⟩, Z4⟩ := p_gaveX (x := 1541) N3 Y3 (by omega) (by rw [setA_s]; exact R3) I.2.2.2.1 I.2.2.2.2.1
      refine ⟨gC (setLk S p [r]) p, h4, k4, ?_, ?_, ⟨F', A', S, N4, I4.mdl (fun j hj => (((Z4 j (by omega)).trans (Z3 j (by omega))).trans (Z2 j (by omega))).trans (Z1 j (by omega))) fs ⟨fun j hj => ?_, as.2.1, as.2.2.1, as.2.2.2.1, as.2.2.2.2.1, as.2.2.2.2.2⟩⟩⟩
      · rw [e8, p1, bs, c1.r 2 rfl, bs, p2, bs, c2.r 2 rfl, bs, p3, bs, c3.r 3 rfl, bs, c3.r 2 rfl, bs, p4, bs, c4.r 3 rfl, bs, p_roomOf D4 Y3 (p := p) hp, bs]
      · rw [e9 h4 F A M4 I.2.2.2.1 I.2.2.2.2.1, if_neg b1n, if_neg b1n]
        show (f_X9_copyRow 142 (nI 0) (nI 1541) h4).bind _ = _
        rw [q1, bs, N1.r 0 rfl, bs]
        show (ast k1 (143 + 0) (nI 1589 + nI p) 1).bind _ = _
        rw [nI_add, q2, bs, N2.r 0 rfl, bs]
        show (ast k2 (143 + 0) (nI 1541 + nI 8 * nI p) _).bind _ = _
        rw [pk_mul, nI_add, q3, bs]
        show (f_X9_giveOut 142 (nI 1541) k3).bind _ = _
        rw [q4, bs, N4.r 8 rfl, bs]
        show (ald k4 (143 + 2) (nI p)).bind _ = _
        rw [N4.ald 2 (by omega) (show p < 6 by omega), bs, (hg p hp).1]
      · rw [a0, setA_s, un (by omega), un (by omega), cpR_out (by omega)]
