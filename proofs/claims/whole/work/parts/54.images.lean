/-! images -/
theorem keep0 {h : HP} {F : Nat → Int32} {A : AT} {S : CS} (M : MM h F A) (I : INV h F A S) : ∃ r h1 h2, f_X8_keep 0 (nI 0) h = some (r, h1) ∧ f_X9_keep 142 (nI 0) h1 = some (r, h2) ∧ Inv h2 := by
  have Y := I.2.1
  have hP := Y.p6
  obtain ⟨ps, k, C, f, T⟩ := I.opn
  obtain ⟨i1, i2, i3, i4, i5, i6, i7, i8, i9, i10, i11, i12, i13, i14⟩ := I
  obtain ⟨kb, s0, s1, j0, j1, fq, t1, t2, t3, t4, t5, t6, t7, t8, t9, t10, t11⟩ := i14
  obtain ⟨h1, p1, V1, X1⟩ := p_copy t8 i3 Y (by omega)
  have o1 := t6.eq (X1 _ (by omega))
  obtain ⟨h2, p2, o2, X2⟩ := o1.w 1 (nI k) (gs := [.inl (bI (kb.testBit 0)), .inl (nI k), .inr (some 131)]) rfl (Nat.le_of_ble_eq_true rfl)
  obtain ⟨h3, p3, o3, X3⟩ := o2.w 0 1 (gs := [.inl 1, .inl (nI k), .inr (some 131)]) rfl (Nat.le_of_ble_eq_true rfl)
  have XF : Fr h h3 130 6 := ((X1.wide (by omega) (by omega)).trans (X2.wide (by omega) (by omega))).trans (X3.wide (by omega) (by omega))
  obtain ⟨h4, p4, P4, X4⟩ := p_forget (C.2.2.2.2.2.1.fr XF (by omega))
  have he : ∀ j, (j < 21 ∨ (123 ≤ j ∧ j < 130) ∨ 130 + 6 ≤ j) → h4[j]? = h[j]? := fun j hj => (X4 j (by omega)).trans (XF j (by omega))
  have V3 : HV h4 131 S := ((V1.fr X2 (by omega)).fr X3 (by omega)).fr X4 (by omega)
  have o3' := o3.eq (X4 _ (by omega))
  have M4 : MM h4 F A := (M.fr XF (by omega)).fr X4 (by omega)
  obtain ⟨k1, q1, N1, Z1⟩ := p_copyRow M4 (x := 0) (y := 1407) (by omega) (by omega) (by omega)
  obtain ⟨k2, q2, N2, Z2⟩ := N1.p 4 (nI (ins kb 0)) rfl (by omega)
  obtain ⟨k3, q3, N3, Z3⟩ := N2.p 3 0 rfl (by omega)
  have ZZ : ∀ j, (j < 142 ∨ 142 + 12 ≤ j) → k3[j]? = h4[j]? := fun j hj => ((Z3 j (by omega)).trans (Z2 j (by omega))).trans (Z1 j (by omega))
  have hE : ∀ j, j < 142 → (j < 21 ∨ (123 ≤ j ∧ j < 130) ∨ 130 + 6 ≤ j) → k3[j]? = h[j]? := fun j h1 h2 => (ZZ j (by omega)).trans (he j h2)
  have gA : ∀ j, (j < 1407 ∨ 1407 + 67 ≤ j) → setA A 0 (cpR (A 0) 0 1407) 0 j = A 0 j := fun j hj => by rw [setA_s, cpR_out (by omega)]
  have hkb : ins kb 0 < 4 := by
    have : ∀ b, b < 4 → ins b 0 < 4 := by decide
    exact this kb t4
  have tbs : (ins kb 0).testBit 0 = true := by rw [tb_ins]; simp
  have tbo : (ins kb 0).testBit 1 = kb.testBit 1 := by rw [tb_ins]; simp
  refine ⟨1, h4, k3, ?_, ?_, ⟨_, _, S, N3, i1.eq (hE _ (by omega) (by omega)), Y, i3.eq (fun j h1 h2 => hE j (by omega) (by omega)), i4, i5, i6.eq Y (fun j h1 h2 => gA j (by omega)), i7.eq (fun j h1 h2 => hE j (by omega) (by omega)), i8.eq (fun j h1 h2 => hE j (by omega) (by omega)), i9.mv (hE _ (by omega) (by omega)) (hE _ (by omega) (by omega)), i10.mv (hE _ (by omega) (by omega)) (hE _ (by omega) (by omega)) rfl rfl (setA_n _ _ (by omega)), ?_, i12.mv (fun j h1 h2 => hE j (by omega) (by omega)) rfl rfl (setA_n _ _ (by omega)) (setA_n _ _ (by omega)) (setA_n _ _ (by omega)) (setA_n _ _ (by omega)) rfl, i13.mv (hE _ (by omega) (by omega)) (gA _ (by omega)), ?_⟩⟩
  · unfold f_X8_keep f_X8_keep_e f_X8_imageAt f_X8_imageAt_e
    rw [i1.chk, i1.chk, if_neg (by decide), i1.r 8 rfl, bs, t1.len, bs, if_neg (nI_ge (by omega) (by omega)), bs, t1.ld (k := 0) (by omega) (by omega), t2, bs, bs]
    show (gR h 0 8 1).bind _ = _
    rw [i1.r 1 rfl, bs]
    show (gR h 0 8 7).bind _ = _
    rw [i1.r 7 rfl, bs]
    show (gI h 128 2 0).bind _ = _
    rw [C.2.2.2.2.2.2.1.g 0 rfl, bs]
    show (f_X4_store 130 3 (nI k) h).bind _ = _
    have cc : C0 h3 := i1.eq (XF 0 (by omega))
    unfold f_X4_store f_X4_store_e
    rw [t6.chk, t6.r 2 rfl, bs, p1, bs, p2, bs, p3, bs, bs, cc.r 5 rfl, bs, p4, bs]
  · unfold f_X9_keep f_X9_keep_e
    rw [M4.chk, p_in, bs, if_neg (show ¬ bI (decide (¬ nI 0 < 0 ∧ ¬ (1 : Int32) < nI 0)) = 0 by decide)]
    show (f_X9_copyRow 142 (nI 0) (nI 1407) h4).bind _ = _
    rw [q1, bs, N1.g 4 rfl, bs, t5, m_ins kb (by omega) 0 (by omega), q2, bs, q3, bs]
  · exact PAi.join (ps := []) (P4.fr (fun j hj => ZZ j hj : Fr h4 k3 142 12) (by omega)) ⟨us, fun i q hq => by simp at hq⟩ ⟨by simp, fun i q hq => by simp at hq⟩
  · refine ⟨ins kb 0, nI k, s1, S, j1, fq, t1.eq (hE _ (by omega) (by omega)), t2, t3, hkb, rfl, by rw [tbs]; exact o3'.eq (ZZ _ (by omega)), by rw [tbo]; exact t7.eq (hE _ (by omega) (by omega)), V3.hx.eq (fun j _ _ => ZZ j (by omega)), t9.eq (fun j _ _ => hE j (by omega) (by omega)), fun _ => ?_, fun z => (t11 (by rw [← tbo]; exact z)).mv (fun j _ _ => hE j (by omega) (by omega)) (fun j h1 h2 => gA j (by omega)) rfl rfl⟩
    refine ⟨V3.eq (fun j _ _ => ZZ j (by omega)), i6.to Y (fun j hj => by rw [setA_s]; exact cpR_in (by omega)), Y, rfl, rfl, ?_, nI_pos T.2.2⟩
    rw [setA_s, cpR_in (by omega)]; exact f.2.2.2.2
theorem back0 {h : HP} {F : Nat → Int32} {A : AT} {S : CS} (M : MM h F A) (I : INV h F A S) : ∃ r h1 h2, f_X8_goBack 0 (nI 0) h = some (r, h1) ∧ f_X9_goBack 142 (nI 0) h1 = some (r, h2) ∧ Inv h2 := by
  have hI : Inv h := ⟨F, A, S, M, I⟩
  have Y := I.2.1
  have hP := Y.p6
  obtain ⟨ps, k, C, f, T⟩ := I.opn
  have I0 := I
  obtain ⟨i1, i2, i3, i4, i5, i6, i7, i8, i9, i10, i11, i12, i13, i14⟩ := I
  obtain ⟨kb, s0, s1, j0, j1, fq, t1, t2, t3, t4, t5, t6, t7, t8, t9, t10, t11⟩ := i14
  have e8 : f_X8_goBack 0 (nI 0) h = if bI (kb.testBit 0) = 0 then some (-1000000003, h) else (f_X3_copy 3 131 h).bind fun h6 => (gR h6 0 8 7).bind fun r7 => (gI h6 130 4 1).bind fun v8 => (pI h6 r7 2 0 v8).bind fun h9 => (gR h9 0 8 5).bind fun r10 => (f_X6_forget r10 h9).bind fun h11 => some (1, h11) := by
    unfold f_X8_goBack f_X8_goBack_e f_X8_imageAt f_X8_imageAt_e
    rw [i1.chk, i1.chk, if_neg (by decide), i1.r 8 rfl, bs, t1.len, bs, if_neg (nI_ge (by omega) (by omega)), bs, t1.ld (k := 0) (by omega) (by omega), t2, bs, bs]
    show (gI h 130 4 0).bind _ = _
    rw [t6.g 0 rfl, bs]
    show (if bI (kb.testBit 0) = 0 then some (-1000000003, h) else (gR h 0 8 1).bind fun r4 => (gR h 130 4 2).bind _) = _
    rw [i1.r 1 rfl, bs, t6.r 2 rfl, bs]
  have e9 : ∀ h1, MM h1 F A → f_X9_goBack 142 (nI 0) h1 = if bI (kb.testBit 0) = 0 then some (-1000000003, h1) else (f_X9_copyRow 142 (nI 1407) (nI 0) h1).bind fun h4 => (pI h4 142 9 3 0).bind fun h5 => some (1, h5) := by
    intro h1 M1
    unfold f_X9_goBack f_X9_goBack_e
    rw [M1.chk, p_in, bs, if_neg (show ¬ bI (decide (¬ nI 0 < 0 ∧ ¬ (1 : Int32) < nI 0)) = 0 by decide)]
    show (gI h1 142 9 4).bind _ = _
    rw [M1.g 4 rfl, bs, t5]
    show (f_X9_has (nI kb) (nI 0) h1).bind _ = _
    rw [p_has (by omega) (by omega), bs]
    rfl
  cases hb : kb.testBit 0 with
  | false => exact ⟨-1000000003, h, h, by rw [e8, hb]; rfl, by rw [e9 h M, hb]; rfl, hI⟩
  | true =>
    rw [hb, if_neg b1n] at e8
    obtain ⟨u1, u2, u3, u4, u5, u6, u7⟩ := t10 hb
    obtain ⟨kk, hkk, hs⟩ := nI_of u7
    obtain ⟨h1, p1, V1, X1⟩ := p_copy i3.hx u1 u3 (by omega)
    have c1 := i1.eq (X1 0 (by omega))
    have o1 := t6.eq (X1 _ (by omega))
    have d1 := C.2.2.2.2.2.2.1.eq (X1 _ (by omega))
    obtain ⟨h2, p2, o2, X2⟩ := d1.w 0 s0 (gs := [.inl s0]) rfl (Nat.le_of_ble_eq_true rfl)
    have c2 := c1.eq (X2 0 (by omega))
    obtain ⟨h3, p3, P3, X3⟩ := p_forget ((C.2.2.2.2.2.1.fr X1 (by omega)).fr X2 (by omega))
    have he : ∀ j, (j < 3 ∨ (8 ≤ j ∧ j < 21) ∨ (123 ≤ j ∧ j ≠ 128)) → h3[j]? = h[j]? := fun j hj => ((X3 j (by omega)).trans (X2 j (by omega))).trans (X1 j (by omega))
    have C3 : CX9 h h3 j0 [] kk := ⟨i1.eq (he _ (by omega)), (V1.fr X2 (by omega)).fr X3 (by omega), i7.eq (fun j _ _ => he j (by omega)), i8.eq (fun j _ _ => he j (by omega)), i9.mv (he _ (by omega)) (he _ (by omega)), P3, by rw [← hs]; exact o2.eq (X3 _ (by omega)), fun j hj => he j (by omega)⟩
    have M3 := C3.mm M
    obtain ⟨k1, q1, N1, Z1⟩ := p_copyRow M3 (x := 1407) (y := 0) (by omega) (by omega) (by omega)
    obtain ⟨k2, q2, N2, Z2⟩ := N1.p 3 0 rfl (by omega)
    have gA : ∀ j, 67 ≤ j → setA A 0 (cpR (A 0) 1407 0) 0 j = A 0 j := fun j hj => by rw [setA_s, cpR_out (by omega)]
    have G2 : MC h3 F A k2 (upd F 3 0) (setA A 0 (cpR (A 0) 1407 0)) j0 [] kk := by
      refine ⟨N2, ⟨f.1.trans (by rw [u4]), f.2.1.trans (by rw [u5]), ?_, ⟨us, fun i q hq => by simp at hq⟩, ?_⟩, ⟨⟨rfl, rfl, rfl, rfl, rfl⟩, fun j h1 h2 => gA j (by omega), rfl, rfl, rfl, rfl, rfl⟩, fun j hj => (Z2 j (by omega)).trans (Z1 j (by omega))⟩
      · rw [setA_s]; exact u2.to u3 (fun j hj => cpR_in (by omega))
      · rw [setA_s, show (66 : Nat) = 0 + 66 from rfl, cpR_in (by omega), u6, hs]
    refine ⟨1, h3, k2, ?_, ?_, close_all I0 C3 G2 ⟨u3, ⟨by simp, fun i q hq => by simp at hq⟩, hkk⟩ u4 u5⟩
    · rw [e8, p1, bs, c1.r 7 rfl, bs, o1.g 1 rfl, bs, p2, bs, c2.r 5 rfl, bs, p3, bs]
    · rw [e9 h3 M3, hb, if_neg b1n, q1, bs, q2, bs]
theorem keep1 {h : HP} {F : Nat → Int32} {A : AT} {S : CS} (M : MM h F A) (I : INV h F A S) : ∃ r h1 h2, f_X8_keep 0 (nI 1) h = some (r, h1) ∧ f_X9_keep 142 (nI 1) h1 = some (r, h2) ∧ Inv h2 := by
  have Y := I.2.1
  have hP := Y.p6
  obtain ⟨ps, k, C, f, T⟩ := I.opn
  obtain ⟨i1, i2, i3, i4, i5, i6, i7, i8, i9, i10, i11, i12, i13, i14⟩ := I
  obtain ⟨kb, s0, s1, j0, j1, fq, t1, t2, t3, t4, t5, t6, t7, t8, t9, t10, t11⟩ := i14
  obtain ⟨h1, p1, V1, X1⟩ := p_copy t9 i3 Y (by omega)
  have o1 := t7.eq (X1 _ (by omega))
  obtain ⟨h2, p2, o2, X2⟩ := o1.w 1 (nI k) (gs := [.inl (bI (kb.testBit 1)), .inl (nI k), .inr (some 137)]) rfl (Nat.le_of_ble_eq_true rfl)
  obtain ⟨h3, p3, o3, X3⟩ := o2.w 0 1 (gs := [.inl 1, .inl (nI k), .inr (some 137)]) rfl (Nat.le_of_ble_eq_true rfl)
  have XF : Fr h h3 136 6 := ((X1.wide (by omega) (by omega)).trans (X2.wide (by omega) (by omega))).trans (X3.wide (by omega) (by omega))
  obtain ⟨h4, p4, P4, X4⟩ := p_forget (C.2.2.2.2.2.1.fr XF (by omega))
  have he : ∀ j, (j < 21 ∨ (123 ≤ j ∧ j < 136) ∨ 136 + 6 ≤ j) → h4[j]? = h[j]? := fun j hj => (X4 j (by omega)).trans (XF j (by omega))
  have V3 : HV h4 137 S := ((V1.fr X2 (by omega)).fr X3 (by omega)).fr X4 (by omega)
  have o3' := o3.eq (X4 _ (by omega))
  have M4 : MM h4 F A := (M.fr XF (by omega)).fr X4 (by omega)
  obtain ⟨k1, q1, N1, Z1⟩ := p_copyRow M4 (x := 0) (y := 1474) (by omega) (by omega) (by omega)
  obtain ⟨k2, q2, N2, Z2⟩ := N1.p 4 (nI (ins kb 1)) rfl (by omega)
  obtain ⟨k3, q3, N3, Z3⟩ := N2.p 3 0 rfl (by omega)
  have ZZ : ∀ j, (j < 142 ∨ 142 + 12 ≤ j) → k3[j]? = h4[j]? := fun j hj => ((Z3 j (by omega)).trans (Z2 j (by omega))).trans (Z1 j (by omega))
  have hE : ∀ j, j < 142 → (j < 21 ∨ (123 ≤ j ∧ j < 136) ∨ 136 + 6 ≤ j) → k3[j]? = h[j]? := fun j h1 h2 => (ZZ j (by omega)).trans (he j h2)
  have gA : ∀ j, (j < 1474 ∨ 1474 + 67 ≤ j) → setA A 0 (cpR (A 0) 0 1474) 0 j = A 0 j := fun j hj => by rw [setA_s, cpR_out (by omega)]
  have hkb : ins kb 1 < 4 := by
    have : ∀ b, b < 4 → ins b 1 < 4 := by decide
    exact this kb t4
  have tbs : (ins kb 1).testBit 1 = true := by rw [tb_ins]; simp
  have tbo : (ins kb 1).testBit 0 = kb.testBit 0 := by rw [tb_ins]; simp
  refine ⟨1, h4, k3, ?_, ?_, ⟨_, _, S, N3, i1.eq (hE _ (by omega) (by omega)), Y, i3.eq (fun j h1 h2 => hE j (by omega) (by omega)), i4, i5, i6.eq Y (fun j h1 h2 => gA j (by omega)), i7.eq (fun j h1 h2 => hE j (by omega) (by omega)), i8.eq (fun j h1 h2 => hE j (by omega) (by omega)), i9.mv (hE _ (by omega) (by omega)) (hE _ (by omega) (by omega)), i10.mv (hE _ (by omega) (by omega)) (hE _ (by omega) (by omega)) rfl rfl (setA_n _ _ (by omega)), ?_, i12.mv (fun j h1 h2 => hE j (by omega) (by omega)) rfl rfl (setA_n _ _ (by omega)) (setA_n _ _ (by omega)) (setA_n _ _ (by omega)) (setA_n _ _ (by omega)) rfl, i13.mv (hE _ (by omega) (by omega)) (gA _ (by omega)), ?_⟩⟩
  · unfold f_X8_keep f_X8_keep_e f_X8_imageAt f_X8_imageAt_e
    rw [i1.chk, i1.chk, if_neg (by decide), i1.r 8 rfl, bs, t1.len, bs, if_neg (nI_ge (by omega) (by omega)), bs, t1.ld (k := 1) (by omega) (by omega), t3, bs, bs]
    show (gR h 0 8 1).bind _ = _
    rw [i1.r 1 rfl, bs]
    show (gR h 0 8 7).bind _ = _
    rw [i1.r 7 rfl, bs]
    show (gI h 128 2 0).bind _ = _
    rw [C.2.2.2.2.2.2.1.g 0 rfl, bs]
    show (f_X4_store 136 3 (nI k) h).bind _ = _
    have cc : C0 h3 := i1.eq (XF 0 (by omega))
    unfold f_X4_store f_X4_store_e
    rw [t7.chk, t7.r 2 rfl, bs, p1, bs, p2, bs, p3, bs, bs, cc.r 5 rfl, bs, p4, bs]
  · unfold f_X9_keep f_X9_keep_e
    rw [M4.chk, p_in, bs, if_neg (show ¬ bI (decide (¬ nI 1 < 0 ∧ ¬ (1 : Int32) < nI 1)) = 0 by decide)]
    show (f_X9_copyRow 142 (nI 0) (nI 1474) h4).bind _ = _
    rw [q1, bs, N1.g 4 rfl, bs, t5, m_ins kb (by omega) 1 (by omega), q2, bs, q3, bs]
  · exact PAi.join (ps := []) (P4.fr (fun j hj => ZZ j hj : Fr h4 k3 142 12) (by omega)) ⟨us, fun i q hq => by simp at hq⟩ ⟨by simp, fun i q hq => by simp at hq⟩
  · refine ⟨ins kb 1, s0, nI k, j0, S, fq, t1.eq (hE _ (by omega) (by omega)), t2, t3, hkb, rfl, by rw [tbo]; exact t6.eq (hE _ (by omega) (by omega)), by rw [tbs]; exact o3'.eq (ZZ _ (by omega)), t8.eq (fun j _ _ => hE j (by omega) (by omega)), V3.hx.eq (fun j _ _ => ZZ j (by omega)), fun z => (t10 (by rw [← tbo]; exact z)).mv (fun j _ _ => hE j (by omega) (by omega)) (fun j h1 h2 => gA j (by omega)) rfl rfl, fun _ => ?_⟩
    refine ⟨V3.eq (fun j _ _ => ZZ j (by omega)), i6.to Y (fun j hj => by rw [setA_s]; exact cpR_in (by omega)), Y, rfl, rfl, ?_, nI_pos T.2.2⟩
    rw [setA_s, cpR_in (by omega)]; exact f.2.2.2.2
theorem back1 {h : HP} {F : Nat → Int32} {A : AT} {S : CS} (M : MM h F A) (I : INV h F A S) : ∃ r h1 h2, f_X8_goBack 0 (nI 1) h = some (r, h1) ∧ f_X9_goBack 142 (nI 1) h1 = some (r, h2) ∧ Inv h2 := by
  have hI : Inv h := ⟨F, A, S, M, I⟩
  have Y := I.2.1
  have hP := Y.p6
  obtain ⟨ps, k, C, f, T⟩ := I.opn
  have I0 := I
  obtain ⟨i1, i2, i3, i4, i5, i6, i7, i8, i9, i10, i11, i12, i13, i14⟩ := I
  obtain ⟨kb, s0, s1, j0, j1, fq, t1, t2, t3, t4, t5, t6, t7, t8, t9, t10, t11⟩ := i14
  have e8 : f_X8_goBack 0 (nI 1) h = if bI (kb.testBit 1) = 0 then some (-1000000003, h) else (f_X3_copy 3 137 h).bind fun h6 => (gR h6 0 8 7).bind fun r7 => (gI h6 136 4 1).bind fun v8 => (pI h6 r7 2 0 v8).bind fun h9 => (gR h9 0 8 5).bind fun r10 => (f_X6_forget r10 h9).bind fun h11 => some (1, h11) := by
    unfold f_X8_goBack f_X8_goBack_e f_X8_imageAt f_X8_imageAt_e
    rw [i1.chk, i1.chk, if_neg (by decide), i1.r 8 rfl, bs, t1.len, bs, if_neg (nI_ge (by omega) (by omega)), bs, t1.ld (k := 1) (by omega) (by omega), t3, bs, bs]
    show (gI h 136 4 0).bind _ = _
    rw [t7.g 0 rfl, bs]
    show (if bI (kb.testBit 1) = 0 then some (-1000000003, h) else (gR h 0 8 1).bind fun r4 => (gR h 136 4 2).bind _) = _
    rw [i1.r 1 rfl, bs, t7.r 2 rfl, bs]
  have e9 : ∀ h1, MM h1 F A → f_X9_goBack 142 (nI 1) h1 = if bI (kb.testBit 1) = 0 then some (-1000000003, h1) else (f_X9_copyRow 142 (nI 1474) (nI 0) h1).bind fun h4 => (pI h4 142 9 3 0).bind fun h5 => some (1, h5) := by
    intro h1 M1
    unfold f_X9_goBack f_X9_goBack_e
    rw [M1.chk, p_in, bs, if_neg (show ¬ bI (decide (¬ nI 1 < 0 ∧ ¬ (1 : Int32) < nI 1)) = 0 by decide)]
    show (gI h1 142 9 4).bind _ = _
    rw [M1.g 4 rfl, bs, t5]
    show (f_X9_has (nI kb) (nI 1) h1).bind _ = _
    rw [p_has (by omega) (by omega), bs]
    rfl
  cases hb : kb.testBit 1 with
  | false => exact ⟨-1000000003, h, h, by rw [e8, hb]; rfl, by rw [e9 h M, hb]; rfl, hI⟩
  | true =>
    rw [hb, if_neg b1n] at e8
    obtain ⟨u1, u2, u3, u4, u5, u6, u7⟩ := t11 hb
    obtain ⟨kk, hkk, hs⟩ := nI_of u7
    obtain ⟨h1, p1, V1, X1⟩ := p_copy i3.hx u1 u3 (by omega)
    have c1 := i1.eq (X1 0 (by omega))
    have o1 := t7.eq (X1 _ (by omega))
    have d1 := C.2.2.2.2.2.2.1.eq (X1 _ (by omega))
    obtain ⟨h2, p2, o2, X2⟩ := d1.w 0 s1 (gs := [.inl s1]) rfl (Nat.le_of_ble_eq_true rfl)
    have c2 := c1.eq (X2 0 (by omega))
    obtain ⟨h3, p3, P3, X3⟩ := p_forget ((C.2.2.2.2.2.1.fr X1 (by omega)).fr X2 (by omega))
    have he : ∀ j, (j < 3 ∨ (8 ≤ j ∧ j < 21) ∨ (123 ≤ j ∧ j ≠ 128)) → h3[j]? = h[j]? := fun j hj => ((X3 j (by omega)).trans (X2 j (by omega))).trans (X1 j (by omega))
    have C3 : CX9 h h3 j1 [] kk := ⟨i1.eq (he _ (by omega)), (V1.fr X2 (by omega)).fr X3 (by omega), i7.eq (fun j _ _ => he j (by omega)), i8.eq (fun j _ _ => he j (by omega)), i9.mv (he _ (by omega)) (he _ (by omega)), P3, by rw [← hs]; exact o2.eq (X3 _ (by omega)), fun j hj => he j (by omega)⟩
    have M3 := C3.mm M
    obtain ⟨k1, q1, N1, Z1⟩ := p_copyRow M3 (x := 1474) (y := 0) (by omega) (by omega) (by omega)
    obtain ⟨k2, q2, N2, Z2⟩ := N1.p 3 0 rfl (by omega)
    have gA : ∀ j, 67 ≤ j → setA A 0 (cpR (A 0) 1474 0) 0 j = A 0 j := fun j hj => by rw [setA_s, cpR_out (by omega)]
    have G2 : MC h3 F A k2 (upd F 3 0) (setA A 0 (cpR (A 0) 1474 0)) j1 [] kk := by
      refine ⟨N2, ⟨f.1.trans (by rw [u4]), f.2.1.trans (by rw [u5]), ?_, ⟨us, fun i q hq => by simp at hq⟩, ?_⟩, ⟨⟨rfl, rfl, rfl, rfl, rfl⟩, fun j h1 h2 => gA j (by omega), rfl, rfl, rfl, rfl, rfl⟩, fun j hj => (Z2 j (by omega)).trans (Z1 j (by omega))⟩
      · rw [setA_s]; exact u2.to u3 (fun j hj => cpR_in (by omega))
      · rw [setA_s, show (66 : Nat) = 0 + 66 from rfl, cpR_in (by omega), u6, hs]
    refine ⟨1, h3, k2, ?_, ?_, close_all I0 C3 G2 ⟨u3, ⟨by simp, fun i q hq => by simp at hq⟩, hkk⟩ u4 u5⟩
    · rw [e8, p1, bs, c1.r 7 rfl, bs, o1.g 1 rfl, bs, p2, bs, c2.r 5 rfl, bs, p3, bs]
    · rw [e9 h3 M3, hb, if_neg b1n, q1, bs, q2, bs]
theorem im_out {h : HP} {F : Nat → Int32} {A : AT} {S : CS} (M : MM h F A) (I : INV h F A S) {x : Int32} (hx : ¬ (¬ x < 0 ∧ ¬ (1 : Int32) < x)) : f_X8_imageAt 0 x h = some (none, h) := by
  obtain ⟨kb, s0, s1, j0, j1, fq, t1, t2, t3, t4, t5, t6, t7, t8, t9, t10, t11⟩ := I.2.2.2.2.2.2.2.2.2.2.2.2.2
  unfold f_X8_imageAt f_X8_imageAt_e f_X8_imageAt_b22
  rw [I.1.chk]
  by_cases h0 : x < 0
  · rw [if_pos h0]
  · rw [if_neg h0, I.1.r 8 rfl, bs, t1.len, bs, if_pos]
    obtain ⟨j, hj, rfl⟩ := nI_of h0
    refine nI_le ?_ hj
    rcases Nat.lt_or_ge j 2 with z | z
    · exact absurd ⟨h0, nI_nlt (a := 1) (b := j) (by omega) (by omega)⟩ hx
    · exact z
theorem s_keep : SK1 f_X8_keep f_X9_keep Inv := by
  intro h x hI
  obtain ⟨F, A, S, M, I⟩ := id hI
  by_cases hx : ¬ x < 0 ∧ ¬ (1 : Int32) < x
  · obtain ⟨j, hj, rfl⟩ := nI_of2 (M := 1) (n := 1) (by decide) hx.1 (Int32.not_lt.mp hx.2)
    rcases (show j = 0 ∨ j = 1 by omega) with rfl | rfl
    · exact keep0 M I
    · exact keep1 M I
  · refine ⟨-1000000001, h, h, ?_, ?_, hI⟩
    · unfold f_X8_keep f_X8_keep_e
      rw [I.1.chk, im_out M I hx, bs]; rfl
    · unfold f_X9_keep f_X9_keep_e
      rw [M.chk, p_in, bs, if_pos (by show bI (decide _) = 0; rw [decide_eq_false hx]; rfl)]
theorem s_goBack : SK1 f_X8_goBack f_X9_goBack Inv := by
  intro h x hI
  obtain ⟨F, A, S, M, I⟩ := id hI
  by_cases hx : ¬ x < 0 ∧ ¬ (1 : Int32) < x
  · obtain ⟨j, hj, rfl⟩ := nI_of2 (M := 1) (n := 1) (by decide) hx.1 (Int32.not_lt.mp hx.2)
    rcases (show j = 0 ∨ j = 1 by omega) with rfl | rfl
    · exact back0 M I
    · exact back1 M I
  · refine ⟨-1000000001, h, h, ?_, ?_, hI⟩
    · unfold f_X8_goBack f_X8_goBack_e
      rw [I.1.chk, im_out M I hx, bs]; rfl
    · unfold f_X9_goBack f_X9_goBack_e
      rw [M.chk, p_in, bs, if_pos (by show bI (decide _) = 0; rw [decide_eq_false hx]; rfl)]
