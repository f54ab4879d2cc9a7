/-! hostel -/
theorem l_begin {F : Nat → Int32} {x : Nat} (hx : x ≤ 1541) : ∀ m i, i + m = 6 → ∀ n, m < n → ∀ (h : HP) (A : AT), MM h F A → ∃ h' g, F_X9_beginLots_2 n 142 (nI x) (nI i) h = some h' ∧ MM h' F (setA A 0 g) ∧ Fr h h' 142 12 ∧ (∀ j, i ≤ j → j < 6 → g (x + 60 + j) = nI j) ∧ ∀ j, (j < x + 60 + i ∨ x + 66 ≤ j) → g j = A 0 j := by
  intro m
  induction m with
  | zero =>
    intro i hi n hn h A M
    obtain ⟨n, rfl⟩ := sx hn
    refine ⟨h, A 0, ?_, by rw [setA_self]; exact M, Fr.rfl, fun j h1 h2 => by omega, fun _ _ => rfl⟩
    show f_X9_beginLots_b2 _ _ _ _ _ = _
    unfold f_X9_beginLots_b2
    rw [if_pos (show (6 : Int32) ≤ nI i from nI_le (a := 6) (by omega) (by omega))]
  | succ m ih =>
    intro i hi n hn h A M
    obtain ⟨n, rfl⟩ := sx hn
    obtain ⟨h1, e1, M1, X1⟩ := M.ast 0 (by omega) (show x + 60 + i < 1608 by omega) (nI i)
    obtain ⟨h2, g, e2, M2, X2, g1, g2⟩ := ih (i + 1) (by omega) n (by omega) h1 _ M1
    rw [setA_set] at M2
    refine ⟨h2, g, ?_, M2, X1.trans X2, fun j h1 h2 => ?_, fun j hj => ?_⟩
    · show f_X9_beginLots_b2 _ _ _ _ _ = _
      unfold f_X9_beginLots_b2
      rw [if_neg (show ¬ (6 : Int32) ≤ nI i from nI_ge (b := 6) (by omega) (by omega)), M.r 0 rfl, bs, ix60]
      show (ast h (143 + 0) _ _).bind _ = _
      rw [e1, bs, nI_1, e2]
    · by_cases hji : j = i
      · subst hji
        rw [g2 _ (by omega), setA_s, us]
      · exact g1 j (by omega) h2
    · rw [g2 j (by omega), setA_s, un (by omega)]
theorem p_begin {h : HP} {F : Nat → Int32} {A : AT} {x : Nat} (hx : x ≤ 1541) (M : MM h F A) : ∃ h' g, f_X9_beginLots 142 (nI x) h = some h' ∧ MM h' F (setA A 0 g) ∧ Fr h h' 142 12 ∧ (∀ j, j < 6 → g (x + 60 + j) = nI j) ∧ ∀ j, (j < x + 60 ∨ x + 66 ≤ j) → g j = A 0 j := by
  obtain ⟨h', g, e, M', X, g1, g2⟩ := l_begin (F := F) hx 6 0 (by omega) FU (fu_lt (by omega)) h A M
  refine ⟨h', g, ?_, M', X, fun j hj => g1 j (by omega) hj, fun j hj => g2 j (by omega)⟩
  unfold f_X9_beginLots f_X9_beginLots_e
  rw [M.chk]
  exact e
theorem range_get {n k q : Nat} (h : (List.range n)[k]? = some q) : k < n ∧ q = k := by
  have hk := (List.getElem?_eq_some_iff.mp h).1
  simp at hk
  rw [List.getElem?_range hk] at h
  exact ⟨hk, (Option.some.inj h).symm⟩
theorem PC.eq9 {h h' : HP} {ps : List CS} (c : PC h ps) (he : ∀ k, 21 ≤ k → k < 123 → h'[k]? = h[k]?) : PC h' ps := by
  obtain ⟨sg, f, t1, t2, t3, t5, t6, t7⟩ := c
  refine ⟨sg, f, t1, t2.eq (he _ (by omega) (by omega)), t3.eq (he _ (by omega) (by omega)), fun i hi => ?_, t6, fun i q hq => ?_⟩
  · obtain ⟨w1, w2, w3⟩ := t5 i hi
    exact ⟨w1, w2, w3.eq (fun k _ _ => he k (by omega) (by omega))⟩
  · have := (List.getElem?_eq_some_iff.mp hq).1
    have := (t5 i (by omega)).2.1
    exact (t7 i q hq).eq (fun k _ _ => he k (by omega) (by omega))
theorem s_hostel : SK0 f_X8_hostel f_X9_hostel Inv := by
  intro h hI
  obtain ⟨F, A, S, M, I⟩ := id hI
  have Y := I.2.1
  obtain ⟨L, fa, b, c, d, T, t1, t2, t3, t4, t5, t6⟩ := I.2.2.2.2.2.2.2.2.2.1
  have tx : ∀ j, j < L → A 1 j = T j := fun j hj => (t6 j hj).1.symm
  obtain ⟨x, h1, e1, a1, fr1, R1⟩ := p_readInto t1 (fun j hj => (t6 j hj).2) t2 t3 I.2.2.2.2.2.2.1
  have ov := totalP_ov (T := T) (L := L)
  have M1 : MM h1 F A := ⟨by rw [fr1 142 (by omega)]; exact M.1, fun j hj => (M.2 j hj).eq (fr1 _ (by omega))⟩
  have pre8 : f_X8_hostel 0 h = if x = 0 then (gR h1 0 8 1).bind fun r4 => (gR h1 0 8 2).bind fun r5 => (f_X3_copy r4 r5 h1).bind fun h6 => (gR h6 0 8 5).bind fun r7 => (f_X6_forget r7 h6).bind fun h8 => (gR h8 0 8 6).bind fun r9 => (f_X5_clear r9 h8).bind fun h10 => F_X8_hostel_48 FU 0 0 h10 else some (-10 - x, h1) := by
    unfold f_X8_hostel f_X8_hostel_e
    rw [I.1.chk, I.1.r 0 rfl, bs, I.1.r 2 rfl, bs, e1, bs]
  have c1 : C0 h1 := I.1.eq (fr1 0 (by omega))
  cases ho : totalP T L with
  | inl e =>
    rw [ho] at R1 ov
    obtain ⟨hx, ⟨b', c', d', o1⟩, V1⟩ := R1
    obtain ⟨k2, e2, R2⟩ := p_hostelM t1 M1 t4 tx
    rw [ho] at R2
    obtain ⟨F2, A2, ⟨M2, X2, f2, as⟩, g20, g21, -⟩ := R2
    have hne : ¬ nI e.1 = 0 := nz ov.1 ov.2.1
    obtain ⟨k3, e3, M3, X3⟩ := M2.p 6 0 rfl (by omega)
    obtain ⟨k4, e4, M4, X4⟩ := M3.p 7 (nI e.2) rfl (by omega)
    refine ⟨-10 - nI e.1, h1, k4, ?_, ?_, ⟨_, A2, S, M4, ?_⟩⟩
    · rw [pre8, hx, if_neg hne]
    · rw [e2]
      unfold f_X9_hostel_b60
      rw [e3, bs, fine1 M3 (by rw [un (by omega), g20]; exact hne), bs, if_pos (by rfl)]
      show (gI k3 142 9 21).bind _ = _
      rw [M3.g 21 rfl, bs, un (by omega), g21]
      show (pI k3 142 9 7 (nI e.2)).bind _ = _
      rw [e4, bs, M4.g 20 rfl, bs, un (by omega), un (by omega), g20]
    · have XX : ∀ j, j < 142 → k4[j]? = h1[j]? := fun j hj => ((X4 j (by omega)).trans (X3 j (by omega))).trans (X2 j hj)
      have he : ∀ j, j < 142 → (j = 0 ∨ (3 ≤ j ∧ j < 8) ∨ 13 ≤ j) → k4[j]? = h[j]? := fun j h1 h2 => (XX j h1).trans (fr1 j h2)
      have fF : ∀ q, q < 19 → q ≠ 6 → q ≠ 7 → upd (upd F2 6 0) 7 (nI e.2) q = F q := fun q h1 h2 h3 => by rw [un h3, un h2, f2 q h1, un h3]
      obtain ⟨i1, i2, i3, i4, i5, i6, i7, i8, i9, i10, i11, i12, i13, i14⟩ := I
      refine ⟨i1.eq (he _ (by omega) (by omega)), i2, i3.eq (fun j _ _ => he j (by omega) (by omega)), (fF 1 (by omega) (by omega) (by omega)).trans i4, (fF 2 (by omega) (by omega) (by omega)).trans i5, i6.eq i2 (fun j _ _ => as.1 j (by omega)), V1.eq (fun j _ _ => XX j (by omega)), i8.eq (fun j _ _ => he j (by omega) (by omega)), i9.mv (he _ (by omega) (by omega)) (he _ (by omega) (by omega)), ?_, i11.mv (fun j _ _ => he j (by omega) (by omega)) (fF 3 (by omega) (by omega) (by omega)) (fun j _ _ => as.1 j (by omega)) rfl rfl, i12.mv (fun j _ _ => he j (by omega) (by omega)) (fF 15 (by omega) (by omega) (by omega)) (fF 18 (by omega) (by omega) (by omega)) as.2.2.1 as.2.2.2.1 as.2.2.2.2.1 as.2.2.2.2.2 rfl, i13.mv (he _ (by omega) (by omega)) (as.1 _ (by omega)), i14.mv (fun j _ _ => he j (by omega) (by omega)) (fF 4 (by omega) (by omega) (by omega)) (fun j _ _ => as.1 j (by omega)) rfl rfl⟩
      exact ⟨0, nI e.2, b', c', d', T, by omega, o1.eq (XX 1 (by omega)), a1.eq (XX 2 (by omega)), (un (by omega)).trans us, us, fun j hj => by omega⟩
  | inr z =>
    rw [ho] at R1 ov
    obtain ⟨hx, ⟨b', c', d', o1⟩, V1⟩ := R1
    obtain ⟨-, YD, OD⟩ := ov
    have hP := YD.p6
    obtain ⟨i1, i2, i3, i4, i5, i6, i7, i8, i9, i10, i11, i12, i13, i14⟩ := I
    -- the class
    obtain ⟨h2, e2, V2, X2⟩ := p_copy (i3.eq (fun j _ _ => fr1 j (by omega)) : HV h1 3 S).hx V1 YD (by omega)
    have c2 : C0 h2 := c1.eq (X2 0 (by omega))
    obtain ⟨ps, P1, -, -⟩ := i11.split
    have he2 : ∀ j, (j = 0 ∨ 13 ≤ j) → h2[j]? = h[j]? := fun j hj => (X2 j (by omega)).trans (fr1 j (by omega))
    have P2 : PC h2 ps := P1.fr (fun j hj => he2 j (by omega) : Fr h h2 1 12) (by omega)
    obtain ⟨h3, e3, P3, X3⟩ := p_forget P2
    have c3 : C0 h3 := c2.eq (X3 0 (by omega))
    obtain ⟨q, e, sr, sg, ep, er, n1, n2, n3, n4, n5, n6, n7, n8, n9, n10, n11⟩ := i12
    have he3 : ∀ j, (j = 0 ∨ (13 ≤ j ∧ j < 21) ∨ 123 ≤ j) → h3[j]? = h[j]? := fun j hj => (X3 j (by omega)).trans (he2 j (by omega))
    have n3' := n3.eq (he3 123 (by omega))
    obtain ⟨h4, e4, o4, X4⟩ := n3'.w 0 0 (gs := [.inl 0, .inl (nI e), .inr (some 124), .inr (some 125), .inr (some 126), .inr (some 127)]) rfl (Nat.le_of_ble_eq_true rfl)
    obtain ⟨h5, e5, o5, X5⟩ := o4.w 1 0 (gs := [.inl 0, .inl 0, .inr (some 124), .inr (some 125), .inr (some 126), .inr (some 127)]) rfl (Nat.le_of_ble_eq_true rfl)
    have X45 := X4.trans X5
    have c5 : C0 h5 := c3.eq (X45 0 (by omega))
    obtain ⟨kb, s0, s1, j0, j1, fq, m1, m2, m3, m4, m5, m6, m7, m8, m9, m10, m11⟩ := i14
    have he5 : ∀ j, (j = 0 ∨ (13 ≤ j ∧ j < 21) ∨ 124 ≤ j) → h5[j]? = h[j]? := fun j hj => (X45 j (by omega)).trans (he3 j (by omega))
    have q5 := m1.eq (he5 129 (by omega))
    have b5 := m6.eq (he5 130 (by omega))
    obtain ⟨h6, e6, b6, X6⟩ := b5.w 0 0 (gs := [.inl 0, .inl s0, .inr (some 131)]) rfl (Nat.le_of_ble_eq_true rfl)
    have d6 := (m7.eq (he5 136 (by omega))).eq (X6 136 (by omega))
    obtain ⟨h7, e7, d7, X7⟩ := d6.w 0 0 (gs := [.inl 0, .inl s1, .inr (some 137)]) rfl (Nat.le_of_ble_eq_true rfl)
    have c6 : C0 h6 := c5.eq (X6 0 (by omega))
    have c7 : C0 h7 := c6.eq (X7 0 (by omega))
    have he7 : ∀ j, (j = 0 ∨ (13 ≤ j ∧ j < 21) ∨ (124 ≤ j ∧ j ≠ 130 ∧ j ≠ 136)) → h7[j]? = h[j]? := fun j hj => ((X7 j (by omega)).trans (X6 j (by omega))).trans (he5 j (by omega))
    have q6 := q5.eq (X6 129 (by omega))
    have q7 := q6.eq (X7 129 (by omega))
    have V7 : HV h7 3 z.2 := (((V2.fr X3 (by omega)).fr X45 (by omega)).fr X6 (by omega)).fr X7 (by omega)
    have a8 : f_X8_hostel 0 h = some (nI (cP z.2), h7) := by
      rw [pre8, hx, if_pos rfl, c1.r 1 rfl, bs, c1.r 2 rfl, bs, e2, bs, c2.r 5 rfl, bs, e3, bs, c3.r 6 rfl, bs]
      unfold f_X5_clear f_X5_clear_e
      rw [n3'.chk, e4, bs, e5, bs, bs]
      show f_X8_hostel_b48 (F_X8_hostel_48 3999) 0 0 h5 = _
      unfold f_X8_hostel_b48 f_X8_hostel_b72 f_X4_drop f_X4_drop_e
      rw [c5.r 8 rfl, bs, q5.len, bs, if_neg (by decide), bs]
      show (qld h5 129 (nI 0)).bind _ = _
      rw [q5.ld (k := 0) (by omega) (by omega), m2, bs, b5.chk, e6, bs, bs]
      show f_X8_hostel_b48 (F_X8_hostel_48 3998) 0 (nI 1) h6 = _
      unfold f_X8_hostel_b48 f_X8_hostel_b72 f_X4_drop f_X4_drop_e
      rw [c6.r 8 rfl, bs, q6.len, bs, if_neg (by decide), bs, q6.ld (k := 1) (by omega) (by omega), m3, bs, d6.chk, e7, bs, bs]
      show f_X8_hostel_b48 (F_X8_hostel_48 3997) 0 (nI 2) h7 = _
      unfold f_X8_hostel_b48
      rw [c7.r 8 rfl, bs, q7.len, bs, if_pos (by decide), c7.r 1 rfl, bs, V7.pers, bs]
    have M7 : MM h7 F A := ⟨by rw [he7 142 (by omega)]; exact M.1, fun j hj => (M.2 j hj).eq (he7 _ (by omega))⟩
    -- the reference
    obtain ⟨k2, g2, R2⟩ := p_hostelM t1 M7 t4 tx
    rw [ho] at R2
    obtain ⟨F2, A2, ⟨N2, Z2, f2, as⟩, g19, g20, g22, g23, RR⟩ := R2
    obtain ⟨k3, u3, N3, Z3⟩ := N2.p 6 0 rfl (by omega)
    obtain ⟨k4, g, u4, N4, Z4, gg1, gg2⟩ := p_begin (x := 1541) (by omega) N3
    obtain ⟨k5, u5, N5, Z5⟩ := N4.ast 0 (by omega) (show 1607 < 1608 by omega) (A2 0 66)
    rw [setA_set, setA_s] at N5
    obtain ⟨k6, u6, N6, Z6⟩ := p_copyRow N5 (x := 1541) (y := 0) (by omega) (by omega) (by omega)
    rw [setA_set, setA_s] at N6
    obtain ⟨k7, u7, N7, Z7⟩ := N6.p 1 (nI (cN z.2)) rfl (by omega)
    obtain ⟨k8, u8, N8, Z8⟩ := N7.p 2 (nI (cP z.2)) rfl (by omega)
    obtain ⟨k9, u9, N9, Z9⟩ := N8.p 3 0 rfl (by omega)
    obtain ⟨k10, u10, N10, Z10⟩ := N9.p 4 0 rfl (by omega)
    obtain ⟨k11, u11, N11, Z11⟩ := N10.p 15 0 rfl (by omega)
    obtain ⟨k12, u12, N12, Z12⟩ := N11.p 18 0 rfl (by omega)
    have ZZ : ∀ j, (j < 142 ∨ 142 + 12 ≤ j) → k12[j]? = k2[j]? := ((((((((((Z3.trans Z4).trans Z5).trans Z6).trans Z7).trans Z8).trans Z9).trans Z10).trans Z11).trans Z12))
    have hE : ∀ j, j < 142 → k12[j]? = h7[j]? := fun j hj => (ZZ j (by omega)).trans (Z2 j hj)
    have row : ∀ j, j < 66 → cpR (upd g 1607 (A2 0 66)) 1541 0 j = g (1541 + j) := fun j hj => by
      have := cpR_in (w := upd g 1607 (A2 0 66)) (x := 1541) (y := 0) (k := j) (by omega)
      rw [Nat.zero_add] at this
      rw [this, un (by omega)]
    have a9 : f_X9_hostel 142 h7 = some (nI (cP z.2), k12) := by
      rw [g2]
      unfold f_X9_hostel_b60
      rw [u3, bs, fine0 N3 ((un (by omega)).trans g20), bs, if_neg (show ¬ (1 : Int32) = 0 by decide)]
      show (f_X9_beginLots 142 (nI 1541) k3).bind _ = _
      rw [u4, bs, N4.r 0 rfl, bs, bs]
      show (ald k4 (143 + 0) (nI 66)).bind _ = _
      rw [N4.ald 0 (by omega) (show 66 < 1608 by omega), bs, setA_s, gg2 66 (by omega)]
      show (ast k4 (143 + 0) (nI 1607) (A2 0 66)).bind _ = _
      rw [u5, bs]
      show (f_X9_copyRow 142 (nI 1541) (nI 0) k5).bind _ = _
      rw [u6, bs, N6.g 22 rfl, bs, un (by omega), g22, u7, bs, N7.g 23 rfl, bs, un (by omega), un (by omega), g23, u8, bs, u9, bs, u10, bs, u11, bs, u12, bs, N12.g 2 rfl, bs]
      rfl
    refine ⟨nI (cP z.2), h7, k12, a8, a9, ⟨_, _, z.2, N12, c7.eq (hE _ (by omega)), YD, V7.eq (fun j _ _ => hE j (by omega)), rfl, rfl, ?_, ?_, ?_, ?_, ?_, ?_, ?_, ?_, ?_⟩⟩
    · rw [setA_s]
      refine ⟨fun p hp => ?_, fun p hp => ?_, fun p hp k y hk => ?_, fun k y hk => ?_⟩
      · rw [row _ (by omega), gg2 _ (by omega)]
        have := RR.1 p hp
        rwa [show 1541 + 54 + p = 1541 + (0 + 54 + p) by omega] at this
      · rw [row _ (by omega), gg2 _ (by omega)]
        have := RR.2.1 p hp
        rwa [show 1541 + 48 + p = 1541 + (0 + 48 + p) by omega] at this
      · have hl := YD.len hp
        have hkl := (List.getElem?_eq_some_iff.mp hk).1
        rw [row _ (by omega), gg2 _ (by omega)]
        have := RR.2.2.1 p hp k y hk
        rwa [show 1541 + 8 * p + k = 1541 + (0 + 8 * p + k) by omega] at this
      · rw [OD] at hk
        obtain ⟨hk1, rfl⟩ := range_get hk
        rw [row _ (by omega), show 1541 + (0 + 60 + y) = 1541 + 60 + y by omega, gg1 y (by omega)]
    · exact ((((V1.fr X2 (by omega)).fr X3 (by omega)).fr X45 (by omega)).fr X6 (by omega)).fr X7 (by omega) |>.hx.eq (fun j _ _ => hE j (by omega))
    · exact i8.eq (fun j _ _ => (hE j (by omega)).trans (he7 j (by omega)))
    · exact i9.mv ((hE _ (by omega)).trans (he7 _ (by omega))) ((hE _ (by omega)).trans (he7 _ (by omega)))
    · have o7 : OB h7 1 7 _ := ((((o1.eq (X2 1 (by omega))).eq (X3 1 (by omega))).eq (X45 1 (by omega))).eq (X6 1 (by omega))).eq (X7 1 (by omega))
      have a7 := ((((a1.eq (X2 2 (by omega))).eq (X3 2 (by omega))).eq (X45 2 (by omega))).eq (X6 2 (by omega))).eq (X7 2 (by omega))
      refine ⟨0, -1, b', c', d', T, by omega, o7.eq (hE 1 (by omega)), a7.eq (hE 2 (by omega)), rfl, ?_, fun j hj => by omega⟩
      exact f2 7 (by omega)
    · refine PAi.join (ps := []) ((((P3.fr X45 (by omega)).fr X6 (by omega)).fr X7 (by omega)).eq9 (fun j _ _ => hE j (by omega))) ⟨rfl, fun i q hq => by simp at hq⟩ ⟨by simp, fun i q hq => by simp at hq⟩
    · have o7 := ((o5.eq (X6 123 (by omega))).eq (X7 123 (by omega))).eq (hE 123 (by omega))
      exact ⟨0, 0, sr, sg, ep, er, by omega, by omega, o7, n4.eq ((hE _ (by omega)).trans (he7 _ (by omega))), n5.eq ((hE _ (by omega)).trans (he7 _ (by omega))), n6.eq ((hE _ (by omega)).trans (he7 _ (by omega))), n7.eq ((hE _ (by omega)).trans (he7 _ (by omega))), rfl, rfl, fun i hi => by omega, fun i hi => by omega⟩
    · refine i13.mv ((hE _ (by omega)).trans (he7 _ (by omega))) ?_
      rw [setA_s]
      have := cpR_in (w := upd g 1607 (A2 0 66)) (x := 1541) (y := 0) (k := 66) (by omega)
      rw [Nat.zero_add] at this
      rw [this, us]
      exact as.1 66 (by omega)
    · exact ⟨0, s0, s1, j0, j1, fq, q7.eq (hE _ (by omega)), m2, m3, by omega, rfl, (b6.eq (X7 130 (by omega))).eq (hE _ (by omega)), d7.eq (hE _ (by omega)), m8.eq (fun j _ _ => (hE j (by omega)).trans (he7 j (by omega))), m9.eq (fun j _ _ => (hE j (by omega)).trans (he7 j (by omega))), fun q => by simp at q, fun q => by simp at q⟩
