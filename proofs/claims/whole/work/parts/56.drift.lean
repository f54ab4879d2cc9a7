/-! time by draws -/
theorem emptyC_lt {S : CS} (Y : VS S) : emptyC S < 256 := m_adn_lt (m_full_lt _ (by have := Y.n8; omega))
section DRI
variable {h0 h : HP} {F0 F : Nat → Int32} {A0 A : AT} {S : CS} {ps : List CS} {k : Nat}
/-- one deed by draws: what the house is then, and the seed -/
noncomputable def deedC (S : CS) (k : Nat) : CS × Nat :=
  let p := dr (stepS k) (cP S)
  if dr k 4 = 0 then (setLk S p (likeC (cL S p) (dr (stepS (stepS k)) (cN S)) (dr (stepS (stepS (stepS k))) 8)), stepS (stepS (stepS (stepS k))))
  else if dr k 4 = 1 then (setLk S p (dropC (dr (stepS (stepS k)) (cN S)) (cL S p)), stepS (stepS (stepS k)))
  else if dr k 4 = 2 then (setOd S (movC (cO S) p (dr (stepS (stepS k)) (cP S))), stepS (stepS (stepS k)))
  else (movedC S, stepS (stepS k))
theorem deed_tv (T : TV S ps k) (hP : 0 < cP S) (hN : 0 < cN S) : TV (deedC S k).1 (pushL ps S) (deedC S k).2 ∧ cN (deedC S k).1 = cN S ∧ cP (deedC S k).1 = cP S := by
  obtain ⟨Y, P, hk⟩ := T
  have hp := dr_lt (k := stepS k) hP
  have hr := dr_lt (k := stepS (stepS k)) hN
  have hs := fun k => stepS_lt k
  unfold deedC
  dsimp only
  have P' := P.push Y
  split
  · exact ⟨⟨Y.likeC hp hr _, P'.to rfl rfl, hs _⟩, rfl, rfl⟩
  · split
    · exact ⟨⟨Y.drop hp _, P'.to rfl rfl, hs _⟩, rfl, rfl⟩
    · split
      · exact ⟨⟨Y.od movC_perm, P'.to rfl rfl, hs _⟩, rfl, rfl⟩
      · exact ⟨⟨Y.moved, P'.to rfl rfl, hs _⟩, rfl, rfl⟩
theorem CX9.deed (C : CX9 h0 h S ps k) (T : TV S ps k) (hP : 0 < cP S) (hN : 0 < cN S) : ∃ h', f_X8_drawDeed 0 h = some h' ∧ CX9 h0 h' (deedC S k).1 ps (deedC S k).2 := by
  obtain ⟨Y, P, hk⟩ := T
  have hP6 := Y.p6
  have hN8 := Y.n8
  have hp := dr_lt (k := stepS k) hP
  have hr := dr_lt (k := stepS (stepS k)) hN
  have hs := fun k => stepS_lt k
  have h4 := dr_lt (k := k) (n := 4) (by omega)
  obtain ⟨h1, p1, C1⟩ := C.drw hk (n := 4) (by omega) (by omega)
  obtain ⟨h2, p2, C2⟩ := C1.drw (hs k) (n := cP S) hP (by omega)
  have pre : f_X8_drawDeed 0 h = if nI (dr k 4) = 0 then (f_X2_draw 128 (nI (cN S)) h2).bind fun q10 => (gR q10.2 0 8 1).bind fun r11 => (gR q10.2 0 8 7).bind fun r12 => (f_X2_draw r12 8 q10.2).bind fun q13 => (f_X3_putLiking r11 (nI (dr (stepS k) (cP S))) q10.1 q13.1 q13.2).bind fun h14 => some h14 else if nI (dr k 4) = 1 then (f_X2_draw 128 (nI (cN S)) h2).bind fun q19 => (f_X3_dropLiking 3 (nI (dr (stepS k) (cP S))) q19.1 q19.2).bind fun h20 => some h20 else if nI (dr k 4) = 2 then (f_X2_draw 128 (nI (cP S)) h2).bind fun q25 => (f_X3_toPlace 3 (nI (dr (stepS k) (cP S))) q25.1 q25.2).bind fun h26 => some h26 else (f_X8_moveAll 0 h2).bind fun q27 => some q27.2 := by
    unfold f_X8_drawDeed f_X8_drawDeed_e f_X8_drawDeed_b129
    rw [C.1.chk, C.1.r 7 rfl, bs]
    show (f_X2_draw 128 (nI 4) h).bind _ = _
    rw [p1, bs]
    show (gR h1 0 8 7).bind _ = _
    rw [C1.1.r 7 rfl, bs]
    show (gR h1 0 8 1).bind _ = _
    rw [C1.1.r 1 rfl, bs]
    show (gI h1 3 3 1).bind _ = _
    rw [C1.2.1.pers, bs]
    show (f_X2_draw 128 (nI (cP S)) h1).bind _ = _
    rw [p2, bs]
    show (if nI (dr k 4) = 0 then (gR h2 0 8 7).bind fun r7 => (gR h2 0 8 1).bind fun r8 => (gI h2 r8 3 0).bind _ else if nI (dr k 4) = 1 then (gR h2 0 8 1).bind fun r15 => (gR h2 0 8 7).bind fun r16 => (gR h2 0 8 1).bind fun r17 => (gI h2 r17 3 0).bind _ else if nI (dr k 4) = 2 then (gR h2 0 8 1).bind fun r21 => (gR h2 0 8 7).bind fun r22 => (gR h2 0 8 1).bind fun r23 => (gI h2 r23 3 1).bind _ else (f_X8_moveAll 0 h2).bind _) = _
    rw [C2.1.r 7 rfl, bs, C2.1.r 1 rfl, bs, C2.2.1.rooms, bs, bs, bs, bs, C2.2.1.rooms, bs, bs, bs, bs, C2.2.1.pers, bs]
  rw [pre]
  unfold deedC
  dsimp only
  by_cases h0 : dr k 4 = 0
  · rw [if_pos (by rw [h0]; rfl), if_pos h0]
    obtain ⟨h3, p3, C3⟩ := C2.drw (hs _) (n := cN S) hN (by omega)
    obtain ⟨h4, p4, C4⟩ := C3.drw (hs _) (n := 8) (by omega) (by omega)
    obtain ⟨h5, p5, V5, X5⟩ := p_putLiking C4.2.1 Y hp hr (dr_lt (k := stepS (stepS (stepS k))) (n := 8) (by omega))
    refine ⟨h5, ?_, C4.hou X5 V5⟩
    rw [p3, bs]
    show (gR h3 0 8 1).bind _ = _
    rw [C3.1.r 1 rfl, bs]
    show (gR h3 0 8 7).bind _ = _
    rw [C3.1.r 7 rfl, bs]
    show (f_X2_draw 128 (nI 8) h3).bind _ = _
    rw [p4, bs, p5, bs]
  · rw [if_neg (fun z => h0 ((nI_0iff (by omega)).mp z)), if_neg h0]
    by_cases h1 : dr k 4 = 1
    · rw [if_pos (by rw [h1]; rfl), if_pos h1]
      obtain ⟨h3, p3, C3⟩ := C2.drw (hs _) (n := cN S) hN (by omega)
      obtain ⟨h5, p5, V5, X5⟩ := p_dropLiking C3.2.1 Y hp (x := dr (stepS (stepS k)) (cN S)) (by omega)
      refine ⟨h5, ?_, C3.hou X5 V5⟩
      rw [p3, bs, p5, bs]
    · rw [if_neg (show ¬ nI (dr k 4) = (1 : Int32) from fun z => h1 ((nI_eq (b := 1) (by omega) (by omega)).mp z)), if_neg h1]
      by_cases h2 : dr k 4 = 2
      · rw [if_pos (by rw [h2]; rfl), if_pos h2]
        obtain ⟨h3, p3, C3⟩ := C2.drw (hs _) (n := cP S) hP (by omega)
        obtain ⟨h5, p5, V5, X5⟩ := p_toPlace C3.2.1 Y hp (dr_lt (k := stepS (stepS k)) hP)
        refine ⟨h5, ?_, C3.hou X5 V5⟩
        rw [p3, bs, p5, bs]
      · rw [if_neg (show ¬ nI (dr k 4) = (2 : Int32) from fun z => h2 ((nI_eq (b := 2) (by omega) (by omega)).mp z)), if_neg h2]
        obtain ⟨h5, p5, C5⟩ := C2.mov Y
        exact ⟨h5, by rw [p5, bs], C5⟩
theorem MC.deed (G : MC h0 F0 A0 h F A S ps k) (T : TV S ps k) (hP : 0 < cP S) (hN : 0 < cN S) : ∃ h' F' A', f_X9_time 142 h = some h' ∧ MC h0 F0 A0 h' F' A' (deedC S k).1 ps (deedC S k).2 := by
  obtain ⟨Y, P, hk⟩ := T
  have hP6 := Y.p6
  have hN8 := Y.n8
  have hp := dr_lt (k := stepS k) hP
  have hr := dr_lt (k := stepS (stepS k)) hN
  have hs := fun k => stepS_lt k
  have h4 := dr_lt (k := k) (n := 4) (by omega)
  obtain ⟨h1, A1, p1, G1⟩ := G.drw Y P hk (n := 4) (by omega) (by omega)
  obtain ⟨h2, A2, p2, G2⟩ := G1.drw Y P (hs k) (n := cP S) hP (by omega)
  have pre : f_X9_time 142 h = if nI (dr k 4) = 0 then (f_X9_draw 142 (nI (cN S)) h2).bind fun q5 => (f_X9_draw 142 8 q5.2).bind fun q6 => (f_X9_putIn 142 0 (nI (dr (stepS k) (cP S))) q5.1 q6.1 q6.2).bind fun h7 => some h7 else if nI (dr k 4) = 1 then (f_X9_draw 142 (nI (cN S)) h2).bind fun q9 => (f_X9_strikeOut 142 0 (nI (dr (stepS k) (cP S))) q9.1 q9.2).bind fun h10 => some h10 else if nI (dr k 4) = 2 then (f_X9_draw 142 (nI (cP S)) h2).bind fun q12 => (f_X9_setLot 142 (nI (dr (stepS k) (cP S))) q12.1 q12.2).bind fun h13 => some h13 else (f_X9_moveAll 142 h2).bind fun q14 => some q14.2 := by
    unfold f_X9_time f_X9_time_e f_X9_time_b92
    rw [G.1.chk]
    show (f_X9_draw 142 (nI 4) h).bind _ = _
    rw [p1, bs]
    show (gI h1 142 9 2).bind _ = _
    rw [G1.1.g 2 rfl, bs, G1.2.1.2.1]
    show (f_X9_draw 142 (nI (cP S)) h1).bind _ = _
    rw [p2, bs]
    show (if nI (dr k 4) = 0 then (gI h2 142 9 1).bind _ else if nI (dr k 4) = 1 then (gI h2 142 9 1).bind _ else if nI (dr k 4) = 2 then (gI h2 142 9 2).bind _ else (f_X9_moveAll 142 h2).bind _) = _
    rw [G2.1.g 1 rfl, bs, G2.2.1.1, bs, G2.1.g 2 rfl, bs, G2.2.1.2.1]
  rw [pre]
  unfold deedC
  dsimp only
  by_cases h0 : dr k 4 = 0
  · rw [if_pos (by rw [h0]; rfl), if_pos h0]
    obtain ⟨h3, A3, p3, G3⟩ := G2.drw Y P (hs _) (n := cN S) hN (by omega)
    obtain ⟨h4, A4, p4, G4⟩ := G3.drw Y P (hs _) (n := 8) (by omega) (by omega)
    obtain ⟨h5, A5, p5, G5⟩ := G4.put Y P hp hr (dr_lt (k := stepS (stepS (stepS k))) (n := 8) (by omega))
    refine ⟨h5, F, A5, ?_, G5⟩
    rw [p3, bs]
    show (f_X9_draw 142 (nI 8) h3).bind _ = _
    rw [p4, bs, p5, bs]
  · rw [if_neg (fun z => h0 ((nI_0iff (by omega)).mp z)), if_neg h0]
    by_cases h1 : dr k 4 = 1
    · rw [if_pos (by rw [h1]; rfl), if_pos h1]
      obtain ⟨h3, A3, p3, G3⟩ := G2.drw Y P (hs _) (n := cN S) hN (by omega)
      obtain ⟨h5, A5, p5, G5⟩ := G3.stk Y P hp (r := dr (stepS (stepS k)) (cN S)) (by omega)
      exact ⟨h5, F, A5, by rw [p3, bs, p5, bs], G5⟩
    · rw [if_neg (show ¬ nI (dr k 4) = (1 : Int32) from fun z => h1 ((nI_eq (b := 1) (by omega) (by omega)).mp z)), if_neg h1]
      by_cases h2 : dr k 4 = 2
      · rw [if_pos (by rw [h2]; rfl), if_pos h2]
        obtain ⟨h3, A3, p3, G3⟩ := G2.drw Y P (hs _) (n := cP S) hP (by omega)
        obtain ⟨h5, A5, p5, G5⟩ := G3.lot Y P hp (dr_lt (k := stepS (stepS k)) hP)
        exact ⟨h5, F, A5, by rw [p3, bs, p5, bs], G5⟩
      · rw [if_neg (show ¬ nI (dr k 4) = (2 : Int32) from fun z => h2 ((nI_eq (b := 2) (by omega) (by omega)).mp z)), if_neg h2]
        obtain ⟨h5, F5, A5, p5, G5⟩ := G2.mov Y P
        exact ⟨h5, F5, A5, by rw [p5, bs], G5⟩
noncomputable def drL : Nat → CS × List CS × Nat → CS × List CS × Nat
  | 0, x => x
  | m + 1, x => drL m ((deedC x.1 x.2.2).1, pushL x.2.1 x.1, (deedC x.1 x.2.2).2)
theorem drL_tv : ∀ m (x : CS × List CS × Nat), TV x.1 x.2.1 x.2.2 → 0 < cP x.1 → 0 < cN x.1 → TV (drL m x).1 (drL m x).2.1 (drL m x).2.2 ∧ cN (drL m x).1 = cN x.1 ∧ cP (drL m x).1 = cP x.1 := by
  intro m
  induction m with
  | zero => intro x T _ _; exact ⟨T, rfl, rfl⟩
  | succ m ih =>
    intro x T hP hN
    obtain ⟨T1, n1, p1⟩ := deed_tv T hP hN
    obtain ⟨T2, n2, p2⟩ := ih ((deedC x.1 x.2.2).1, pushL x.2.1 x.1, (deedC x.1 x.2.2).2) T1 (by show 0 < cP (deedC x.1 x.2.2).1; rw [p1]; exact hP) (by show 0 < cN (deedC x.1 x.2.2).1; rw [n1]; exact hN)
    exact ⟨T2, n2.trans n1, p2.trans p1⟩
theorem l_driftC {z : Nat} (hz : z ≤ 20) : ∀ m i, i + m = z → ∀ n, m < n → ∀ (h : HP) (S : CS) (ps : List CS) (k : Nat), CX9 h0 h S ps k → TV S ps k → 0 < cP S → 0 < cN S → ∃ h', F_X8_drift_29 n 0 (nI z) (nI i) h = some (nI (popN (emptyC (drL m (S, ps, k)).1)), h') ∧ CX9 h0 h' (drL m (S, ps, k)).1 (drL m (S, ps, k)).2.1 (drL m (S, ps, k)).2.2 := by
  intro m
  induction m with
  | zero =>
    intro i hi n hn h S ps k C T hP hN
    obtain ⟨n, rfl⟩ := sx hn
    have hN8 := T.1.n8
    refine ⟨h, ?_, C⟩
    show f_X8_drift_b29 _ _ _ _ _ = _
    unfold f_X8_drift_b29 f_X8_drift_b65
    rw [if_pos (nI_le (by omega) (by omega)), C.1.r 1 rfl, bs, p_emptyRooms C.2.1 T.1, bs]
    show (f_J6_bitCount_0f7a4 (nI (emptyC S)) h).bind _ = _
    rw [p_bc (emptyC_lt (by first | exact T.1 | exact Y)), bs]
    rfl
  | succ m ih =>
    intro i hi n hn h S ps k C T hP hN
    obtain ⟨n, rfl⟩ := sx hn
    have hP6 := T.1.p6
    obtain ⟨h1, p1, C1⟩ := C.psh T.1
    obtain ⟨h2, p2, C2⟩ := C1.deed (T := ⟨T.1, T.2.1.push T.1, T.2.2⟩) hP hN
    obtain ⟨T2, n2, q2⟩ := deed_tv T hP hN
    obtain ⟨h3, p3, C3⟩ := ih (i + 1) (by omega) n (by omega) h2 _ _ _ C2 T2 (by rw [q2]; exact hP) (by rw [n2]; exact hN)
    refine ⟨h3, ?_, C3⟩
    show f_X8_drift_b29 _ _ _ _ _ = _
    unfold f_X8_drift_b29
    rw [if_neg (nI_ge (by omega) (by omega)), C.1.r 1 rfl, bs, C.2.1.pers, bs, if_neg (nI_nle hP (by omega)), C.1.r 5 rfl, bs, bs, p1, bs, p2, bs, nI_1, p3]
    rfl
theorem l_driftM {z : Nat} (hz : z ≤ 20) : ∀ m i, i + m = z → ∀ n, m < n → ∀ (h : HP) (F : Nat → Int32) (A : AT) (S : CS) (ps : List CS) (k : Nat), MC h0 F0 A0 h F A S ps k → TV S ps k → 0 < cP S → 0 < cN S → ∃ h' F' A', F_X9_drift_25 n 142 (nI z) (nI i) h = some (nI (popN (emptyC (drL m (S, ps, k)).1)), h') ∧ MC h0 F0 A0 h' F' A' (drL m (S, ps, k)).1 (drL m (S, ps, k)).2.1 (drL m (S, ps, k)).2.2 := by
  intro m
  induction m with
  | zero =>
    intro i hi n hn h F A S ps k G T hP hN
    obtain ⟨n, rfl⟩ := sx hn
    have hN8 := T.1.n8
    refine ⟨h, F, A, ?_, G⟩
    show f_X9_drift_b25 _ _ _ _ _ = _
    unfold f_X9_drift_b25 f_X9_drift_b51
    rw [if_pos (nI_le (by omega) (by omega)), p_roomsLeft0 G.1 G.2.1.2.2.1 T.1 G.2.1.1 G.2.1.2.1, bs]
    show (f_X9_bits (nI (emptyC S)) h).bind _ = _
    rw [p_bits (emptyC_lt (by first | exact T.1 | exact Y)), bs]
    rfl
  | succ m ih =>
    intro i hi n hn h F A S ps k G T hP hN
    obtain ⟨n, rfl⟩ := sx hn
    have hP6 := T.1.p6
    obtain ⟨h1, F1, A1, p1, G1, -⟩ := G.rem T.1 T.2.1
    obtain ⟨h2, F2, A2, p2, G2⟩ := G1.deed (T := ⟨T.1, T.2.1.push T.1, T.2.2⟩) hP hN
    obtain ⟨T2, n2, q2⟩ := deed_tv T hP hN
    obtain ⟨h3, F3, A3, p3, G3⟩ := ih (i + 1) (by omega) n (by omega) h2 _ _ _ _ _ G2 T2 (by rw [q2]; exact hP) (by rw [n2]; exact hN)
    refine ⟨h3, F3, A3, ?_, G3⟩
    show f_X9_drift_b25 _ _ _ _ _ = _
    unfold f_X9_drift_b25
    rw [if_neg (nI_ge (by omega) (by omega)), G.1.g 2 rfl, bs, G.2.1.2.1, if_neg (nI_nle hP (by omega)), p1, bs, p2, bs, nI_1, p3]
    rfl
end DRI
theorem s_drift : SK1 f_X8_drift f_X9_drift Inv := by
  intro h x hI
  obtain ⟨F, A, S, M, I⟩ := id hI
  have Y := I.2.1
  have hP := Y.p6
  have hN := Y.n8
  have e8 : f_X8_drift 0 x h = if x < 1 then some (-1000000002, h) else if x ≤ 20 then if nI (cN S) = 0 then some (-1000000003, h) else F_X8_drift_29 FU 0 x 0 h else some (-1000000002, h) := by
    unfold f_X8_drift f_X8_drift_e f_X8_drift_b11
    rw [I.1.chk, I.1.r 1 rfl, bs, I.2.2.1.rooms, bs]
  have e9 : ∀ h1, MM h1 F A → f_X9_drift 142 x h1 = if bI (decide (¬ x < 1 ∧ ¬ (20 : Int32) < x)) = 0 then some (-1000000002, h1) else if nI (cN S) = 0 then some (-1000000003, h1) else F_X9_drift_25 FU 142 x 0 h1 := by
    intro h1 M1
    unfold f_X9_drift f_X9_drift_e
    rw [M1.chk, p_in, bs]
    show (if bI (decide (¬ x < 1 ∧ ¬ (20 : Int32) < x)) = 0 then some (-1000000002, h1) else (gI h1 142 9 1).bind _) = _
    rw [M1.g 1 rfl, bs, I.2.2.2.1]
  by_cases hx : ¬ x < 1 ∧ ¬ (20 : Int32) < x
  · obtain ⟨m, hm1, hm2, rfl⟩ := (in1 (n := 20) (by omega)).mp hx
    rw [if_neg hx.1, if_pos (Int32.not_lt.mp hx.2)] at e8
    by_cases h0 : cN S = 0
    · exact ⟨-1000000003, h, h, by rw [e8, h0]; rfl, by rw [e9 h M, if_neg (by rw [decide_eq_true hx]; exact b1n), h0]; rfl, hI⟩
    · rw [if_neg (nI_ne0 (by omega) (by omega))] at e8
      have e9' : ∀ h1, MM h1 F A → f_X9_drift 142 (nI m) h1 = F_X9_drift_25 FU 142 (nI m) 0 h1 := fun h1 M1 => by
        rw [e9 h1 M1, if_neg (by rw [decide_eq_true hx]; exact b1n), if_neg (nI_ne0 (by omega) (by omega))]
      by_cases hp0 : cP S = 0
      · -- nobody is there
        refine ⟨nI (popN (emptyC S)), h, h, ?_, ?_, hI⟩
        · rw [e8]
          show f_X8_drift_b29 _ _ _ _ _ = _
          unfold f_X8_drift_b29 f_X8_drift_b65
          rw [if_neg (show ¬ nI m ≤ 0 from nI_nle (by omega) (by omega)), I.1.r 1 rfl, bs, I.2.2.1.pers, bs, hp0, if_pos (by decide), bs, p_emptyRooms I.2.2.1 Y, bs]
          show (f_J6_bitCount_0f7a4 (nI (emptyC S)) h).bind _ = _
          rw [p_bc (emptyC_lt (by first | exact T.1 | exact Y)), bs]
        · rw [e9' h M]
          show f_X9_drift_b25 _ _ _ _ _ = _
          unfold f_X9_drift_b25 f_X9_drift_b51
          rw [if_neg (show ¬ nI m ≤ 0 from nI_nle (by omega) (by omega)), M.g 2 rfl, bs, I.2.2.2.2.1, hp0, if_pos (by decide), p_roomsLeft0 M I.2.2.2.2.2.1 Y I.2.2.2.1 I.2.2.2.2.1, bs]
          show (f_X9_bits (nI (emptyC S)) h).bind _ = _
          rw [p_bits (emptyC_lt (by first | exact T.1 | exact Y)), bs]
      · obtain ⟨ps, k, C, f, T⟩ := I.opn
        obtain ⟨h1, p1, C1⟩ := l_driftC (z := m) hm2 m 0 (by omega) FU (fu_lt (by omega)) h S ps k C T (by omega) (by omega)
        have M1 := C1.mm M
        obtain ⟨h2, F2, A2, p2, G2⟩ := l_driftM (z := m) hm2 m 0 (by omega) FU (fu_lt (by omega)) h1 F A S ps k (MC.start M1 f) T (by omega) (by omega)
        obtain ⟨T2, n2, q2⟩ := drL_tv m (S, ps, k) T (by show 0 < cP S; omega) (by show 0 < cN S; omega)
        exact ⟨_, h1, h2, e8.trans p1, (e9' h1 M1).trans p2, close_all I C1 G2 T2 n2 q2⟩
  · refine ⟨-1000000002, h, h, ?_, ?_, hI⟩
    · rw [e8]
      by_cases h1 : x < 1
      · rw [if_pos h1]
      · rw [if_neg h1, if_neg (fun z => hx ⟨h1, Int32.not_lt.mpr z⟩)]
    · rw [e9 h M, if_pos (by rw [decide_eq_false hx]; rfl)]
