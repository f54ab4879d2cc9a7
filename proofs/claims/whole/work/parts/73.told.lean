/-! told -/
theorem AW.as {A A' : AT} (a : AW A A') : AS A A' := ⟨fun j _ => by rw [a 0 (by omega) (by omega)], a 1 (by omega) (by omega), a 6 (by omega) (by omega), a 7 (by omega) (by omega), a 8 (by omega) (by omega), a 9 (by omega) (by omega)⟩
theorem s_told : SK1 f_X8_told f_X9_told Inv := by
  intro h x hI
  obtain ⟨F, A, S, M, I⟩ := id hI
  have Y := I.2.1
  have hP := Y.p6
  have hN := Y.n8
  have fin : ∀ (v : Int32) (k1 : HP), f_X8_told 0 x h = some (v, k1) → MM k1 F A → INV k1 F A S → (∀ k2 F' A', MM k2 F' A' → RV (A' 0) 0 S → FS F F' → F' 11 = nI (outC S).1 → (∀ p, p < cP S → A' 2 p = gC S p) → f_X9_giveOut 142 0 k1 = some k2 → ∃ k3 A3, f_X9_told 142 x k1 = some (v, k3) ∧ MM k3 F' A3 ∧ AW A' A3 ∧ Fr k2 k3 142 12) → ∃ r h1 h2, f_X8_told 0 x h = some (r, h1) ∧ f_X9_told 142 x h1 = some (r, h2) ∧ Inv h2 := by
    intro v k1 h8 M1 I1 h9
    obtain ⟨k2, g2, D2, X2⟩ := p_gave M1 I1
    obtain ⟨F', A', M', fs, as, a0, f11, -, hg⟩ := id D2
    obtain ⟨k3, A3, e9, M3, aw, X3⟩ := h9 k2 F' A' M' (I.2.2.2.2.2.1.eq Y (fun j _ _ => a0 j)) fs f11 (fun p hp => (hg p hp).1) g2
    exact ⟨v, k1, k3, h8, e9, ⟨F', A3, S, M3, I1.mdl (fun j hj => (X3 j (by omega)).trans (X2 j (by omega))) fs (as.trans aw.as)⟩⟩
  have pre8 : f_X8_told 0 x h = f_X8_told_e 0 x h := by unfold f_X8_told; rw [I.1.chk]
  have pre9 : ∀ k1, MM k1 F A → f_X9_told 142 x k1 = f_X9_told_e 142 x k1 := fun k1 M1 => by unfold f_X9_told; rw [M1.chk]
  unfold f_X8_told_e at pre8
  unfold f_X9_told_e at pre9
  obtain ⟨k1, q1, D1, X1⟩ := p_dealt I
  have I1 := I.deal X1 D1.dx
  have M1 := M.fr X1 (by omega)
  have V1 : HV k1 3 S := I1.2.2.1
  have c1 : C0 k1 := I1.1
  obtain ⟨L, fa, tb, tc, td, lt, t1, t2, t3, t4, t5, t6⟩ := I.2.2.2.2.2.2.2.2.2.1
  obtain ⟨K, sg, ps, pf, u1, u2, u3, u4, u5⟩ := I.2.2.2.2.2.2.2.2.2.2.1
  obtain ⟨q, e, sr, sg2, ep, er, v1, v2, v3, v4, v5, v6, v7, v8, v9, v10⟩ := I.2.2.2.2.2.2.2.2.2.2.2.1
  obtain ⟨kw, qw, Ow, Bw, Xw⟩ := p_weighed I.1 I.2.2.1 Y I.2.2.2.2.2.2.2.2.1
  have Iw : INV kw F A S := I.scr (fun k _ h2 => Xw k (by omega)) (I.2.2.2.2.2.2.1.eq (fun k h1 h2 => Xw k (by omega))) (I.2.2.2.2.2.2.2.1.eq (fun k h1 h2 => Xw k (by omega))) Bw
  have Mw := M.fr Xw (by omega)
  by_cases y0 : x = nI 0
  · rw [if_pos y0, I.1.r 1 rfl, bs, I.2.2.1.rooms, bs] at pre8
    refine fin _ h pre8 M I (fun k2 F' A' M' R' fs f11 hg g2 => ⟨k2, A', ?_, M', AW.rfl, Fr.rfl⟩)
    rw [pre9 h M, g2, bs, if_pos y0, M'.g 1 rfl, bs, fs.1, I.2.2.2.1]
  rw [if_neg y0] at pre8
  by_cases y1 : x = nI 1
  · rw [if_pos y1, I.1.r 1 rfl, bs, I.2.2.1.pers, bs] at pre8
    refine fin _ h pre8 M I (fun k2 F' A' M' R' fs f11 hg g2 => ⟨k2, A', ?_, M', AW.rfl, Fr.rfl⟩)
    rw [pre9 h M, g2, bs, if_neg y0, if_pos y1, M'.g 2 rfl, bs, fs.2.1, I.2.2.2.2.1]
  rw [if_neg y1] at pre8
  by_cases y2 : x = nI 2
  · rw [if_pos y2, I.1.r 0 rfl, bs, t2.g 0 rfl, bs] at pre8
    refine fin _ h pre8 M I (fun k2 F' A' M' R' fs f11 hg g2 => ⟨k2, A', ?_, M', AW.rfl, Fr.rfl⟩)
    rw [pre9 h M, g2, bs, if_neg y0, if_neg y1, if_pos y2, M'.g 6 rfl, bs, fs.2.2.2.2.1, t4]
  rw [if_neg y2] at pre8
  by_cases y3 : x = nI 3
  · rw [if_pos y3, q1, bs] at pre8
    have pre8 : f_X8_told 0 x h = (gI k1 13 1 0).bind fun v9 => some (v9, k1) := pre8
    obtain ⟨th, dg, dr, dz, dt, dn, DD, -⟩ := id D1
    rw [DD.g0, bs] at pre8
    refine fin _ k1 pre8 M1 I1 (fun k2 F' A' M' R' fs f11 hg g2 => ⟨k2, A', ?_, M', AW.rfl, Fr.rfl⟩)
    rw [pre9 k1 M1, g2, bs, if_neg y0, if_neg y1, if_neg y2, if_pos y3, M'.g 11 rfl, bs, f11]
  rw [if_neg y3] at pre8
  by_cases y4 : x = nI 4
  · rw [if_pos y4, q1, bs] at pre8
    have pre8 : f_X8_told 0 x h = (gR k1 0 8 1).bind fun r12 => (f_X1_emptyHanded 13 r12 k1).bind fun q13 => some (q13.1, q13.2) := pre8
    have e1 : f_X1_emptyHanded 13 3 k1 = some (nI (gath (fun p => decide (gC S p = -1)) (cP S) 0 0), k1) := by
      obtain ⟨th, dg, dr, dz, dt, dn, DD, -⟩ := id D1
      unfold f_X1_emptyHanded f_X1_emptyHanded_e
      rw [DD.chk]
      exact l_emptyHanded D1 V1 Y (cP S) 0 (by omega) FU (fu_lt (by omega)) 0 (by omega)
    rw [c1.r 1 rfl, bs, e1, bs] at pre8
    refine fin _ k1 pre8 M1 I1 (fun k2 F' A' M' R' fs f11 hg g2 => ⟨k2, A', ?_, M', AW.rfl, Fr.rfl⟩)
    have e2 : f_X9_without 142 k2 = some (nI (gath (fun p => decide (gC S p = -1)) (cP S) 0 0), k2) := by
      unfold f_X9_without f_X9_without_e
      rw [M'.chk]
      exact l_without M' Y (fs.2.1.trans I.2.2.2.2.1) hg (cP S) 0 (by omega) FU (fu_lt (by omega)) 0 (by omega)
    rw [pre9 k1 M1, g2, bs, if_neg y0, if_neg y1, if_neg y2, if_neg y3, if_pos y4, e2, bs]
  rw [if_neg y4] at pre8
  by_cases y5 : x = nI 5
  · rw [if_pos y5, q1, bs] at pre8
    have pre8 : f_X8_told 0 x h = (gI k1 13 1 1).bind fun v9 => some (v9, k1) := pre8
    obtain ⟨th, dg, dr, dz, dt, dn, DD, -⟩ := id D1
    rw [DD.g1, bs] at pre8
    refine fin _ k1 pre8 M1 I1 (fun k2 F' A' M' R' fs f11 hg g2 => ⟨k2, A', ?_, M', AW.rfl, Fr.rfl⟩)
    rw [pre9 k1 M1, g2, bs, if_neg y0, if_neg y1, if_neg y2, if_neg y3, if_neg y4, if_pos y5, p_roomsLeft1 M' Y (fs.1.trans I.2.2.2.1) (fs.2.1.trans I.2.2.2.2.1) hg, bs]
  rw [if_neg y5] at pre8
  by_cases y6 : x = nI 6
  · rw [if_pos y6, I.1.r 1 rfl, bs, p_emptyRooms I.2.2.1 Y, bs] at pre8
    refine fin _ h pre8 M I (fun k2 F' A' M' R' fs f11 hg g2 => ⟨k2, A', ?_, M', AW.rfl, Fr.rfl⟩)
    rw [pre9 h M, g2, bs, if_neg y0, if_neg y1, if_neg y2, if_neg y3, if_neg y4, if_neg y5, if_pos y6, p_roomsLeft0 M' R' Y (fs.1.trans I.2.2.2.1) (fs.2.1.trans I.2.2.2.2.1), bs]
  rw [if_neg y6] at pre8
  by_cases y7 : x = nI 7
  · rw [if_pos y7, qw, bs] at pre8
    have pre8 : f_X8_told 0 x h = (gI kw 19 0 0).bind fun v9 => some (v9, kw) := pre8
    rw [Ow.g 0 rfl, bs] at pre8
    refine fin _ kw pre8 Mw Iw (fun k2 F' A' M' R' fs f11 hg g2 => ?_)
    obtain ⟨k3, A3, e3, M3, a3, X3⟩ := p_groups Y (fs.2.1.trans I.2.2.2.2.1) M' R' 0
    rw [if_pos rfl] at e3
    refine ⟨k3, A3, ?_, M3, a3, X3⟩
    rw [pre9 kw Mw, g2, bs, if_neg y0, if_neg y1, if_neg y2, if_neg y3, if_neg y4, if_neg y5, if_neg y6, if_pos y7, e3, bs]
  rw [if_neg y7] at pre8
  by_cases y8 : x = nI 8
  · rw [if_pos y8, qw, bs] at pre8
    have pre8 : f_X8_told 0 x h = (gI kw 19 0 1).bind fun v9 => some (v9, kw) := pre8
    rw [Ow.g 1 rfl, bs] at pre8
    refine fin _ kw pre8 Mw Iw (fun k2 F' A' M' R' fs f11 hg g2 => ?_)
    obtain ⟨k3, A3, e3, M3, a3, X3⟩ := p_groups Y (fs.2.1.trans I.2.2.2.2.1) M' R' 1
    rw [if_neg (show ¬ (1 : Int32) = 0 by decide)] at e3
    refine ⟨k3, A3, ?_, M3, a3, X3⟩
    rw [pre9 kw Mw, g2, bs, if_neg y0, if_neg y1, if_neg y2, if_neg y3, if_neg y4, if_neg y5, if_neg y6, if_neg y7, if_pos y8, e3, bs]
  rw [if_neg y8] at pre8
  by_cases y9 : x = nI 9
  · rw [if_pos y9, I.1.r 6 rfl, bs, v3.g 0 rfl, bs] at pre8
    refine fin _ h pre8 M I (fun k2 F' A' M' R' fs f11 hg g2 => ⟨k2, A', ?_, M', AW.rfl, Fr.rfl⟩)
    rw [pre9 h M, g2, bs, if_neg y0, if_neg y1, if_neg y2, if_neg y3, if_neg y4, if_neg y5, if_neg y6, if_neg y7, if_neg y8, if_pos y9, M'.g 15 rfl, bs, fs.2.2.2.2.2.2.1, v8]
  rw [if_neg y9] at pre8
  by_cases y10 : x = nI 10
  · rw [if_pos y10, I.1.r 6 rfl, bs, v3.g 1 rfl, bs] at pre8
    refine fin _ h pre8 M I (fun k2 F' A' M' R' fs f11 hg g2 => ⟨k2, A', ?_, M', AW.rfl, Fr.rfl⟩)
    rw [pre9 h M, g2, bs, if_neg y0, if_neg y1, if_neg y2, if_neg y3, if_neg y4, if_neg y5, if_neg y6, if_neg y7, if_neg y8, if_neg y9, if_pos y10, M'.g 18 rfl, bs, fs.2.2.2.2.2.2.2, v9]
  rw [if_neg y10] at pre8
  by_cases y11 : x = nI 11
  · rw [if_pos y11, I.1.r 5 rfl, bs, u2.g 0 rfl, bs] at pre8
    refine fin _ h pre8 M I (fun k2 F' A' M' R' fs f11 hg g2 => ⟨k2, A', ?_, M', AW.rfl, Fr.rfl⟩)
    rw [pre9 h M, g2, bs, if_neg y0, if_neg y1, if_neg y2, if_neg y3, if_neg y4, if_neg y5, if_neg y6, if_neg y7, if_neg y8, if_neg y9, if_neg y10, if_pos y11, M'.g 3 rfl, bs, fs.2.2.1, u4]
  rw [if_neg y11] at pre8
  refine fin _ h pre8 M I (fun k2 F' A' M' R' fs f11 hg g2 => ⟨k2, A', ?_, M', AW.rfl, Fr.rfl⟩)
  rw [pre9 h M, g2, bs, if_neg y0, if_neg y1, if_neg y2, if_neg y3, if_neg y4, if_neg y5, if_neg y6, if_neg y7, if_neg y8, if_neg y9, if_neg y10, if_neg y11]
