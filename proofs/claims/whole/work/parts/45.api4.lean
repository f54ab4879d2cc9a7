section RD
variable {h : HP} {S : CS} {a : Nat}
def whoC (S : CS) (r : Int32) : Option Nat := fnd (fun p => decide (gC S p = r)) (cP S) 0
theorem p_roomOf (D : DVo h S) (Y : VS S) {p : Nat} (hp : p < cP S) : f_X1_roomOf 13 (nI p) h = some (gC S p, h) := by
  have := Y.p6
  obtain ⟨th, g, r, z, tg, on, V, e⟩ := D
  unfold f_X1_roomOf f_X1_roomOf_e
  rw [V.chk, V.r3, bs, ia_at V.2.1 (by omega) (by omega), bs, (e p hp).1]
theorem p_roundOf (D : DVo h S) (Y : VS S) {p : Nat} (hp : p < cP S) : f_X1_roundOf 13 (nI p) h = some (rC S p, h) := by
  have := Y.p6
  obtain ⟨th, g, r, z, tg, on, V, e⟩ := D
  unfold f_X1_roundOf f_X1_roundOf_e
  rw [V.chk, V.r4, bs, ia_at V.2.2.1 (by omega) (by omega), bs, (e p hp).2.1]
theorem p_ringOf (D : DVo h S) (Y : VS S) {p : Nat} (hp : p < cP S) : f_X1_ringOf 13 (nI p) h = some (zC S p, h) := by
  have := Y.p6
  obtain ⟨th, g, r, z, tg, on, V, e⟩ := D
  unfold f_X1_ringOf f_X1_ringOf_e
  rw [V.chk, V.r5, bs, ia_at V.2.2.2.1 (by omega) (by omega), bs, (e p hp).2.2]
theorem l_winner (D : DVo h S) (V : HV h a S) (Y : VS S) (x : Int32) : ∀ m i, i + m = cP S → ∀ n, m < n → F_X1_winner_2 n 13 a x (nI i) h = some (enc (fnd (fun p => decide (gC S p = x)) m i), h) := by
  have hP := Y.p6
  obtain ⟨th, g, r, z, tg, on, V9, e⟩ := D
  intro m
  induction m with
  | zero =>
    intro i hi n hn
    obtain ⟨n, rfl⟩ := sx hn
    show f_X1_winner_b2 _ _ _ _ _ _ = _
    unfold f_X1_winner_b2
    rw [V.pers, bs, if_pos (nI_le (by omega) (by omega))]; rfl
  | succ m ih =>
    intro i hi n hn
    obtain ⟨n, rfl⟩ := sx hn
    have hip : i < cP S := by omega
    show f_X1_winner_b2 _ _ _ _ _ _ = _
    unfold f_X1_winner_b2 fnd
    rw [V.pers, bs, if_neg (nI_ge hip (by omega)), V9.r3, bs, ia_at V9.2.1 (by omega) (by omega), bs, (e i hip).1]
    by_cases hq : gC S i = x
    · rw [if_pos hq, if_pos (by simpa using hq)]; rfl
    · rw [if_neg hq, if_neg (by simpa using hq), nI_1]
      exact ih (i + 1) (by omega) n (by omega)
theorem p_winner (D : DVo h S) (V : HV h a S) (Y : VS S) (x : Int32) : f_X1_winner 13 a x h = some (enc (whoC S x), h) := by
  have hP := Y.p6
  obtain ⟨th, g, r, z, tg, on, V9, e⟩ := id D
  unfold f_X1_winner f_X1_winner_e
  rw [V9.chk]
  exact l_winner D V Y x (cP S) 0 (by omega) FU (fu_lt (by omega))
variable {F : Nat → Int32} {A : AT}
theorem l_whoGets (M : MM h F A) (Y : VS S) (f2 : F 2 = nI (cP S)) (g : ∀ p, p < cP S → A 2 p = gC S p) (x : Int32) : ∀ m i, i + m = cP S → ∀ n, m < n → F_X9_whoGets_2 n 142 x (nI i) h = some (enc (fnd (fun p => decide (gC S p = x)) m i), h) := by
  have hP := Y.p6
  intro m
  induction m with
  | zero =>
    intro i hi n hn
    obtain ⟨n, rfl⟩ := sx hn
    show f_X9_whoGets_b2 _ _ _ _ _ = _
    unfold f_X9_whoGets_b2
    rw [M.g 2 rfl, bs, f2, if_pos (nI_le (by omega) (by omega))]; rfl
  | succ m ih =>
    intro i hi n hn
    obtain ⟨n, rfl⟩ := sx hn
    have hip : i < cP S := by omega
    show f_X9_whoGets_b2 _ _ _ _ _ = _
    unfold f_X9_whoGets_b2 fnd
    rw [M.g 2 rfl, bs, f2, if_neg (nI_ge hip (by omega)), M.r 8 rfl, bs]
    show (ald h (143 + 2) (nI i)).bind _ = _
    rw [M.ald 2 (by omega) (show i < 6 by omega), bs, g i hip]
    by_cases hq : gC S i = x
    · rw [if_pos hq, if_pos (by simpa using hq)]; rfl
    · rw [if_neg hq, if_neg (by simpa using hq), nI_1]
      exact ih (i + 1) (by omega) n (by omega)
theorem p_whoGets (M : MM h F A) (Y : VS S) (f2 : F 2 = nI (cP S)) (g : ∀ p, p < cP S → A 2 p = gC S p) (x : Int32) : f_X9_whoGets 142 x h = some (enc (whoC S x), h) := by
  have hP := Y.p6
  unfold f_X9_whoGets f_X9_whoGets_e
  rw [M.chk]
  exact l_whoGets M Y f2 g x (cP S) 0 (by omega) FU (fu_lt (by omega))
end RD
theorem s_room : SK2 f_X8_room f_X9_room Inv := by
  intro h x y hI
  obtain ⟨F, A, S, M, I⟩ := id hI
  have Y := I.2.1
  obtain ⟨t, e1, e2, ht⟩ := both_room M I x
  cases t with
  | false =>
    refine ⟨-1000000001, h, h, ?_, ?_, hI⟩
    · unfold f_X8_room f_X8_room_e
      rw [I.1.chk, I.1.r 1 rfl, bs, e1, bs, if_pos (by rfl)]
    · unfold f_X9_room f_X9_room_e
      rw [M.chk, e2 h F A M I.2.2.2.1, bs, if_pos (by rfl)]
  | true =>
    obtain ⟨r, hr, rfl⟩ := ht.mp rfl
    have hN := Y.n8
    have pre8 : f_X8_room 0 (nI r) y h = if y = 0 then (f_X3_sitter 3 (nI r) h).bind fun q4 => some (q4.1, q4.2) else if y = 1 then (f_X8_dealt 0 h).bind fun q5 => om q5.1 none fun r6 => (gR q5.2 0 8 1).bind fun r7 => (f_X1_winner r6 r7 (nI r) q5.2).bind fun q8 => some (q8.1, q8.2) else some (-1000000002, h) := by
      unfold f_X8_room f_X8_room_e
      rw [I.1.chk, I.1.r 1 rfl, bs, e1, bs, if_neg b1n]
      show (if y = 0 then (gR h 0 8 1).bind _ else _) = _
      rw [I.1.r 1 rfl, bs]
    have pre9 : ∀ h', MM h' F A → (¬ y < 0 ∧ ¬ (1 : Int32) < y) → f_X9_room 142 (nI r) y h' = (f_X9_giveOut 142 0 h').bind fun h3 => if y = 0 then (gI h3 142 9 2).bind fun v4 => (f_X9_sitterIn 142 0 v4 (nI r) h3).bind fun q5 => some (q5.1, q5.2) else (f_X9_whoGets 142 (nI r) h3).bind fun q6 => some (q6.1, q6.2) := by
      intro h' M' hy
      unfold f_X9_room f_X9_room_e f_X9_room_b50
      rw [M'.chk, e2 h' F A M' I.2.2.2.1, bs, if_neg b1n]
      show (f_X9_in y 0 1 h').bind _ = _
      rw [p_in, bs, if_neg (by show ¬ bI (decide _) = 0; rw [decide_eq_true hy]; exact b1n)]
    by_cases h0 : y = 0
    · obtain ⟨h2, g2, D2, X2⟩ := p_gave M I
      obtain ⟨F', A', M', fs, as, a0, -⟩ := id D2
      have R' : RV (A' 0) 0 S := I.2.2.2.2.2.1.eq Y (fun j _ _ => a0 j)
      refine ⟨enc (sitC S r), h, h2, ?_, ?_, ⟨F', A', S, M', I.mdl (fun k hk => X2 k (by omega)) fs as⟩⟩
      · rw [pre8, if_pos h0, p_sitter I.2.2.1 Y (by omega), bs]
      · rw [pre9 h M (by rw [h0]; exact ⟨by decide, by decide⟩), g2, bs, if_pos h0, M'.g 2 rfl, bs, fs.2.1, I.2.2.2.2.1]
        show (f_X9_sitterIn 142 (nI 0) (nI (cP S)) (nI r) h2).bind _ = _
        rw [p_sitterIn M' R' Y (by omega) (by omega), bs]
    · by_cases h1 : y = 1
      · obtain ⟨k1, e8, D1, X1⟩ := p_dealt I
        have I1 := I.deal X1 D1.dx
        have M1 := M.fr X1 (by omega)
        obtain ⟨k2, g2, D2, X2⟩ := p_gave M1 I1
        obtain ⟨F', A', M', fs, as, a0, -, -, hg⟩ := id D2
        refine ⟨enc (whoC S (nI r)), k1, k2, ?_, ?_, inv_both M I D1 X1 D2 X2⟩
        · rw [pre8, if_neg h0, if_pos h1, e8, bs]
          show (gR k1 0 8 1).bind _ = _
          rw [I1.1.r 1 rfl, bs]
          show (f_X1_winner 13 3 (nI r) k1).bind _ = _
          rw [p_winner D1 I1.2.2.1 Y, bs]
        · rw [pre9 k1 M1 (by rw [h1]; exact ⟨by decide, by decide⟩), g2, bs, if_neg h0, p_whoGets M' Y (fs.2.1.trans I.2.2.2.2.1) (fun p hp => (hg p hp).1), bs]
      · refine ⟨-1000000002, h, h, by rw [pre8, if_neg h0, if_neg h1], ?_, hI⟩
        have hy : ¬ (¬ y < 0 ∧ ¬ (1 : Int32) < y) := by
          intro ⟨z1, z2⟩
          obtain ⟨j, hj, rfl⟩ := nI_of2 (M := 1) (n := 1) (by decide) z1 (Int32.not_lt.mp z2)
          rcases (show j = 0 ∨ j = 1 by omega) with rfl | rfl
          · exact h0 rfl
          · exact h1 rfl
        unfold f_X9_room f_X9_room_e
        rw [M.chk, e2 h F A M I.2.2.2.1, bs, if_neg b1n]
        show (f_X9_in y 0 1 h).bind _ = _
        rw [p_in, bs, if_pos (by show bI (decide _) = 0; rw [decide_eq_false hy]; rfl)]
/-! judge -/
theorem s_judge : SK0 f_X8_judge f_X9_judge Inv := by
  intro h hI
  obtain ⟨F, A, S, M, I⟩ := id hI
  have Y := I.2.1
  have hP := Y.p6
  obtain ⟨k1, e8, D1, X1⟩ := p_dealt I
  have I1 := I.deal X1 D1.dx
  have M1 := M.fr X1 (by omega)
  obtain ⟨k2, g2, D2, X2⟩ := p_gave M1 I1
  obtain ⟨F', A', M', fs, as, a0, -, -, hg⟩ := id D2
  obtain ⟨q, e, sr, sg, ep, er, t1, t2, t3, t4, t5, t6, t7, t8, t9, t10, t11⟩ := I1.2.2.2.2.2.2.2.2.2.2.2.1
  have l8 : ∀ m i, i + m = e → ∀ n, m < n → F_X5_firstWrong_2 n 123 13 (nI i) k1 = some (enc (fnd (fun i => decide (¬ gC S (ep i).toNatClampNeg = er i)) m i), k1) := by
    intro m
    induction m with
    | zero =>
      intro i hi n hn
      obtain ⟨n, rfl⟩ := sx hn
      show f_X5_firstWrong_b2 _ _ _ _ _ = _
      unfold f_X5_firstWrong_b2
      rw [t3.g 1 rfl, bs, if_pos (nI_le (by omega) (by omega))]; rfl
    | succ m ih =>
      intro i hi n hn
      obtain ⟨n, rfl⟩ := sx hn
      obtain ⟨u1, u2, p, hp, u3⟩ := t11 i (by omega)
      show f_X5_firstWrong_b2 _ _ _ _ _ = _
      unfold f_X5_firstWrong_b2 fnd
      rw [t3.g 1 rfl, bs, if_neg (nI_ge (show i < e by omega) (by omega)), t3.r 4 rfl, bs, ia_at t6 (by omega) (by omega), bs, u3, p_roomOf D1 Y hp, bs, t3.r 5 rfl, bs, ia_at t7 (by omega) (by omega), bs, nI_clamp (by omega)]
      by_cases hq : gC S p = er i
      · rw [if_pos hq, if_neg (by simpa using hq), nI_1]
        exact ih (i + 1) (by omega) n (by omega)
      · rw [if_neg hq, if_pos (by simpa using hq)]; rfl
  have l9 : ∀ m i, i + m = e → ∀ n, m < n → F_X9_judge_7 n 142 (nI i) k2 = some (enc (fnd (fun i => decide (¬ gC S (ep i).toNatClampNeg = er i)) m i), k2) := by
    intro m
    induction m with
    | zero =>
      intro i hi n hn
      obtain ⟨n, rfl⟩ := sx hn
      show f_X9_judge_b7 _ _ _ _ = _
      unfold f_X9_judge_b7
      rw [M'.g 18 rfl, bs, fs.2.2.2.2.2.2.2, t9, if_pos (nI_le (by omega) (by omega))]; rfl
    | succ m ih =>
      intro i hi n hn
      obtain ⟨n, rfl⟩ := sx hn
      obtain ⟨u1, u2, p, hp, u3⟩ := t11 i (by omega)
      show f_X9_judge_b7 _ _ _ _ = _
      unfold f_X9_judge_b7 fnd
      rw [M'.g 18 rfl, bs, fs.2.2.2.2.2.2.2, t9, if_neg (nI_ge (show i < e by omega) (by omega)), M'.r 8 rfl, bs, M'.r 16 rfl, bs]
      show (ald k2 (143 + 8) (nI i)).bind _ = _
      rw [M'.ald 8 (by omega) (show i < 20 by omega), bs, as.2.2.2.2.1, ← u1, u3]
      show (ald k2 (143 + 2) (nI p)).bind _ = _
      rw [M'.ald 2 (by omega) (show p < 6 by omega), bs, (hg p hp).1, M'.r 17 rfl, bs]
      show (ald k2 (143 + 9) (nI i)).bind _ = _
      rw [M'.ald 9 (by omega) (show i < 20 by omega), bs, as.2.2.2.2.2, ← u2, nI_clamp (by omega)]
      by_cases hq : gC S p = er i
      · rw [if_pos hq, if_neg (by simpa using hq), nI_1]
        exact ih (i + 1) (by omega) n (by omega)
      · rw [if_neg hq, if_pos (by simpa using hq)]; rfl
  refine ⟨enc (fnd (fun i => decide (¬ gC S (ep i).toNatClampNeg = er i)) e 0), k1, k2, ?_, ?_, inv_both M I D1 X1 D2 X2⟩
  · unfold f_X8_judge f_X8_judge_e
    rw [I.1.chk, I.1.r 6 rfl, bs, e8, bs]
    show (f_X5_firstWrong 123 13 k1).bind _ = _
    unfold f_X5_firstWrong f_X5_firstWrong_e
    rw [t3.chk]
    show (F_X5_firstWrong_2 FU 123 13 (nI 0) k1).bind _ = _
    rw [l8 e 0 (by omega) FU (fu_lt (by omega)), bs]
  · unfold f_X9_judge f_X9_judge_e
    rw [M1.chk, g2, bs]
    exact l9 e 0 (by omega) FU (fu_lt (by omega))
