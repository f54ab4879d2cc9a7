/-- the reference holds a state of giving out; else it is as (F0, A0) has it, but for wants -/
def MD (h : HP) (F0 : Nat → Int32) (A0 : AT) (k : Nat) (D : DS) : Prop := ∃ (F : Nat → Int32) (A : AT), MM h F A ∧ F 25 = nI D.1 ∧ F 26 = nI D.2.1 ∧ F 11 = nI k ∧ A 2 = D.2.2.1 ∧ A 3 = D.2.2.2.1 ∧ A 4 = D.2.2.2.2 ∧ (∀ j, j ≠ 25 → j ≠ 26 → j ≠ 11 → F j = F0 j) ∧ ∀ j, j ≠ 2 → j ≠ 3 → j ≠ 4 → j ≠ 5 → A j = A0 j
theorem eq256 {a b : Nat} (ha : a < 256) (hb : b < 256) (h : ∀ j, j < 8 → a.testBit j = b.testBit j) : a = b := by
  apply Nat.eq_of_testBit_eq
  intro j
  by_cases hj : j < 8
  · exact h j hj
  · have h1 : 2 ^ 8 ≤ 2 ^ j := Nat.pow_le_pow_right (by omega) (by omega)
    rw [Nat.testBit_lt_two_pow (x := a) (i := j) (by omega), Nat.testBit_lt_two_pow (x := b) (i := j) (by omega)]
theorem del_adn {op c r : Nat} (ho : op < 256) (hc : c < 256) (hr : r < 8) : del (adn op c) r = adn op (ins c r) := by
  refine eq256 (del_lt (m_adn_lt ho)) (m_adn_lt ho) (fun j hj => ?_)
  rw [tb_del hr hj, tb_adn hc hj, tb_adn (m_ins_lt c hc r hr) hj, tb_ins, Bool.not_or, Bool.and_assoc]
theorem adn_0 {op : Nat} (ho : op < 256) : adn op 0 = op := by
  refine eq256 (m_adn_lt ho) ho (fun j hj => ?_)
  rw [tb_adn (by omega) hj, Nat.zero_testBit]; simp
section MOD3
variable {S : CS} {x : Nat} {F0 : Nat → Int32} {A0 : AT}
theorem l_drop (Y : VS S) (hx : x ≤ 1541) (R0 : RV (A0 0) x S) (hF2 : F0 2 = nI (cP S)) (k : Nat) {set : Nat} (hset : set < 256) : ∀ m i, i + m = cP S → ∀ n, m < n → ∀ (h : HP) (D : DS), MD h F0 A0 k D → D.1 < 256 → D.2.1 < 256 → (∀ q, i ≤ q → q < cP S → set.testBit q = D.1.testBit q) → ∃ h', F_X9_dropThoseWithout_7 n 142 (nI x) (nI set) (nI i) h = some h' ∧ MD h' F0 A0 k (fld (aimS S k) m i D) ∧ Fr h h' 142 12 := by
  have hP := Y.p6
  intro m
  induction m with
  | zero =>
    intro i hi n hn h D hM hD1 hD2 hs
    obtain ⟨n, rfl⟩ := sx hn
    refine ⟨h, ?_, hM, Fr.rfl⟩
    obtain ⟨F, A, M, f25, f26, f11, a2, a3, a4, hF, hA⟩ := hM
    show f_X9_dropThoseWithout_b7 _ _ _ _ _ _ = _
    unfold f_X9_dropThoseWithout_b7
    rw [M.g 2 rfl, bs, hF 2 (by omega) (by omega) (by omega), hF2, if_pos (nI_le (by omega) (by omega))]
  | succ m ih =>
    intro i hi n hn h D hM hD1 hD2 hs
    obtain ⟨n, rfl⟩ := sx hn
    have hip : i < cP S := by omega
    obtain ⟨F, A, M, f25, f26, f11, a2, a3, a4, hF, hA⟩ := id hM
    have e2 : F 2 = nI (cP S) := by rw [hF 2 (by omega) (by omega) (by omega), hF2]
    have R : RV (A 0) x S := by rw [hA 0 (by omega) (by omega) (by omega) (by omega)]; exact R0
    have goal : ∀ z, F_X9_dropThoseWithout_7 (n + 1) 142 (nI x) (nI set) (nI i) h = z ↔ f_X9_dropThoseWithout_b7 (F_X9_dropThoseWithout_7 n) 142 (nI x) (nI set) (nI i) h = z := fun z => Iff.rfl
    have hsi := hs i (Nat.le_refl _) hip
    by_cases hb : D.1.testBit i = true
    · obtain ⟨h1, A1, e1, M1, E1, X1⟩ := p_mostOf M R Y hx hip hD2
      cases hbest : bestC S i D.2.1 with
      | none =>
        obtain ⟨h2, p2, M2, X2⟩ := M1.p 25 (nI (del D.1 i)) rfl (by omega)
        obtain ⟨h3, p3, M3, X3⟩ := M2.ast 2 (by omega) (show i < 6 by omega) (-1)
        obtain ⟨h4, p4, M4, X4⟩ := M3.ast 3 (by omega) (show i < 6 by omega) (nI k)
        obtain ⟨h5, p5, M5, X5⟩ := M4.ast 4 (by omega) (show i < 6 by omega) (nI (1 <<< i))
        have hst : aimS S k D i = (del D.1 i, (finC D i none k (1 <<< i)).2) := if_pos ⟨hb, hbest⟩
        have Xh := (((X1.trans X2).trans X3).trans X4).trans X5
        have hM5 : MD h5 F0 A0 k (aimS S k D i) := by
          rw [hst]
          refine ⟨_, _, M5, us, by rw [un (by omega)]; exact f26, by rw [un (by omega)]; exact f11, ?_, ?_, ?_, fun j h1 h2 h3 => by rw [un h1]; exact hF j h1 h2 h3, fun j h1 h2 h3 h4 => ?_⟩
          · rw [setA_n _ _ (by omega), setA_n _ _ (by omega), setA_s, E1 2 (by omega), a2]; rfl
          · rw [setA_n _ _ (by omega), setA_s, setA_n _ _ (by omega), E1 3 (by omega), a3]; rfl
          · rw [setA_s, setA_n _ _ (by omega), setA_n _ _ (by omega), E1 4 (by omega), a4]; rfl
          · rw [setA_n _ _ h3, setA_n _ _ h2, setA_n _ _ h1, E1 j h4]; exact hA j h1 h2 h3 h4
        obtain ⟨h', e, M', X'⟩ := ih (i + 1) (by omega) n (by omega) h5 (aimS S k D i) hM5 (aimS_lt k i hD1) (by rw [aimS_op]; exact hD2) (fun q h1 h2 => by rw [aimS_ne k (by omega) (by omega) (by omega)]; exact hs q (by omega) h2)
        refine ⟨h', (goal _).mpr ?_, M', Xh.trans X'⟩
        unfold f_X9_dropThoseWithout_b7 f_X9_dropThoseWithout_b77
        rw [M.g 2 rfl, bs, e2, if_neg (nI_ge hip (by omega)), p_has hset (by omega), bs, if_neg (by rw [hsi, hb]; exact b1n), M.g 26 rfl, bs, f26, e1, bs, hbest, if_pos (by rfl), M1.g 25 rfl, bs, f25, m_del D.1 hD1 i (by omega), p2, bs, M2.r 8 rfl, bs]
        show (ast h2 (143 + 2) (nI i) (-1)).bind _ = _
        rw [p3, bs, M3.r 9 rfl, bs, M3.g 11 rfl, bs, un (by omega), f11]
        show (ast h3 (143 + 3) (nI i) (nI k)).bind _ = _
        rw [p4, bs, M4.r 10 rfl, bs, m_one i (by omega)]
        show (ast h4 (143 + 4) (nI i) (nI (1 <<< i))).bind _ = _
        rw [p5, bs, nI_1, e]
      | some r =>
        have hst : aimS S k D i = D := if_neg (fun z => by rw [hbest] at z; cases z.2)
        have hM1 : MD h1 F0 A0 k D := ⟨F, A1, M1, f25, f26, f11, by rw [E1 2 (by omega)]; exact a2, by rw [E1 3 (by omega)]; exact a3, by rw [E1 4 (by omega)]; exact a4, hF, fun j h1 h2 h3 h4 => by rw [E1 j h4]; exact hA j h1 h2 h3 h4⟩
        obtain ⟨h', e, M', X'⟩ := ih (i + 1) (by omega) n (by omega) h1 D hM1 hD1 hD2 (fun q h1 h2 => hs q (by omega) h2)
        refine ⟨h', (goal _).mpr ?_, by unfold fld; rw [hst]; exact M', X1.trans X'⟩
        have hr := (bestC_lt Y hip hbest).1
        unfold f_X9_dropThoseWithout_b7 f_X9_dropThoseWithout_b77
        rw [M.g 2 rfl, bs, e2, if_neg (nI_ge hip (by omega)), p_has hset (by omega), bs, if_neg (by rw [hsi, hb]; exact b1n), M.g 26 rfl, bs, f26, e1, bs, hbest, if_neg (show ¬ enc (some r) = -1 from nI_neg1 (by omega)), nI_1, e]
    · have hst : aimS S k D i = D := if_neg (fun z => hb z.1)
      obtain ⟨h', e, M', X'⟩ := ih (i + 1) (by omega) n (by omega) h D hM hD1 hD2 (fun q h1 h2 => hs q (by omega) h2)
      refine ⟨h', (goal _).mpr ?_, by unfold fld; rw [hst]; exact M', X'⟩
      unfold f_X9_dropThoseWithout_b7 f_X9_dropThoseWithout_b77
      rw [M.g 2 rfl, bs, e2, if_neg (nI_ge hip (by omega)), p_has hset (by omega), bs, if_pos (by rw [hsi, Bool.not_eq_true _ |>.mp hb]; rfl), nI_1, e]
theorem l_give (Y : VS S) (hx : x ≤ 1541) (R0 : RV (A0 0) x S) (hF2 : F0 2 = nI (cP S)) (k : Nat) {there op : Nat} (hth : there < 256) (hop : op < 256) (hbest : ∀ q, q < cP S → there.testBit q = true → bestC S q op ≠ none) : ∀ m i, i + m = cP S → ∀ n, m < n → ∀ (h : HP) (y : Nat × DS) (closed : Nat), MD h F0 A0 k (there, op, y.2.2.2) → y.1 < 256 → closed < 256 → y.2.2.1 = adn op closed → ∃ h', F_X9_giveRings_7 n 142 (nI x) (nI y.1) (nI closed) (nI i) h = some h' ∧ MD h' F0 A0 k (adn there (fld (closeS S k there op (cP S)) m i y).1, (fld (closeS S k there op (cP S)) m i y).2.2) ∧ Fr h h' 142 12 := by
  have hP := Y.p6
  intro m
  induction m with
  | zero =>
    intro i hi n hn h y closed hM hy1 hc hy3
    obtain ⟨n, rfl⟩ := sx hn
    obtain ⟨F, A, M, f25, f26, f11, a2, a3, a4, hF, hA⟩ := hM
    obtain ⟨h1, p1, M1, X1⟩ := M.p 25 (nI (adn there y.1)) rfl (by omega)
    obtain ⟨h2, p2, M2, X2⟩ := M1.p 26 (nI (adn op closed)) rfl (by omega)
    refine ⟨h2, ?_, ⟨_, _, M2, by rw [un (by omega)]; exact us, by rw [us]; show _ = nI y.2.2.1; rw [hy3], by rw [un (by omega), un (by omega)]; exact f11, a2, a3, a4, fun j h1 h2 h3 => by rw [un h2, un h1]; exact hF j h1 h2 h3, hA⟩, X1.trans X2⟩
    show f_X9_giveRings_b7 _ _ _ _ _ _ _ = _
    unfold f_X9_giveRings_b7
    have f25 : F 25 = nI there := f25
    have f26 : F 26 = nI op := f26
    rw [M.g 2 rfl, bs, hF 2 (by omega) (by omega) (by omega), hF2, if_pos (nI_le (by omega) (by omega)), M.g 25 rfl, bs, f25, m_adn hy1, p1, bs, M1.g 26 rfl, bs, un (by omega), f26, m_adn hc, p2, bs]
  | succ m ih =>
    intro i hi n hn h y closed hM hy1 hc hy3
    obtain ⟨n, rfl⟩ := sx hn
    have hip : i < cP S := by omega
    obtain ⟨F, A, M, f25, f26, f11, a2, a3, a4, hF, hA⟩ := id hM
    have f25 : F 25 = nI there := f25
    have f26 : F 26 = nI op := f26
    have e2 : F 2 = nI (cP S) := by rw [hF 2 (by omega) (by omega) (by omega), hF2]
    have R : RV (A 0) x S := by rw [hA 0 (by omega) (by omega) (by omega) (by omega)]; exact R0
    have hrl := ringP_lt Y (there := there) (op := op) (n := cP S) hip
    have join : ∃ h1 A1, F_X9_giveRings_7 (n + 1) 142 (nI x) (nI y.1) (nI closed) (nI i) h = f_X9_giveRings_b39 (F_X9_giveRings_7 n) 142 (nI x) (nI y.1) (nI closed) (nI i) (nI (ringP S there op (cP S) i)) h1 ∧ MM h1 F A1 ∧ AE A A1 ∧ Fr h h1 142 12 := by
      have pre : F_X9_giveRings_7 (n + 1) 142 (nI x) (nI y.1) (nI closed) (nI i) h = if bI (there.testBit i) = 0 then f_X9_giveRings_b39 (F_X9_giveRings_7 n) 142 (nI x) (nI y.1) (nI closed) (nI i) 0 h else (f_X9_ringFrom 142 (nI x) (nI i) h).bind fun q8 => f_X9_giveRings_b39 (F_X9_giveRings_7 n) 142 (nI x) (nI y.1) (nI closed) (nI i) q8.1 q8.2 := by
        show f_X9_giveRings_b7 _ _ _ _ _ _ _ = _
        unfold f_X9_giveRings_b7
        rw [M.g 2 rfl, bs, e2, if_neg (nI_ge hip (by omega)), M.g 25 rfl, bs, f25, p_has hth (by omega), bs]
      rw [pre]
      unfold ringP
      by_cases hb : there.testBit i = true
      · rw [if_neg (by rw [hb]; exact b1n), if_pos hb]
        obtain ⟨h1, A1, e1, M1, E1, X1⟩ := l_ringFromM (F := F) Y hx e2 hth hop f25 f26 hbest hip (cP S) 0 (by omega) FU (fu_lt (by omega)) 0 i h A M R (by omega) hip hb
        refine ⟨h1, A1, ?_, M1, E1, X1⟩
        unfold f_X9_ringFrom f_X9_ringFrom_e
        rw [M.chk]
        show (F_X9_ringFrom_8 FU 142 (nI x) (nI i) (nI 0) (nI i) (nI 0) h).bind _ = _
        rw [e1, bs]
      · rw [if_pos (by rw [Bool.not_eq_true _ |>.mp hb]; rfl), if_neg hb]
        exact ⟨h, A, rfl, M, AE.rfl, Fr.rfl⟩
    obtain ⟨h1, A1, e1, M1, E1, X1⟩ := join
    have R1 : RV (A1 0) x S := by rw [E1 0 (by omega)]; exact R
    rw [e1]
    unfold f_X9_giveRings_b39 f_X9_giveRings_b103
    by_cases hr : ringP S there op (cP S) i = 0
    · have hst : closeS S k there op (cP S) y i = y := if_pos hr
      have hM1 : MD h1 F0 A0 k (there, op, y.2.2.2) := ⟨F, A1, M1, f25, f26, f11, by rw [E1 2 (by omega)]; exact a2, by rw [E1 3 (by omega)]; exact a3, by rw [E1 4 (by omega)]; exact a4, hF, fun j h1 h2 h3 h4 => by rw [E1 j h4]; exact hA j h1 h2 h3 h4⟩
      obtain ⟨h', e, M', X'⟩ := ih (i + 1) (by omega) n (by omega) h1 y closed hM1 hy1 hc hy3
      refine ⟨h', ?_, by unfold fld; rw [hst]; exact M', X1.trans X'⟩
      rw [if_pos ((nI_0iff (by omega)).mpr hr), nI_1, e]
    · have hb : there.testBit i = true := by
        rcases Decidable.em (there.testBit i = true) with q | q
        · exact q
        · exact absurd (show ringP S there op (cP S) i = 0 from if_neg q) hr
      cases hbt : bestC S i op with
      | none => exact absurd hbt (hbest i hip hb)
      | some r =>
        have hr8 := (bestC_lt Y hip hbt).1
        obtain ⟨h2, A2, p2, M2, E2, X2⟩ := p_mostOf M1 R1 Y hx hip hop
        rw [hbt] at p2
        obtain ⟨h3, p3, M3, X3⟩ := M2.ast 2 (by omega) (show i < 6 by omega) (nI r)
        obtain ⟨h4, p4, M4, X4⟩ := M3.ast 3 (by omega) (show i < 6 by omega) (nI k)
        obtain ⟨h5, p5, M5, X5⟩ := M4.ast 4 (by omega) (show i < 6 by omega) (nI (ringP S there op (cP S) i))
        have hst : closeS S k there op (cP S) y i = (ins y.1 i, ((finC y.2 i (bestC S i op) k (ringP S there op (cP S) i)).1, delO y.2.2.1 (bestC S i op), (finC y.2 i (bestC S i op) k (ringP S there op (cP S) i)).2.2)) := if_neg hr
        have Xh := (((X1.trans X2).trans X3).trans X4).trans X5
        have hM5 : MD h5 F0 A0 k (there, op, (closeS S k there op (cP S) y i).2.2.2) := by
          rw [hst, hbt]
          refine ⟨_, _, M5, f25, f26, f11, ?_, ?_, ?_, hF, fun j h1 h2 h3 h4 => ?_⟩
          · rw [setA_n _ _ (by omega), setA_n _ _ (by omega), setA_s, E2 2 (by omega), E1 2 (by omega), a2]; rfl
          · rw [setA_n _ _ (by omega), setA_s, setA_n _ _ (by omega), E2 3 (by omega), E1 3 (by omega), a3]; rfl
          · rw [setA_s, setA_n _ _ (by omega), setA_n _ _ (by omega), E2 4 (by omega), E1 4 (by omega), a4]; rfl
          · rw [setA_n _ _ h3, setA_n _ _ h2, setA_n _ _ h1, E2 j h4, E1 j h4]; exact hA j h1 h2 h3 h4
        obtain ⟨h', e, M', X'⟩ := ih (i + 1) (by omega) n (by omega) h5 (closeS S k there op (cP S) y i) (ins closed r) hM5 (by rw [hst]; exact m_ins_lt _ hy1 i (by omega)) (m_ins_lt _ hc r hr8) (by
          rw [hst, hbt]
          show del y.2.2.1 r = _
          rw [hy3, del_adn hop hc hr8])
        refine ⟨h', ?_, M', Xh.trans X'⟩
        rw [if_neg (fun z => hr ((nI_0iff (by omega)).mp z)), M1.r 8 rfl, bs, M1.g 26 rfl, bs, f26, p2, bs]
        show (ast h2 (143 + 2) (nI i) (nI r)).bind _ = _
        rw [p3, bs, M3.r 9 rfl, bs, M3.g 11 rfl, bs, f11]
        show (ast h3 (143 + 3) (nI i) (nI k)).bind _ = _
        rw [p4, bs, M4.r 10 rfl, bs]
        show (ast h4 (143 + 4) (nI i) (nI (ringP S there op (cP S) i))).bind _ = _
        rw [p5, bs, M5.r 8 rfl, bs]
        show (ald h5 (143 + 2) (nI i)).bind _ = _
        rw [M5.ald 2 (by omega) (show i < 6 by omega), bs, setA_n _ _ (by omega), setA_n _ _ (by omega), setA_s, us, m_ins y.1 hy1 i (by omega), m_ins closed hc r hr8, nI_1]
        rw [hst] at e
        exact e
end MOD3
