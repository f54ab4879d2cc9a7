theorem tb_and_l {s t q : Nat} (h : (s &&& t).testBit q = true) : s.testBit q = true := by
  rw [Nat.testBit_and, Bool.and_eq_true] at h; exact h.1
theorem del_sub {s k q : Nat} (h : (del s k).testBit q = true) : s.testBit q = true := tb_and_l h
theorem adn_sub {s t q : Nat} (h : (adn s t).testBit q = true) : s.testBit q = true := tb_and_l h
theorem del_lt {s k : Nat} (h : s < 256) : del s k < 256 := Nat.lt_of_le_of_lt Nat.and_le_left h
section AIM
variable {S : CS}
theorem aimS_op (k : Nat) (D : DS) (p : Nat) : (aimS S k D p).2.1 = D.2.1 := by
  unfold aimS; split <;> rfl
theorem aimS_lt (k : Nat) {D : DS} (p : Nat) (h : D.1 < 256) : (aimS S k D p).1 < 256 := by
  unfold aimS
  split
  · exact del_lt h
  · exact h
theorem aimS_sub (k : Nat) {D : DS} {p q : Nat} (h : (aimS S k D p).1.testBit q = true) : D.1.testBit q = true := by
  unfold aimS at h
  split at h
  · exact del_sub h
  · exact h
theorem aimS_ne (k : Nat) {D : DS} {p q : Nat} (hp : p < 8) (hq : q < 8) (h : q ≠ p) : (aimS S k D p).1.testBit q = D.1.testBit q := by
  unfold aimS
  split
  · show (del D.1 p).testBit q = _
    rw [tb_del hp hq]; simp [h]
  · rfl
theorem aimF (k : Nat) : ∀ m i (D : DS), (fld (aimS S k) m i D).2.1 = D.2.1 ∧ (D.1 < 256 → (fld (aimS S k) m i D).1 < 256) ∧ ∀ q, (fld (aimS S k) m i D).1.testBit q = true → D.1.testBit q = true := by
  intro m
  induction m with
  | zero => intro i D; exact ⟨rfl, id, fun _ h => h⟩
  | succ m ih =>
    intro i D
    obtain ⟨h1, h2, h3⟩ := ih (i + 1) (aimS S k D i)
    exact ⟨h1.trans (aimS_op k D i), fun h => h2 (aimS_lt k i h), fun q h => aimS_sub k (h3 q h)⟩
/-- who is still there behind it would have an open room -/
theorem aimF_best (k : Nat) : ∀ m i (D : DS), i + m ≤ 8 → ∀ q, i ≤ q → q < i + m → (fld (aimS S k) m i D).1.testBit q = true → bestC S q D.2.1 ≠ none := by
  intro m
  induction m with
  | zero => intro i D _ q h1 h2; omega
  | succ m ih =>
    intro i D hi q h1 h2 hq
    by_cases hqi : q = i
    · subst hqi
      intro hb
      have h3 := (aimF k m (q + 1) (aimS S k D q)).2.2 q hq
      unfold aimS at h3
      by_cases ht : D.1.testBit q = true
      · rw [if_pos ⟨ht, hb⟩] at h3
        have h3 : (del D.1 q).testBit q = true := h3
        rw [tb_del (by omega) (by omega)] at h3
        simp at h3
      · rw [if_neg (fun z => ht z.1)] at h3
        exact ht h3
    · have := ih (i + 1) (aimS S k D i) (by omega) q (by omega) (by omega) hq
      rwa [aimS_op] at this
end AIM
section DEAL
variable {S : CS} {a d : Nat}
theorem l_aim (Y : VS S) (hda : d + 6 ≤ a ∨ a + 5 ≤ d) (k : Nat) : ∀ m i, i + m = cP S → ∀ n, m < n → ∀ (h : HP) (D : DS) (tgt onw : Nat → Int32), HV h a S → DV h d k D tgt onw → D.1 < 256 → D.2.1 < 256 → ∃ h' tgt', F_X1_aim_2 n d a (nI i) h = some h' ∧ DV h' d k (fld (aimS S k) m i D) tgt' onw ∧ Fr h h' d 6 ∧ (∀ q, q < i → tgt' q = tgt q) ∧ ∀ q, i ≤ q → q < cP S → D.1.testBit q = true → tgt' q = enc (bestC S q D.2.1) := by
  have hP := Y.p6
  intro m
  induction m with
  | zero =>
    intro i hi n hn h D tgt onw V A hD1 hD2
    obtain ⟨n, rfl⟩ := sx hn
    refine ⟨h, tgt, ?_, A, Fr.rfl, fun _ _ => rfl, fun q h1 h2 => by omega⟩
    show f_X1_aim_b2 _ _ _ _ _ = _
    unfold f_X1_aim_b2
    rw [V.pers, bs, if_pos (nI_le (by omega) (by omega))]
  | succ m ih =>
    intro i hi n hn h D tgt onw V A hD1 hD2
    obtain ⟨n, rfl⟩ := sx hn
    have hip : i < cP S := by omega
    have goal : ∀ x, F_X1_aim_2 (n + 1) d a (nI i) h = x ↔ f_X1_aim_b2 (F_X1_aim_2 n) d a (nI i) h = x := fun x => Iff.rfl
    by_cases hb : D.1.testBit i = true
    · obtain ⟨h1, e1, A1, F1⟩ := DR.ptgt A (k := i) (by omega) (enc (bestC S i D.2.1))
      cases hbest : bestC S i D.2.1 with
      | none =>
        rw [hbest] at e1 A1
        obtain ⟨h2, e2, A2, F2⟩ := p_finish A1 (p := i) (by omega) (-1) (nI (1 <<< i))
        obtain ⟨h3, e3, A3, F3⟩ := A2.p2 (nI (del D.1 i))
        have hst : aimS S k D i = (del D.1 i, (finC D i none k (1 <<< i)).2) := if_pos ⟨hb, hbest⟩
        have A3' : DV h3 d k (aimS S k D i) (upd tgt i (enc none)) onw := by rw [hst]; exact A3
        have Fh := (F1.trans F2).trans F3
        obtain ⟨h', tgt', e, A', F', t1, t2⟩ := ih (i + 1) (by omega) n (by omega) h3 (aimS S k D i) _ onw (V.fr Fh (by omega)) A3' (aimS_lt k i hD1) (by rw [aimS_op]; exact hD2)
        refine ⟨h', tgt', (goal _).mpr ?_, A', Fh.trans F', fun q hq => (t1 q (by omega)).trans (un (by omega)), fun q hq1 hq2 hq3 => ?_⟩
        · unfold f_X1_aim_b2 f_X1_aim_b68
          rw [V.pers, bs, if_neg (nI_ge hip (by omega)), DR.g2 A, bs, p_holds hD1 (by omega), bs, if_neg (by rw [hb]; exact b1n), DR.g1 A, bs, p_best V Y hip hD2, bs, DR.r6 A, bs, hbest]
          show (f_X8_put (d + 4) (nI i) (enc none) h).bind _ = _
          rw [e1, bs, if_pos (by rfl)]
          have hw : f_X8_with 0 (nI i) h1 = some (nI (1 <<< i), h1) := by
            have := p_with (s := 0) (k := i) (by omega) (by omega) h1
            rw [show ins 0 i = 1 <<< i from Nat.zero_or _] at this
            exact this
          rw [hw, bs, e2, bs, A2.g2, bs, p_without hD1 (by omega), bs, e3, bs, nI_1, e]
        · by_cases hqi : q = i
          · subst hqi
            rw [t1 q (by omega), us, hbest]
          · rw [t2 q (by omega) hq2 (by rw [aimS_ne k (by omega) (by omega) hqi]; exact hq3), aimS_op]
      | some r =>
        rw [hbest] at e1 A1
        have hst : aimS S k D i = D := if_neg (fun z => by rw [hbest] at z; cases z.2)
        obtain ⟨h', tgt', e, A', F', t1, t2⟩ := ih (i + 1) (by omega) n (by omega) h1 D _ onw (V.fr F1 (by omega)) A1 hD1 hD2
        refine ⟨h', tgt', (goal _).mpr ?_, by unfold fld; rw [hst]; exact A', F1.trans F', fun q hq => (t1 q (by omega)).trans (un (by omega)), fun q hq1 hq2 hq3 => ?_⟩
        · unfold f_X1_aim_b2 f_X1_aim_b68
          rw [V.pers, bs, if_neg (nI_ge hip (by omega)), DR.g2 A, bs, p_holds hD1 (by omega), bs, if_neg (by rw [hb]; exact b1n), DR.g1 A, bs, p_best V Y hip hD2, bs, DR.r6 A, bs, hbest]
          show (f_X8_put (d + 4) (nI i) (enc (some r)) h).bind _ = _
          have hr := (bestC_lt Y hip hbest).1
          rw [e1, bs, if_neg (show ¬ enc (some r) = -1 from nI_neg1 (by omega)), nI_1, e]
        · by_cases hqi : q = i
          · subst hqi
            rw [t1 q (by omega), us, hbest]
          · exact t2 q (by omega) hq2 hq3
    · have hst : aimS S k D i = D := if_neg (fun z => hb z.1)
      obtain ⟨h', tgt', e, A', F', t1, t2⟩ := ih (i + 1) (by omega) n (by omega) h D tgt onw V A hD1 hD2
      refine ⟨h', tgt', (goal _).mpr ?_, by unfold fld; rw [hst]; exact A', F', fun q hq => t1 q (by omega), fun q hq1 hq2 hq3 => ?_⟩
      · unfold f_X1_aim_b2 f_X1_aim_b68
        rw [V.pers, bs, if_neg (nI_ge hip (by omega)), DR.g2 A, bs, p_holds hD1 (by omega), bs, if_pos (by rw [Bool.not_eq_true _ |>.mp hb]; rfl), nI_1, e]
      · by_cases hqi : q = i
        · subst hqi; exact absurd hq3 hb
        · exact t2 q (by omega) hq2 hq3
theorem firstC_some (Y : VS S) {s q : Nat} (hq : q < cP S) (hs : s.testBit q = true) : ∃ z, firstC S s = some z ∧ z < cP S ∧ s.testBit z = true := by
  unfold firstC
  cases hf : (cO S).find? (fun q => s.testBit q) with
  | none =>
    rw [List.find?_eq_none] at hf
    exact absurd hs (hf q (ord_mem Y hq))
  | some z => exact ⟨z, rfl, Y.2.2.2.2.2.2.2 z (List.mem_of_find?_eq_some hf), by simpa using List.find?_some hf⟩
theorem nextC_some (Y : VS S) {there op q p : Nat} (hq : q < cP S) (hs : there.testBit q = true) : ∃ z, nextC S there op p = some z ∧ z < cP S ∧ there.testBit z = true := by
  obtain ⟨z, f1, f2, f3⟩ := firstC_some Y hq hs
  unfold nextC
  cases hsit : sitO S (bestC S p op) with
  | none => exact ⟨z, f1, f2, f3⟩
  | some y =>
    by_cases hb : there.testBit y = true
    · exact ⟨y, if_pos hb, sitO_lt hsit, hb⟩
    · exact ⟨z, (if_neg hb).trans f1, f2, f3⟩
theorem nxC_in (Y : VS S) {there op q : Nat} (hq : q < cP S) (hs : there.testBit q = true) : nextC S there op q = some (nxC S there op q) ∧ nxC S there op q < cP S ∧ there.testBit (nxC S there op q) = true := by
  obtain ⟨z, h1, h2, h3⟩ := nextC_some Y (op := op) (p := q) hq hs
  unfold nxC
  rw [h1]
  exact ⟨rfl, h2, h3⟩
theorem l_follow (Y : VS S) (hda : d + 6 ≤ a ∨ a + 5 ≤ d) (k : Nat) {D : DS} (hD1 : D.1 < 256) {tgt : Nat → Int32} (ht : ∀ q, q < cP S → D.1.testBit q = true → tgt q = enc (bestC S q D.2.1)) : ∀ m i, i + m = cP S → ∀ n, m < n → ∀ (h : HP) (onw : Nat → Int32), HV h a S → DV h d k D tgt onw → ∃ h' onw', F_X1_follow_11 n d a (enc (firstC S D.1)) (nI i) h = some h' ∧ DV h' d k D tgt onw' ∧ Fr h h' d 6 ∧ (∀ q, q < i → onw' q = onw q) ∧ ∀ q, i ≤ q → q < cP S → D.1.testBit q = true → onw' q = enc (nextC S D.1 D.2.1 q) := by
  have hP := Y.p6
  intro m
  induction m with
  | zero =>
    intro i hi n hn h onw V A
    obtain ⟨n, rfl⟩ := sx hn
    refine ⟨h, onw, ?_, A, Fr.rfl, fun _ _ => rfl, fun q h1 h2 => by omega⟩
    show f_X1_follow_b11 _ _ _ _ _ _ = _
    unfold f_X1_follow_b11
    rw [V.pers, bs, if_pos (nI_le (by omega) (by omega))]
  | succ m ih =>
    intro i hi n hn h onw V A
    obtain ⟨n, rfl⟩ := sx hn
    have hip : i < cP S := by omega
    have goal : ∀ x, F_X1_follow_11 (n + 1) d a (enc (firstC S D.1)) (nI i) h = x ↔ f_X1_follow_b11 (F_X1_follow_11 n) d a (enc (firstC S D.1)) (nI i) h = x := fun x => Iff.rfl
    by_cases hb : D.1.testBit i = true
    · obtain ⟨h1, e1, A1, F1⟩ := DR.ponw A (k := i) (by omega) (enc (nextC S D.1 D.2.1 i))
      obtain ⟨h', onw', e, A', F', t1, t2⟩ := ih (i + 1) (by omega) n (by omega) h1 _ (V.fr F1 (by omega)) A1
      refine ⟨h', onw', (goal _).mpr ?_, A', F1.trans F', fun q hq => (t1 q (by omega)).trans (un (by omega)), fun q hq1 hq2 hq3 => ?_⟩
      · unfold f_X1_follow_b11 f_X1_follow_b67 f_X1_follow_b70
        have hsl : ∀ z, sitO S (bestC S i D.2.1) = some z → z < 8 := fun z hz => by have := sitO_lt hz; omega
        rw [V.pers, bs, if_neg (nI_ge hip (by omega)), DR.g2 A, bs, p_holds hD1 (by omega), bs, if_neg (by rw [hb]; exact b1n), DR.r6 A, bs, ia_at A.2.2.2.2.1 (by omega) (by omega), bs, ht i hip hb, p_sitterO V Y (fun r hr => (bestC_lt Y hip hr).1), bs, DR.r7 A, bs, DR.g2 A, bs, p_holdsO hD1 hsl, bs]
        unfold nextC at e1
        cases hsit : sitO S (bestC S i D.2.1) with
        | none =>
          rw [hsit] at e1
          rw [if_pos (by rfl)]
          show (f_X8_put (d + 5) (nI i) (enc (firstC S D.1)) h).bind _ = _
          rw [e1, bs, nI_1, e]
        | some y =>
          rw [hsit] at e1
          by_cases hy : D.1.testBit y = true
          · have e1 : f_X8_put (d + 5) (nI i) (enc (if D.1.testBit y = true then some y else firstC S D.1)) h = some h1 := e1
            rw [if_pos hy] at e1
            rw [if_neg (by show ¬ bI (D.1.testBit y) = 0; rw [hy]; exact b1n)]
            show (f_X8_put (d + 5) (nI i) (enc (some y)) h).bind _ = _
            rw [e1, bs, nI_1, e]
          · have e1 : f_X8_put (d + 5) (nI i) (enc (if D.1.testBit y = true then some y else firstC S D.1)) h = some h1 := e1
            rw [if_neg hy] at e1
            rw [if_pos (by show bI (D.1.testBit y) = 0; rw [Bool.not_eq_true _ |>.mp hy]; rfl)]
            show (f_X8_put (d + 5) (nI i) (enc (firstC S D.1)) h).bind _ = _
            rw [e1, bs, nI_1, e]
      · by_cases hqi : q = i
        · subst hqi
          rw [t1 q (by omega), us]
        · exact t2 q (by omega) hq2 hq3
    · obtain ⟨h', onw', e, A', F', t1, t2⟩ := ih (i + 1) (by omega) n (by omega) h onw V A
      refine ⟨h', onw', (goal _).mpr ?_, A', F', fun q hq => t1 q (by omega), fun q hq1 hq2 hq3 => ?_⟩
      · unfold f_X1_follow_b11 f_X1_follow_b70
        rw [V.pers, bs, if_neg (nI_ge hip (by omega)), DR.g2 A, bs, p_holds hD1 (by omega), bs, if_pos (by rw [Bool.not_eq_true _ |>.mp hb]; rfl), nI_1, e]
      · by_cases hqi : q = i
        · subst hqi; exact absurd hq3 hb
        · exact t2 q (by omega) hq2 hq3
end DEAL
