theorem in_iff {x : Int32} {n : Nat} (hn : n < 2 ^ 30) : (¬ x < 0 ∧ ¬ nI n - 1 < x) ↔ ∃ p, p < n ∧ x = nI p := by
  constructor
  · intro ⟨h1, h2⟩
    obtain ⟨j, hj, rfl⟩ := nI_of h1
    refine ⟨j, ?_, rfl⟩
    have h3 : ¬ ((nI n - nI 1).toInt < (nI j).toInt) := fun q => h2 (Int32.lt_iff_toInt_lt.mpr q)
    rw [pk_sub_toInt hn (by omega), nI_toInt hj] at h3
    omega
  · rintro ⟨p, hp, rfl⟩
    refine ⟨nI_pos (by omega), fun q => ?_⟩
    have h3 : (nI n - nI 1).toInt < (nI p).toInt := Int32.lt_iff_toInt_lt.mp q
    rw [pk_sub_toInt hn (by omega), nI_toInt (by omega)] at h3
    omega
theorem bool_ext {a b : Bool} {P : Prop} (ha : a = true ↔ P) (hb : b = true ↔ P) : a = b := by
  cases a <;> cases b <;> simp_all
section AP
variable {h : HP} {F : Nat → Int32} {A : AT} {S : CS}
theorem p_isPerson (M : MM h F A) (Y : VS S) (f2 : F 2 = nI (cP S)) (x : Int32) : ∃ t : Bool, f_X9_isPerson 142 x h = some (bI t, h) ∧ (t = true ↔ ∃ p, p < cP S ∧ x = nI p) := by
  have := Y.p6
  refine ⟨decide (¬ x < 0 ∧ ¬ nI (cP S) - 1 < x), ?_, by rw [decide_eq_true_iff]; exact in_iff (by omega)⟩
  unfold f_X9_isPerson f_X9_isPerson_e
  rw [M.chk, M.g 2 rfl, bs, f2, p_in, bs]
  show (if bI _ = 0 ∨ bI _ = 1 then _ else none) = _
  generalize decide (¬ x < 0 ∧ ¬ nI (cP S) - 1 < x) = t
  cases t <;> rfl
theorem p_isRoom (M : MM h F A) (Y : VS S) (f1 : F 1 = nI (cN S)) (x : Int32) : ∃ t : Bool, f_X9_isRoom 142 x h = some (bI t, h) ∧ (t = true ↔ ∃ p, p < cN S ∧ x = nI p) := by
  have := Y.n8
  refine ⟨decide (¬ x < 0 ∧ ¬ nI (cN S) - 1 < x), ?_, by rw [decide_eq_true_iff]; exact in_iff (by omega)⟩
  unfold f_X9_isRoom f_X9_isRoom_e
  rw [M.chk, M.g 1 rfl, bs, f1, p_in, bs]
  show (if bI _ = 0 ∨ bI _ = 1 then _ else none) = _
  generalize decide (¬ x < 0 ∧ ¬ nI (cN S) - 1 < x) = t
  cases t <;> rfl
theorem p_isRoomOrNone (M : MM h F A) (Y : VS S) (f1 : F 1 = nI (cN S)) (x : Int32) : ∃ t : Bool, f_X9_isRoomOrNone 142 x h = some (bI t, h) ∧ (t = true ↔ x = -1 ∨ ∃ p, p < cN S ∧ x = nI p) := by
  unfold f_X9_isRoomOrNone f_X9_isRoomOrNone_e
  rw [M.chk]
  by_cases hx : x = -1
  · rw [if_pos hx]
    exact ⟨true, rfl, by simp [hx]⟩
  · obtain ⟨t, e, ht⟩ := p_isRoom M Y f1 x
    rw [if_neg hx, e, bs]
    cases t with
    | true => exact ⟨true, rfl, by simp only [true_iff]; exact Or.inr (ht.mp rfl)⟩
    | false => exact ⟨false, rfl, by simp only [Bool.false_eq_true, false_iff, not_or]; exact ⟨hx, fun q => by have := ht.mpr q; cases this⟩⟩
/-- persons and rooms are known alike -/
theorem both_person (M : MM h F A) (I : INV h F A S) (x : Int32) : ∃ t : Bool, f_X3_hasPerson 3 x h = some (bI t, h) ∧ (∀ h' F' A', MM h' F' A' → F' 2 = nI (cP S) → f_X9_isPerson 142 x h' = some (bI t, h')) ∧ (t = true ↔ ∃ p, p < cP S ∧ x = nI p) := by
  obtain ⟨t, e, ht⟩ := p_hasPerson I.2.2.1 I.2.1 x
  refine ⟨t, e, fun h' F' A' M' f2 => ?_, ht⟩
  obtain ⟨t', e', ht'⟩ := p_isPerson M' I.2.1 f2 x
  rw [e', bool_ext ht' ht]
theorem both_room (M : MM h F A) (I : INV h F A S) (x : Int32) : ∃ t : Bool, f_X3_hasRoom 3 x h = some (bI t, h) ∧ (∀ h' F' A', MM h' F' A' → F' 1 = nI (cN S) → f_X9_isRoom 142 x h' = some (bI t, h')) ∧ (t = true ↔ ∃ p, p < cN S ∧ x = nI p) := by
  obtain ⟨t, e, ht⟩ := p_hasRoom I.2.2.1 I.2.1 x
  refine ⟨t, e, fun h' F' A' M' f1 => ?_, ht⟩
  obtain ⟨t', e', ht'⟩ := p_isRoom M' I.2.1 f1 x
  rw [e', bool_ext ht' ht]
theorem both_roomN (M : MM h F A) (I : INV h F A S) (x : Int32) : ∃ t : Bool, f_X3_hasRoomOrNone 3 x h = some (bI t, h) ∧ (∀ h' F' A', MM h' F' A' → F' 1 = nI (cN S) → f_X9_isRoomOrNone 142 x h' = some (bI t, h')) ∧ (t = true ↔ x = -1 ∨ ∃ p, p < cN S ∧ x = nI p) := by
  obtain ⟨t, e, ht⟩ := p_hasRoomOrNone I.2.2.1 I.2.1 x
  refine ⟨t, e, fun h' F' A' M' f1 => ?_, ht⟩
  obtain ⟨t', e', ht'⟩ := p_isRoomOrNone M' I.2.1 f1 x
  rw [e', bool_ext ht' ht]
end AP
theorem s_fault : SK0 f_X8_fault f_X9_fault Inv := by
  intro h hI
  obtain ⟨F, A, S, M, I⟩ := id hI
  obtain ⟨L, fa, b, c, d, lt, t1, t2, t3, t4, t5, t6⟩ := I.2.2.2.2.2.2.2.2.2.1
  refine ⟨fa, h, h, ?_, ?_, hI⟩
  · unfold f_X8_fault f_X8_fault_e
    rw [I.1.chk, I.1.r 0 rfl, bs, t2.g 1 rfl, bs]
  · unfold f_X9_fault f_X9_fault_e
    rw [M.chk, M.g 7 rfl, bs, t5]
theorem q_loop : ∀ n x q l i (h h' : HP), (∃ r, F_X8_quiet_30 n x q l i h = some (r, h) ∧ F_X9_quiet_30 n x q l i h' = some (r, h')) ∨ (F_X8_quiet_30 n x q l i h = none) := by
  intro n
  induction n with
  | zero => intro x q l i h h'; exact Or.inr rfl
  | succ n ih =>
    intro x q l i h h'
    show (∃ r, f_X8_quiet_b30 _ _ _ _ _ _ = some (r, h) ∧ f_X9_quiet_b30 _ _ _ _ _ _ = some (r, h')) ∨ f_X8_quiet_b30 _ _ _ _ _ _ = none
    unfold f_X8_quiet_b30 f_X9_quiet_b30
    by_cases hc : x ≤ i
    · rw [if_pos hc, if_pos hc]; exact Or.inl ⟨_, rfl, rfl⟩
    · rw [if_neg hc, if_neg hc]; exact ih _ _ _ _ _ _
theorem q_end : ∀ m i k, i + m = k → k < 2 ^ 31 → ∀ n, m < n → ∀ q l (h : HP), F_X8_quiet_30 n (nI k) q l (nI i) h ≠ none := by
  intro m
  induction m with
  | zero =>
    intro i k hk hk2 n hn q l h
    obtain ⟨n, rfl⟩ := sx hn
    show f_X8_quiet_b30 _ _ _ _ _ _ ≠ none
    unfold f_X8_quiet_b30
    rw [if_pos (nI_le (by omega) (by omega))]
    simp
  | succ m ih =>
    intro i k hk hk2 n hn q l h
    obtain ⟨n, rfl⟩ := sx hn
    show f_X8_quiet_b30 _ _ _ _ _ _ ≠ none
    unfold f_X8_quiet_b30
    rw [if_neg (nI_ge (by omega) (by omega)), nI_1]
    exact ih (i + 1) k (by omega) hk2 n (by omega) _ _ h
theorem s_quiet : SK2 f_X8_quiet f_X9_quiet Inv := by
  intro h x y hI
  obtain ⟨F, A, S, M, I⟩ := id hI
  have e8 : f_X8_quiet 0 x y h = f_X8_quiet_e 0 x y h := by unfold f_X8_quiet; rw [I.1.chk]
  have e9 : f_X9_quiet 142 x y h = f_X9_quiet_e 142 x y h := by unfold f_X9_quiet; rw [M.chk]
  have out : f_X8_quiet 0 x y h = some (-1000000002, h) → f_X9_quiet 142 x y h = some (-1000000002, h) → ∃ r h1 h2, f_X8_quiet 0 x y h = some (r, h1) ∧ f_X9_quiet 142 x y h1 = some (r, h2) ∧ Inv h2 := fun z1 z2 => ⟨_, h, h, z1, z2, hI⟩
  unfold f_X8_quiet_e f_X8_quiet_b20 at e8
  unfold f_X9_quiet_e f_X9_quiet_b20 at e9
  rw [p_in, bs] at e9
  by_cases h1 : x < 0
  · refine out (by rw [e8, if_pos h1]) ?_
    rw [e9]; simp [h1, bI]
  · by_cases h2 : 60 < x
    · refine out (by rw [e8, if_neg h1, if_pos h2]) ?_
      rw [e9]; simp [h1, h2, bI]
    · rw [if_neg h1, if_neg h2] at e8
      have e9 : f_X9_quiet 142 x y h = (f_X9_in y 0 100 h).bind fun q2 => if q2.1 = 0 then some (-1000000002, q2.2) else F_X9_quiet_30 FU x y 1000000000 0 q2.2 := by
        rw [e9]; simp [h1, h2, bI]
      rw [p_in, bs] at e9
      by_cases h3 : y < 0
      · refine out (by rw [e8, if_pos h3]) ?_
        rw [e9]; simp [h3, bI]
      · rw [if_neg h3] at e8
        by_cases h4 : y ≤ 100
        · have h4' : ¬ (100 : Int32) < y := Int32.not_lt.mpr h4
          rw [if_pos h4] at e8
          have e9 : f_X9_quiet 142 x y h = F_X9_quiet_30 FU x y 1000000000 0 h := by
            rw [e9]; simp [h3, h4', bI]
          obtain ⟨k, hk, hkx⟩ := nI_of2 (M := 60) (n := 60) (by decide) h1 (Int32.not_lt.mp h2)
          rcases q_loop FU x y 1000000000 0 h h with ⟨r, z1, z2⟩ | z
          · exact ⟨r, h, h, by rw [e8]; exact z1, by rw [e9]; exact z2, hI⟩
          · exact absurd z (by rw [hkx]; exact q_end k 0 k (by omega) (by omega) FU (fu_lt (by omega)) _ _ h)
        · have h4' : (100 : Int32) < y := Int32.not_le.mp h4
          refine out (by rw [e8, if_neg h4]) ?_
          rw [e9]; simp [h3, h4', bI]
theorem s_likes : SK2 f_X8_likes f_X9_likes Inv := by
  intro h x y hI
  obtain ⟨F, A, S, M, I⟩ := id hI
  have Y := I.2.1
  have hP := Y.p6
  obtain ⟨t, e1, e2, ht⟩ := both_person M I x
  have e2 := e2 h F A M I.2.2.2.2.1
  cases t with
  | false =>
    refine ⟨-1000000001, h, h, ?_, ?_, hI⟩
    · unfold f_X8_likes f_X8_likes_e
      rw [I.1.chk, I.1.r 1 rfl, bs, e1, bs, if_pos (by rfl)]
    · unfold f_X9_likes f_X9_likes_e
      rw [M.chk, e2, bs, if_pos (by rfl)]
  | true =>
    obtain ⟨p, hp, rfl⟩ := ht.mp rfl
    have hl := Y.len hp
    refine ⟨enc (if y < 0 then none else (cL S p)[y.toNatClampNeg]?), h, h, ?_, ?_, hI⟩
    · unfold f_X8_likes f_X8_likes_e
      rw [I.1.chk, I.1.r 1 rfl, bs, e1, bs, if_neg b1n, I.1.r 1 rfl, bs, p_liking I.2.2.1 Y hp, bs]
    · have R := I.2.2.2.2.2.1
      have hw := R.2.1 p hp
      rw [Nat.zero_add] at hw
      unfold f_X9_likes f_X9_likes_e
      rw [M.chk, e2, bs, if_neg b1n]
      show (gR h 142 9 0).bind _ = _
      rw [M.r 0 rfl, bs]
      show (ald h (143 + 0) (nI 48 + nI p)).bind _ = _
      rw [nI_add, M.ald 0 (by omega) (show 48 + p < 1608 by omega), bs, hw, p_in, bs]
      by_cases hy : ¬ y < 0 ∧ ¬ nI (cL S p).length - 1 < y
      · obtain ⟨j, hj, rfl⟩ := (in_iff (by omega)).mp hy
        rw [if_neg (by show ¬ bI (decide _) = 0; rw [decide_eq_true hy]; exact b1n)]
        show (gR h 142 9 0).bind _ = _
        have hr : (cL S p)[j]? = some ((cL S p)[j]) := List.getElem?_eq_getElem hj
        have hv := R.2.2.1 p hp j _ hr
        rw [M.r 0 rfl, bs]
        show (ald h (143 + 0) (8 * nI p + nI j)).bind _ = _
        rw [show (8 : Int32) * nI p + nI j = nI (0 + 8 * p + j) by rw [show (8 : Int32) = nI 8 from rfl, pk_mul, nI_add, Nat.zero_add], M.ald 0 (by omega) (show 0 + 8 * p + j < 1608 by omega), bs, hv, if_neg hy.1, nI_clamp (by omega), hr]
        rfl
      · rw [if_pos (by show bI (decide _) = 0; rw [decide_eq_false hy]; rfl)]
        by_cases h0 : y < 0
        · rw [if_pos h0]; rfl
        · rw [if_neg h0]
          obtain ⟨j, hj, rfl⟩ := nI_of h0
          have : ¬ j < (cL S p).length := fun z => hy ((in_iff (by omega)).mpr ⟨j, z, rfl⟩)
          rw [nI_clamp hj, List.getElem?_eq_none (by omega)]
          rfl
