/-! bits counted; sets told -/
def popN (s : Nat) : Nat := fld (fun n k => n + (s >>> k) % 2) 8 0 0
theorem m_bit : ∀ s, s < 256 → ∀ k, k < 8 → (nI s >>> (nI k &&& 31)) &&& 1 = nI ((s >>> k) % 2) := by decide +kernel
theorem m_bc9 : ∀ s, s < 256 → (f_J6_bitCount_0f7a4 (nI s) []).map (fun q => q.1) = some (nI (popN s)) := by decide +kernel
theorem p_bc {s : Nat} (hs : s < 256) (h : HP) : f_J6_bitCount_0f7a4 (nI s) h = some (nI (popN s), h) := by
  have e : f_J6_bitCount_0f7a4 (nI s) h = ((f_J6_bitCount_0f7a4 (nI s) []).map (fun q => q.1)).map (fun v => (v, h)) := rfl
  rw [e, m_bc9 s hs]; rfl
theorem l_bits {s : Nat} (hs : s < 256) (h : HP) : ∀ m i, i + m = 8 → ∀ n, m < n → ∀ c, F_X9_bits_4 n (nI s) (nI c) (nI i) h = some (nI (fld (fun n k => n + (s >>> k) % 2) m i c), h) := by
  intro m
  induction m with
  | zero =>
    intro i hi n hn c
    obtain ⟨n, rfl⟩ := sx hn
    show f_X9_bits_b4 _ _ _ _ _ = _
    unfold f_X9_bits_b4
    rw [if_pos (show (8 : Int32) ≤ nI i from nI_le (a := 8) (by omega) (by omega))]; rfl
  | succ m ih =>
    intro i hi n hn c
    obtain ⟨n, rfl⟩ := sx hn
    show f_X9_bits_b4 _ _ _ _ _ = _
    unfold f_X9_bits_b4
    rw [if_neg (show ¬ (8 : Int32) ≤ nI i from nI_ge (b := 8) (by omega) (by omega)), m_bit s hs i (by omega), nI_add, nI_1]
    exact ih (i + 1) (by omega) n (by omega) _
theorem p_bits {s : Nat} (hs : s < 256) (h : HP) : f_X9_bits (nI s) h = some (nI (popN s), h) := l_bits hs h 8 0 (by omega) FU (fu_lt (by omega)) 0
def gath (f : Nat → Bool) (m i t : Nat) : Nat := fld (fun t r => if f r then ins t r else t) m i t
theorem tb_gath {f : Nat → Bool} : ∀ m i t j, (gath f m i t).testBit j = (t.testBit j || (decide (i ≤ j ∧ j < i + m) && f j)) := by
  intro m
  induction m with
  | zero =>
    intro i t j
    show t.testBit j = _
    rw [show decide (i ≤ j ∧ j < i + 0) = false from decide_eq_false (by omega)]; simp
  | succ m ih =>
    intro i t j
    show (gath f m (i + 1) (if f i then ins t i else t)).testBit j = _
    rw [ih]
    by_cases hj : j = i
    · subst hj
      rw [show decide (j + 1 ≤ j ∧ j < j + 1 + m) = false from decide_eq_false (by omega), show decide (j ≤ j ∧ j < j + (m + 1)) = true from decide_eq_true (by omega)]
      cases hf : f j with
      | true => simp [tb_ins]
      | false => simp
    · have h1 : (if f i then ins t i else t).testBit j = t.testBit j := by
        cases hf : f i with
        | true => simp [tb_ins, hj]
        | false => simp
      rw [h1]
      by_cases hd : i ≤ j ∧ j < i + (m + 1)
      · rw [decide_eq_true hd, show decide (i + 1 ≤ j ∧ j < i + 1 + m) = true from decide_eq_true (by omega)]
      · rw [decide_eq_false hd, show decide (i + 1 ≤ j ∧ j < i + 1 + m) = false from decide_eq_false (by omega)]
theorem gath_lt {f : Nat → Bool} : ∀ m i t, i + m ≤ 8 → t < 256 → gath f m i t < 256 := by
  intro m
  induction m with
  | zero => intro i t _ ht; exact ht
  | succ m ih =>
    intro i t hi ht
    refine ih (i + 1) _ (by omega) ?_
    show (if f i then ins t i else t) < 256
    split
    · exact m_ins_lt t ht i (by omega)
    · exact ht
section SETS
variable {h : HP} {F : Nat → Int32} {A : AT} {S : CS} {a : Nat}
theorem tb_seats (Y : VS S) {set : Nat} : ∀ m i t r, i + m ≤ cP S → ((fld (fun t p => if set.testBit p then insO t (cS S p) else t) m i t).testBit r = true ↔ t.testBit r = true ∨ ∃ p, i ≤ p ∧ p < i + m ∧ set.testBit p = true ∧ cS S p = some r) := by
  intro m
  induction m with
  | zero =>
    intro i t r _
    exact ⟨fun h => Or.inl h, fun h => by
      rcases h with h | ⟨p, h1, h2, -⟩
      · exact h
      · omega⟩
  | succ m ih =>
    intro i t r hi
    have key : (if set.testBit i then insO t (cS S i) else t).testBit r = true ↔ t.testBit r = true ∨ (set.testBit i = true ∧ cS S i = some r) := by
      cases hb : set.testBit i with
      | false => simp
      | true =>
        cases hc : cS S i with
        | none => simp [insO]
        | some y =>
          simp only [if_true, insO, tb_ins, Option.some.injEq, true_and]
          by_cases hy : r = y
          · simp [hy]
          · have : ¬ y = r := fun z => hy z.symm
            simp [hy, this]
    show (fld _ m (i + 1) (if set.testBit i then insO t (cS S i) else t)).testBit r = true ↔ _
    rw [ih (i + 1) _ r (by omega), key]
    constructor
    · rintro ((h | ⟨h1, h2⟩) | ⟨p, h1, h2, h3, h4⟩)
      · exact Or.inl h
      · exact Or.inr ⟨i, by omega, by omega, h1, h2⟩
      · exact Or.inr ⟨p, by omega, by omega, h3, h4⟩
    · rintro (h | ⟨p, h1, h2, h3, h4⟩)
      · exact Or.inl (Or.inl h)
      · by_cases hp : p = i
        · subst hp; exact Or.inl (Or.inr ⟨h3, h4⟩)
        · exact Or.inr ⟨p, by omega, by omega, h3, h4⟩
theorem sitC_none {r : Nat} : sitC S r = none ↔ ∀ p, p < cP S → cS S p ≠ some r := by
  constructor
  · intro hn p hp he
    have := fnd_none hn p (by omega) (by omega)
    rw [he] at this
    simp at this
  · intro hall
    cases hs : sitC S r with
    | none => rfl
    | some p =>
      obtain ⟨h1, h2⟩ := sitC_lt hs
      exact absurd h2 (hall p h1)
theorem empty_eq (Y : VS S) : emptyC S = gath (fun r => decide (sitC S r = none)) (cN S) 0 0 := by
  have hP := Y.p6
  have hN := Y.n8
  unfold emptyC
  refine eq256 (m_adn_lt (m_full_lt _ (by omega))) (gath_lt _ _ _ (by omega) (by omega)) (fun j hj => ?_)
  rw [tb_adn (seatsC_lt Y) hj, tb_full, tb_gath]
  simp only [Nat.zero_testBit, Bool.false_or, Nat.zero_le, true_and, Nat.zero_add]
  by_cases hjn : j < cN S
  · simp only [hjn, decide_true, Bool.true_and]
    refine bool_ext (P := sitC S j = none) ?_ (by simp)
    rw [sitC_none]
    have ht := tb_seats Y (set := 2 ^ cP S - 1) (cP S) 0 0 j (by omega)
    constructor
    · intro hb p hp he
      have : (seatsC S (2 ^ cP S - 1)).testBit j = true := ht.mpr (Or.inr ⟨p, by omega, by omega, by rw [tb_full]; simpa using hp, he⟩)
      rw [this] at hb; cases hb
    · intro hall
      cases hb : (seatsC S (2 ^ cP S - 1)).testBit j with
      | false => rfl
      | true =>
        rcases ht.mp hb with z | ⟨p, h1, h2, h3, h4⟩
        · simp at z
        · exact absurd h4 (hall p (by omega))
  · simp [hjn]
theorem l_roomsLeft0 (M : MM h F A) (R : RV (A 0) 0 S) (Y : VS S) (f1 : F 1 = nI (cN S)) (f2 : F 2 = nI (cP S)) : ∀ m i, i + m = cN S → ∀ n, m < n → ∀ t, t < 256 → F_X9_roomsLeft_4 n 142 0 (nI t) (nI i) h = some (nI (gath (fun r => decide (sitC S r = none)) m i t), h) := by
  have hP := Y.p6
  have hN := Y.n8
  intro m
  induction m with
  | zero =>
    intro i hi n hn t ht
    obtain ⟨n, rfl⟩ := sx hn
    show f_X9_roomsLeft_b4 _ _ _ _ _ _ = _
    unfold f_X9_roomsLeft_b4
    rw [M.g 1 rfl, bs, f1, if_pos (nI_le (by omega) (by omega))]; rfl
  | succ m ih =>
    intro i hi n hn t ht
    obtain ⟨n, rfl⟩ := sx hn
    show f_X9_roomsLeft_b4 _ _ _ _ _ _ = some (nI (gath _ m (i + 1) (if decide (sitC S i = none) then ins t i else t)), h)
    unfold f_X9_roomsLeft_b4 f_X9_roomsLeft_b52 f_X9_roomsLeft_b67
    rw [M.g 1 rfl, bs, f1, if_neg (nI_ge (by omega) (by omega)), if_pos rfl, M.g 2 rfl, bs, f2]
    show (f_X9_sitterIn 142 (nI 0) (nI (cP S)) (nI i) h).bind _ = _
    rw [p_sitterIn M R Y (by omega) (by omega), bs, nI_1, m_ins t ht i (by omega), or0]
    cases hs : sitC S i with
    | none =>
      rw [if_pos (by rfl), if_pos (by rfl)]
      exact ih (i + 1) (by omega) n (by omega) _ (m_ins_lt t ht i (by omega))
    | some p =>
      have := (sitC_lt hs).1
      rw [if_neg (show ¬ enc (some p) = -1 from nI_neg1 (by omega)), if_neg (by decide)]
      exact ih (i + 1) (by omega) n (by omega) t ht
theorem p_roomsLeft0 (M : MM h F A) (R : RV (A 0) 0 S) (Y : VS S) (f1 : F 1 = nI (cN S)) (f2 : F 2 = nI (cP S)) : f_X9_roomsLeft 142 0 h = some (nI (emptyC S), h) := by
  have hN := Y.n8
  unfold f_X9_roomsLeft f_X9_roomsLeft_e
  rw [M.chk, empty_eq Y]
  exact l_roomsLeft0 M R Y f1 f2 (cN S) 0 (by omega) FU (fu_lt (by omega)) 0 (by omega)
theorem whoC_none {x : Int32} : whoC S x = none ↔ ∀ p, p < cP S → gC S p ≠ x := by
  constructor
  · intro hn p hp he
    have := fnd_none hn p (by omega) (by omega)
    simp [he] at this
  · intro hall
    cases hs : whoC S x with
    | none => rfl
    | some p =>
      obtain ⟨h1, h2, h3⟩ := fnd_lt hs
      exact absurd (by simpa using h3) (hall p (by omega))
theorem whoC_lt {x : Int32} {p : Nat} (hw : whoC S x = some p) : p < cP S ∧ gC S p = x := by
  obtain ⟨h1, h2, h3⟩ := fnd_lt hw
  exact ⟨by omega, by simpa using h3⟩
theorem l_roomsLeft1 (M : MM h F A) (Y : VS S) (f1 : F 1 = nI (cN S)) (f2 : F 2 = nI (cP S)) (g : ∀ p, p < cP S → A 2 p = gC S p) : ∀ m i, i + m = cN S → ∀ n, m < n → ∀ t, t < 256 → F_X9_roomsLeft_4 n 142 1 (nI t) (nI i) h = some (nI (gath (fun r => decide (whoC S (nI r) = none)) m i t), h) := by
  have hP := Y.p6
  have hN := Y.n8
  intro m
  induction m with
  | zero =>
    intro i hi n hn t ht
    obtain ⟨n, rfl⟩ := sx hn
    show f_X9_roomsLeft_b4 _ _ _ _ _ _ = _
    unfold f_X9_roomsLeft_b4
    rw [M.g 1 rfl, bs, f1, if_pos (nI_le (by omega) (by omega))]; rfl
  | succ m ih =>
    intro i hi n hn t ht
    obtain ⟨n, rfl⟩ := sx hn
    show f_X9_roomsLeft_b4 _ _ _ _ _ _ = some (nI (gath _ m (i + 1) (if decide (whoC S (nI i) = none) then ins t i else t)), h)
    unfold f_X9_roomsLeft_b4 f_X9_roomsLeft_b52 f_X9_roomsLeft_b67
    rw [M.g 1 rfl, bs, f1, if_neg (nI_ge (by omega) (by omega)), if_neg (by decide), p_whoGets M Y f2 g, bs, nI_1, m_ins t ht i (by omega), or0]
    cases hs : whoC S (nI i) with
    | none =>
      rw [if_pos (by rfl), if_pos (by rfl)]
      exact ih (i + 1) (by omega) n (by omega) _ (m_ins_lt t ht i (by omega))
    | some p =>
      have := (whoC_lt hs).1
      rw [if_neg (show ¬ enc (some p) = -1 from nI_neg1 (by omega)), if_neg (by decide)]
      exact ih (i + 1) (by omega) n (by omega) t ht
theorem open_close (Y : VS S) (k there op n : Nat) : ∀ m i (x : Nat × DS), i + m ≤ cP S → x.2.2.1 < 256 → (fld (closeS S k there op n) m i x).2.2.1 < 256 := by
  intro m
  induction m with
  | zero => intro i x _ hx; exact hx
  | succ m ih =>
    intro i x hi hx
    refine ih (i + 1) _ (by omega) ?_
    unfold closeS
    split
    · exact hx
    · exact delO_lt hx (fun k hk => (bestC_lt Y (by omega) hk).1)
theorem open_round (Y : VS S) (k : Nat) {D : DS} (hD : D.2.1 < 256) : (roundC S (cP S) k D).2.1 < 256 := by
  obtain ⟨f1, -, -⟩ := aimF (S := S) k (cP S) 0 D
  unfold roundC
  dsimp only
  generalize fld (aimS S k) (cP S) 0 D = E at f1 ⊢
  exact open_close Y k E.1 E.2.1 (cP S) (cP S) 0 (0, E) (by omega) (by show E.2.1 < 256; rw [f1]; exact hD)
theorem open_deal (Y : VS S) : ∀ m k D, D.2.1 < 256 → (dealN S (cP S) m k D).2.2.1 < 256 := by
  intro m
  induction m with
  | zero => intro k D g; exact g
  | succ m ih =>
    intro k D g
    unfold dealN
    by_cases h0 : D.1 = 0
    · rw [if_pos h0]; exact g
    · rw [if_neg h0]; exact ih (k + 1) _ (open_round Y k g)
theorem open_lt (Y : VS S) : (outC S).2.2.1 < 256 := open_deal Y 6 0 _ (m_full_lt _ (by have := Y.n8; omega))
theorem open_eq (Y : VS S) : (outC S).2.2.1 = gath (fun r => decide (whoC S (nI r) = none)) (cN S) 0 0 := by
  have hN := Y.n8
  refine eq256 (open_lt Y) (gath_lt _ _ _ (by omega) (by omega)) (fun j hj => ?_)
  rw [tb_gath]
  simp only [Nat.zero_testBit, Bool.false_or, Nat.zero_le, true_and, Nat.zero_add]
  refine bool_ext (P := j < cN S ∧ ∀ p, p < cP S → gC S p ≠ nI j) (open_iff Y hj) ?_
  simp only [Bool.and_eq_true, decide_eq_true_eq]
  rw [whoC_none]
theorem p_roomsLeft1 (M : MM h F A) (Y : VS S) (f1 : F 1 = nI (cN S)) (f2 : F 2 = nI (cP S)) (g : ∀ p, p < cP S → A 2 p = gC S p) : f_X9_roomsLeft 142 1 h = some (nI (outC S).2.2.1, h) := by
  have hN := Y.n8
  unfold f_X9_roomsLeft f_X9_roomsLeft_e
  rw [M.chk, open_eq Y]
  exact l_roomsLeft1 M Y f1 f2 g (cN S) 0 (by omega) FU (fu_lt (by omega)) 0 (by omega)
theorem l_emptyHanded (D : DVo h S) (V : HV h a S) (Y : VS S) : ∀ m i, i + m = cP S → ∀ n, m < n → ∀ t, t < 256 → F_X1_emptyHanded_4 n 13 a (nI t) (nI i) h = some (nI (gath (fun p => decide (gC S p = -1)) m i t), h) := by
  have hP := Y.p6
  obtain ⟨th, g, r, z, tg, on, DD, A2⟩ := D
  intro m
  induction m with
  | zero =>
    intro i hi n hn t ht
    obtain ⟨n, rfl⟩ := sx hn
    show f_X1_emptyHanded_b4 _ _ _ _ _ _ = _
    unfold f_X1_emptyHanded_b4
    rw [V.pers, bs, if_pos (nI_le (by omega) (by omega))]; rfl
  | succ m ih =>
    intro i hi n hn t ht
    obtain ⟨n, rfl⟩ := sx hn
    have e3 : gR h 13 1 3 = some 14 := by
      have ho := DD.1
      unfold DO at ho
      unfold gR; rw [ho]; rfl
    show f_X1_emptyHanded_b4 _ _ _ _ _ _ = some (nI (gath _ m (i + 1) (if decide (gC S i = -1) then ins t i else t)), h)
    unfold f_X1_emptyHanded_b4 f_X1_emptyHanded_b30
    rw [V.pers, bs, if_neg (nI_ge (by omega) (by omega)), e3, bs, ia_at DD.2.1 (by omega) (by omega), bs, (A2 i (by omega)).1]
    by_cases hg : gC S i = -1
    · rw [if_pos hg, if_pos (by simpa using hg)]
      show (f_X8_with (nI t) (nI i) h).bind _ = _
      rw [p_with ht (by omega), bs, nI_1]
      exact ih (i + 1) (by omega) n (by omega) _ (m_ins_lt t ht i (by omega))
    · rw [if_neg hg, if_neg (by simpa using hg), nI_1]
      exact ih (i + 1) (by omega) n (by omega) t ht
theorem l_without (M : MM h F A) (Y : VS S) (f2 : F 2 = nI (cP S)) (g : ∀ p, p < cP S → A 2 p = gC S p) : ∀ m i, i + m = cP S → ∀ n, m < n → ∀ t, t < 256 → F_X9_without_4 n 142 (nI t) (nI i) h = some (nI (gath (fun p => decide (gC S p = -1)) m i t), h) := by
  have hP := Y.p6
  intro m
  induction m with
  | zero =>
    intro i hi n hn t ht
    obtain ⟨n, rfl⟩ := sx hn
    show f_X9_without_b4 _ _ _ _ _ = _
    unfold f_X9_without_b4
    rw [M.g 2 rfl, bs, f2, if_pos (nI_le (by omega) (by omega))]; rfl
  | succ m ih =>
    intro i hi n hn t ht
    obtain ⟨n, rfl⟩ := sx hn
    show f_X9_without_b4 _ _ _ _ _ = some (nI (gath _ m (i + 1) (if decide (gC S i = -1) then ins t i else t)), h)
    unfold f_X9_without_b4 f_X9_without_b30
    rw [M.g 2 rfl, bs, f2, if_neg (nI_ge (by omega) (by omega)), M.r 8 rfl, bs]
    show (ald h (143 + 2) (nI i)).bind _ = _
    rw [M.ald 2 (by omega) (show i < 6 by omega), bs, g i (by omega), nI_1, m_ins t ht i (by omega), or0]
    by_cases hg : gC S i = -1
    · rw [if_pos hg, if_pos (by simpa using hg)]
      exact ih (i + 1) (by omega) n (by omega) _ (m_ins_lt t ht i (by omega))
    · rw [if_neg hg, if_neg (by simpa using hg)]
      exact ih (i + 1) (by omega) n (by omega) t ht
end SETS
