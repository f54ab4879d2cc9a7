/-! whom to ask next -/
def cntK (S : CS) (s r : Nat) (m i c : Nat) : Nat := fld (fun c p => if s.testBit p = true ∧ gC S p = nI r then c + 1 else c) m i c
section ASK
variable {h : HP} {F : Nat → Int32} {A : AT} {S : CS}
theorem cntK_0 {s r : Nat} : ∀ m i c, (∀ p, i ≤ p → p < i + m → gC S p ≠ nI r) → cntK S s r m i c = c := by
  intro m
  induction m with
  | zero => intro i c _; rfl
  | succ m ih =>
    intro i c hn
    show cntK S s r m (i + 1) (if s.testBit i = true ∧ gC S i = nI r then c + 1 else c) = c
    rw [if_neg (fun z => hn i (by omega) (by omega) z.2)]
    exact ih (i + 1) c (fun p h1 h2 => hn p (by omega) (by omega))
theorem cntK_eq (Y : VS S) {s r : Nat} (hr : r < 8) : ∀ m i c, i + m ≤ cP S → cntK S s r m i c = c + (if hasO s (fnd (fun p => decide (gC S p = nI r)) m i) then 1 else 0) := by
  intro m
  induction m with
  | zero => intro i c _; rfl
  | succ m ih =>
    intro i c hi
    show cntK S s r m (i + 1) (if s.testBit i = true ∧ gC S i = nI r then c + 1 else c) = _
    by_cases hg : gC S i = nI r
    · have hf : fnd (fun p => decide (gC S p = nI r)) (m + 1) i = some i := by unfold fnd; rw [if_pos (by simpa using hg)]
      rw [hf, cntK_0 m (i + 1) _ (fun p h1 h2 he => by
        have := gC_inj Y (p := i) (q := p) (by omega) (by omega) (by omega) (hg.trans he.symm)
        rw [hg] at this
        exact nI_neg1 (by omega) this)]
      unfold hasO
      cases hb : s.testBit i with
      | true => simp [hg, hb]
      | false => simp [hb]
    · have hf : fnd (fun p => decide (gC S p = nI r)) (m + 1) i = fnd (fun p => decide (gC S p = nI r)) m (i + 1) := by
        show (if decide (gC S i = nI r) = true then some i else fnd (fun p => decide (gC S p = nI r)) m (i + 1)) = _
        rw [if_neg (by simpa using hg)]
      rw [hf, if_neg (fun z => hg z.2)]
      exact ih (i + 1) c (by omega)
def part (all g : Int32) : Int32 := if g < all - g then all - g else g
theorem part_eq (all g : Int32) : (if g ≤ all - g then all - g else g) = part all g := by
  unfold part
  by_cases h1 : g < all - g
  · rw [if_pos h1, if_pos (Int32.le_of_lt h1)]
  · rw [if_neg h1]
    by_cases h2 : g ≤ all - g
    · rw [if_pos h2]
      exact Int32.le_antisymm (Int32.not_lt.mp h1) h2
    · rw [if_neg h2]
def askS (S : CS) (s : Nat) (all : Int32) (x : Int32 × Int32) (r : Nat) : Int32 × Int32 :=
  if x.2 ≤ part all (bI (hasO s (whoC S (nI r)))) then x else (nI r, part all (bI (hasO s (whoC S (nI r)))))
theorem l_askC (c0 : C0 h) (D : DVo h S) (V : HV h 3 S) (Y : VS S) {s : Nat} (hs : s < 256) (all : Int32) : ∀ m i, i + m = cN S → ∀ n, m < n → ∀ x : Int32 × Int32, F_X8_ask_32 n 0 (nI s) all x.1 x.2 (nI i) h = some ((fld (askS S s all) m i x).1, h) := by
  have hP := Y.p6
  have hN := Y.n8
  intro m
  induction m with
  | zero =>
    intro i hi n hn x
    obtain ⟨n, rfl⟩ := sx hn
    show f_X8_ask_b32 _ _ _ _ _ _ _ _ = _
    unfold f_X8_ask_b32
    rw [c0.r 1 rfl, bs, V.rooms, bs, if_pos (nI_le (by omega) (by omega))]; rfl
  | succ m ih =>
    intro i hi n hn x
    obtain ⟨n, rfl⟩ := sx hn
    have e := ih (i + 1) (by omega) n (by omega) (askS S s all x i)
    rw [show fld (askS S s all) (m + 1) i x = fld (askS S s all) m (i + 1) (askS S s all x i) from rfl, ← e]
    show f_X8_ask_b32 _ _ _ _ _ _ _ _ = _
    unfold f_X8_ask_b32
    rw [c0.r 1 rfl, bs, V.rooms, bs, if_neg (nI_ge (by omega) (by omega)), c0.r 3 rfl, bs, bs, p_winner D V Y, bs]
    show (f_X8_holds (nI s) (enc (whoC S (nI i))) h).bind _ = _
    rw [p_holdsO hs (fun k hk => by have := (whoC_lt hk).1; omega), bs]
    have jn : ∀ b : Bool, f_X8_ask_b69 (F_X8_ask_32 n) 0 (nI s) all x.1 x.2 (nI i) (bI b) h = if x.2 ≤ part all (bI b) then F_X8_ask_32 n 0 (nI s) all x.1 x.2 (nI (i + 1)) h else F_X8_ask_32 n 0 (nI s) all (nI i) (part all (bI b)) (nI (i + 1)) h := fun b => by
      unfold f_X8_ask_b69 f_X8_ask_b96
      rw [nI_1]; rfl
    unfold askS
    cases hb : hasO s (whoC S (nI i)) with
    | true =>
      rw [if_neg b1n]
      show f_X8_ask_b69 (F_X8_ask_32 n) 0 (nI s) all x.1 x.2 (nI i) (bI true) h = _
      rw [jn]
      split <;> rfl
    | false =>
      rw [if_pos (by rfl)]
      show f_X8_ask_b69 (F_X8_ask_32 n) 0 (nI s) all x.1 x.2 (nI i) (bI false) h = _
      rw [jn]
      split <;> rfl
theorem l_askI (M : MM h F A) (Y : VS S) (f2 : F 2 = nI (cP S)) (g : ∀ p, p < cP S → A 2 p = gC S p) {s : Nat} (hs : s < 256) (K : Nat → Int32 → Int32 → Int32 → Int32 → HP → Option (Int32 × HP)) (b l : Int32) {r : Nat} (hr : r < 8) : ∀ m i, i + m = cP S → ∀ n, m < n → ∀ c, F_X9_ask_30 K n 142 (nI s) b l (nI r) (nI c) (nI i) h = K 142 (nI s) (if l ≤ part (nI (popN s)) (nI (cntK S s r m i c)) then b else nI r) (if l ≤ part (nI (popN s)) (nI (cntK S s r m i c)) then l else part (nI (popN s)) (nI (cntK S s r m i c))) (nI (r + 1)) h := by
  have hP := Y.p6
  intro m
  induction m with
  | zero =>
    intro i hi n hn c
    obtain ⟨n, rfl⟩ := sx hn
    show f_X9_ask_b30 _ _ _ _ _ _ _ _ _ _ = K 142 (nI s) (if l ≤ part (nI (popN s)) (nI c) then b else nI r) (if l ≤ part (nI (popN s)) (nI c) then l else part (nI (popN s)) (nI c)) (nI (r + 1)) h
    have tail : ∀ v, v = part (nI (popN s)) (nI c) → f_X9_ask_b100 K 142 (nI s) b l (nI r) v h = K 142 (nI s) (if l ≤ part (nI (popN s)) (nI c) then b else nI r) (if l ≤ part (nI (popN s)) (nI c) then l else part (nI (popN s)) (nI c)) (nI (r + 1)) h := fun v hv => by
      rw [hv]
      unfold f_X9_ask_b100 f_X9_ask_b114 f_X9_ask_b127
      rw [nI_1]
      by_cases hl : l ≤ part (nI (popN s)) (nI c)
      · rw [if_pos hl, if_pos hl, if_pos hl, if_pos hl]
      · rw [if_neg hl, if_neg hl, if_neg hl, if_neg hl]
    unfold f_X9_ask_b30
    rw [M.g 2 rfl, bs, f2, if_pos (nI_le (by omega) (by omega)), p_bits hs, bs]
    have pe := part_eq (nI (popN s)) (nI c)
    by_cases hc : nI c ≤ nI (popN s) - nI c
    · rw [if_pos hc] at pe
      rw [if_pos hc]
      show (f_X9_bits (nI s) h).bind _ = _
      rw [p_bits hs, bs]
      exact tail _ pe
    · rw [if_neg hc] at pe
      rw [if_neg hc]
      exact tail _ pe
  | succ m ih =>
    intro i hi n hn c
    obtain ⟨n, rfl⟩ := sx hn
    have e := ih (i + 1) (by omega) n (by omega) (if s.testBit i = true ∧ gC S i = nI r then c + 1 else c)
    rw [show cntK S s r (m + 1) i c = cntK S s r m (i + 1) (if s.testBit i = true ∧ gC S i = nI r then c + 1 else c) from rfl, ← e]
    show f_X9_ask_b30 _ _ _ _ _ _ _ _ _ _ = _
    unfold f_X9_ask_b30 f_X9_ask_b66 f_X9_ask_b67
    rw [M.g 2 rfl, bs, f2, if_neg (nI_ge (by omega) (by omega)), p_has hs (by omega), bs, nI_1, nI_1]
    cases hb : s.testBit i with
    | false =>
      rw [if_pos (by rfl), if_neg (by simp)]
      show F_X9_ask_30 K n 142 (nI s) b l (nI r) (nI c + nI 0) (nI (i + 1)) h = _
      rw [nI_add]; rfl
    | true =>
      rw [if_neg b1n]
      show (gR h 142 9 8).bind _ = _
      rw [M.r 8 rfl, bs]
      show (ald h (143 + 2) (nI i)).bind _ = _
      rw [M.ald 2 (by omega) (show i < 6 by omega), bs, g i (by omega)]
      by_cases hg : gC S i = nI r
      · rw [if_pos hg, if_pos ⟨rfl, hg⟩]
      · rw [if_neg hg, if_neg (fun z => hg z.2)]
        show F_X9_ask_30 K n 142 (nI s) b l (nI r) (nI c + nI 0) (nI (i + 1)) h = _
        rw [nI_add]; rfl
theorem l_askM (M : MM h F A) (Y : VS S) (f1 : F 1 = nI (cN S)) (f2 : F 2 = nI (cP S)) (g : ∀ p, p < cP S → A 2 p = gC S p) {s : Nat} (hs : s < 256) : ∀ m i, i + m = cN S → ∀ n, m < n → ∀ x : Int32 × Int32, F_X9_ask_15 n 142 (nI s) x.1 x.2 (nI i) h = some ((fld (askS S s (nI (popN s))) m i x).1, h) := by
  have hP := Y.p6
  have hN := Y.n8
  intro m
  induction m with
  | zero =>
    intro i hi n hn x
    obtain ⟨n, rfl⟩ := sx hn
    show f_X9_ask_b15 _ _ _ _ _ _ _ = _
    unfold f_X9_ask_b15
    rw [M.g 1 rfl, bs, f1, if_pos (nI_le (by omega) (by omega))]; rfl
  | succ m ih =>
    intro i hi n hn x
    obtain ⟨n, rfl⟩ := sx hn
    have e := ih (i + 1) (by omega) n (by omega) (askS S s (nI (popN s)) x i)
    rw [show fld (askS S s (nI (popN s))) (m + 1) i x = fld (askS S s (nI (popN s))) m (i + 1) (askS S s (nI (popN s)) x i) from rfl, ← e]
    show f_X9_ask_b15 _ _ _ _ _ _ _ = _
    unfold f_X9_ask_b15
    rw [M.g 1 rfl, bs, f1, if_neg (nI_ge (by omega) (by omega))]
    show F_X9_ask_30 (F_X9_ask_15 n) FU 142 (nI s) x.1 x.2 (nI i) (nI 0) (nI 0) h = _
    rw [l_askI M Y f2 g hs _ x.1 x.2 (show i < 8 by omega) (cP S) 0 (by omega) FU (fu_lt (by omega)) 0, cntK_eq Y (by omega) (cP S) 0 0 (by omega)]
    have hw : nI (0 + if hasO s (fnd (fun p => decide (gC S p = nI i)) (cP S) 0) then 1 else 0) = bI (hasO s (whoC S (nI i))) := by
      unfold whoC
      cases hasO s (fnd (fun p => decide (gC S p = nI i)) (cP S) 0) <;> rfl
    rw [hw]
    unfold askS
    by_cases hl : x.2 ≤ part (nI (popN s)) (bI (hasO s (whoC S (nI i))))
    · rw [if_pos hl, if_pos hl, if_pos hl]
    · rw [if_neg hl, if_neg hl, if_neg hl]
end ASK
theorem s_ask : SK0 f_X8_ask f_X9_ask Inv := by
  intro h hI
  obtain ⟨F, A, S, M, I⟩ := id hI
  have Y := I.2.1
  have hN := Y.n8
  obtain ⟨s, k1, k2, q, e, F', A', hs, e8, D1, X1, ef, e9, M', fs, hg, I1, hI2, -⟩ := both_could M I
  have M1 := M.fr X1 (by omega)
  refine ⟨(fld (askS S s (nI (popN s))) (cN S) 0 (-1, nI (popN s))).1, k1, k2, ?_, ?_, hI2⟩
  · unfold f_X8_ask f_X8_ask_e
    rw [I.1.chk, I.1.r 6 rfl, bs, e8, bs]
    show (gR k1 0 8 1).bind _ = _
    rw [I1.1.r 1 rfl, bs]
    show (gI k1 3 3 1).bind _ = _
    rw [I1.2.2.1.pers, bs]
    show (f_X5_fitting 123 13 (nI (cP S)) k1).bind _ = _
    rw [ef, bs]
    show (f_J6_bitCount_0f7a4 (nI s) k1).bind _ = _
    rw [p_bc hs, bs]
    exact l_askC I1.1 D1 I1.2.2.1 Y hs (nI (popN s)) (cN S) 0 (by omega) FU (fu_lt (by omega)) (-1, nI (popN s))
  · unfold f_X9_ask f_X9_ask_e
    rw [M1.chk, e9, bs]
    show (f_X9_bits (nI s) k2).bind _ = _
    rw [p_bits hs, bs]
    exact l_askM M' Y (fs.1.trans I.2.2.2.1) (fs.2.1.trans I.2.2.2.2.1) hg hs (cN S) 0 (by omega) FU (fu_lt (by omega)) (-1, nI (popN s))
