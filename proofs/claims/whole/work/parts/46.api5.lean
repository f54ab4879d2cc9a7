/-! who could be -/
def fitC (g : Int32) (sr sg : Nat → Int32) : Nat → Nat → Bool
  | 0, _ => true
  | m + 1, i => if decide (sr i = g) = decide (sg i = 1) then fitC g sr sg m (i + 1) else false
def couldC (S : CS) (sr sg : Nat → Int32) (q : Nat) : Nat := fld (fun t p => if fitC (gC S p) sr sg q 0 then ins t p else t) (cP S) 0 0
theorem couldC_lt {S : CS} (Y : VS S) (sr sg : Nat → Int32) (q : Nat) : ∀ m i t, i + m = cP S → t < 256 → fld (fun t p => if fitC (gC S p) sr sg q 0 then ins t p else t) m i t < 256 := by
  have hP := Y.p6
  intro m
  induction m with
  | zero => intro i t _ ht; exact ht
  | succ m ih =>
    intro i t hi ht
    unfold fld
    refine ih (i + 1) _ (by omega) ?_
    split
    · exact m_ins_lt t ht i (by omega)
    · exact ht
theorem b2i {c d : Bool} : ((if c then (1 : Int32) else 0) = if d then (1 : Int32) else 0) ↔ c = d := by cases c <;> cases d <;> decide
section CB
variable {h : HP} {S : CS} {q e : Nat} {sr sg : Nat → Int32}
theorem l_fits (o : OB h 123 5 [.inl (nI q), .inl (nI e), .inr (some 124), .inr (some 125), .inr (some 126), .inr (some 127)]) (hq : q ≤ 6) (a4 : IA h 124 6 sr) (a5 : IA h 125 6 sg) (g : Int32) : ∀ m i, i + m = q → ∀ n, m < n → F_X5_fits_2 n 123 g (nI i) h = some (bI (fitC g sr sg m i), h) := by
  intro m
  induction m with
  | zero =>
    intro i hi n hn
    obtain ⟨n, rfl⟩ := sx hn
    show f_X5_fits_b2 _ _ _ _ _ = _
    unfold f_X5_fits_b2
    rw [o.g 0 rfl, bs, if_pos (nI_le (by omega) (by omega))]; rfl
  | succ m ih =>
    intro i hi n hn
    obtain ⟨n, rfl⟩ := sx hn
    have e := ih (i + 1) (by omega) n (by omega)
    show f_X5_fits_b2 _ _ _ _ _ = _
    unfold f_X5_fits_b2 f_X5_fits_b27 f_X5_fits_b46 fitC
    rw [o.g 0 rfl, bs, if_neg (nI_ge (show i < q by omega) (by omega)), o.r 2 rfl, bs, ia_at a4 (by omega) (by omega), bs]
    show (if sr i = g then (gR h 123 5 3).bind _ else (gR h 123 5 3).bind _) = _
    rw [o.r 3 rfl, bs, bs, ia_at a5 (by omega) (by omega), bs, bs]
    by_cases h1 : sr i = g
    · by_cases h2 : sg i = 1
      · simp only [h1, h2, if_true, decide_true]
        rw [nI_1]; exact e
      · simp only [h1, h2, if_true, if_false, decide_true, decide_false]
        rfl
    · by_cases h2 : sg i = 1
      · simp only [h1, h2, if_true, if_false, decide_true, decide_false]
        rfl
      · simp only [h1, h2, if_false, decide_false, if_true]
        rw [nI_1]; exact e
theorem p_fits (o : OB h 123 5 [.inl (nI q), .inl (nI e), .inr (some 124), .inr (some 125), .inr (some 126), .inr (some 127)]) (hq : q ≤ 6) (a4 : IA h 124 6 sr) (a5 : IA h 125 6 sg) (g : Int32) : f_X5_fits 123 g h = some (bI (fitC g sr sg q 0), h) := by
  unfold f_X5_fits f_X5_fits_e
  rw [o.chk]
  exact l_fits o hq a4 a5 g q 0 (by omega) FU (fu_lt (by omega))
theorem l_fitting (D : DVo h S) (Y : VS S) (o : OB h 123 5 [.inl (nI q), .inl (nI e), .inr (some 124), .inr (some 125), .inr (some 126), .inr (some 127)]) (hq : q ≤ 6) (a4 : IA h 124 6 sr) (a5 : IA h 125 6 sg) : ∀ m i, i + m = cP S → ∀ n, m < n → ∀ t, t < 256 → F_X5_fitting_5 n 123 13 (nI (cP S)) (nI t) (nI i) h = some (nI (fld (fun t p => if fitC (gC S p) sr sg q 0 then ins t p else t) m i t), h) := by
  have hP := Y.p6
  intro m
  induction m with
  | zero =>
    intro i hi n hn t ht
    obtain ⟨n, rfl⟩ := sx hn
    show f_X5_fitting_b5 _ _ _ _ _ _ _ = _
    unfold f_X5_fitting_b5
    rw [if_pos (nI_le (by omega) (by omega))]; rfl
  | succ m ih =>
    intro i hi n hn t ht
    obtain ⟨n, rfl⟩ := sx hn
    have hip : i < cP S := by omega
    show f_X5_fitting_b5 _ _ _ _ _ _ _ = _
    unfold f_X5_fitting_b5 f_X5_fitting_b31 fld
    rw [if_neg (nI_ge hip (by omega)), p_roomOf D Y hip, bs, p_fits o hq a4 a5, bs]
    cases hf : fitC (gC S i) sr sg q 0 with
    | true =>
      rw [if_neg b1n]
      show (f_X8_with (nI t) (nI i) h).bind _ = _
      rw [p_with ht (by omega), bs, nI_1]
      exact ih (i + 1) (by omega) n (by omega) _ (m_ins_lt t ht i (by omega))
    | false =>
      rw [if_pos (by rfl), nI_1]
      exact ih (i + 1) (by omega) n (by omega) t ht
theorem p_fitting (D : DVo h S) (Y : VS S) (o : OB h 123 5 [.inl (nI q), .inl (nI e), .inr (some 124), .inr (some 125), .inr (some 126), .inr (some 127)]) (hq : q ≤ 6) (a4 : IA h 124 6 sr) (a5 : IA h 125 6 sg) : f_X5_fitting 123 13 (nI (cP S)) h = some (nI (couldC S sr sg q), h) := by
  have hP := Y.p6
  unfold f_X5_fitting f_X5_fitting_e
  rw [o.chk]
  exact l_fitting D Y o hq a4 a5 (cP S) 0 (by omega) FU (fu_lt (by omega)) 0 (by omega)
variable {F : Nat → Int32} {A : AT}
theorem or0 (s : Nat) : nI s ||| 0 = nI s := by
  apply Int32.toBitVec_inj.mp
  show BitVec.ofNat 32 s ||| 0#32 = BitVec.ofNat 32 s
  simp
theorem l_could0 (M : MM h F A) (f15 : F 15 = nI q) (hq : q ≤ 6) (K : Nat → Int32 → Int32 → HP → Option (Int32 × HP)) (p : Int32) (s : Nat) : ∀ m i, i + m = q → ∀ n, m < n → F_X9_couldBe_22 K n 142 (nI s) p 0 (nI i) h = K 142 (nI s) (p + 1) h := by
  intro m
  induction m with
  | zero =>
    intro i hi n hn
    obtain ⟨n, rfl⟩ := sx hn
    show f_X9_couldBe_b22 _ _ _ _ _ _ _ _ = _
    unfold f_X9_couldBe_b22 f_X9_couldBe_b99
    rw [M.g 15 rfl, bs, f15, if_pos (nI_le (by omega) (by omega)), if_pos rfl, or0]
  | succ m ih =>
    intro i hi n hn
    obtain ⟨n, rfl⟩ := sx hn
    show f_X9_couldBe_b22 _ _ _ _ _ _ _ _ = _
    unfold f_X9_couldBe_b22 f_X9_couldBe_b79 f_X9_couldBe_b80
    rw [M.g 15 rfl, bs, f15, if_neg (nI_ge (show i < q by omega) (by omega)), if_pos rfl, nI_1]
    exact ih (i + 1) (by omega) n (by omega)
theorem l_could1 (M : MM h F A) (f15 : F 15 = nI q) (hq : q ≤ 6) (hs : ∀ i, i < q → sr i = A 6 i ∧ sg i = A 7 i) (K : Nat → Int32 → Int32 → HP → Option (Int32 × HP)) {p : Nat} (hp : p < 6) {g : Int32} (hg : A 2 p = g) {s : Nat} (hs2 : s < 256) : ∀ m i, i + m = q → ∀ n, m < n → F_X9_couldBe_22 K n 142 (nI s) (nI p) 1 (nI i) h = K 142 (nI (if fitC g sr sg m i then ins s p else s)) (nI p + 1) h := by
  intro m
  induction m with
  | zero =>
    intro i hi n hn
    obtain ⟨n, rfl⟩ := sx hn
    show f_X9_couldBe_b22 _ _ _ _ _ _ _ _ = _
    unfold f_X9_couldBe_b22 f_X9_couldBe_b99
    rw [M.g 15 rfl, bs, f15, if_pos (nI_le (by omega) (by omega)), if_neg (by decide), m_ins s hs2 p (by omega)]
    rfl
  | succ m ih =>
    intro i hi n hn
    obtain ⟨n, rfl⟩ := sx hn
    have e1 := ih (i + 1) (by omega) n (by omega)
    have e0 := l_could0 M f15 hq K (nI p) s m (i + 1) (by omega) n (by omega)
    show f_X9_couldBe_b22 _ _ _ _ _ _ _ _ = _
    unfold f_X9_couldBe_b22 f_X9_couldBe_b56 f_X9_couldBe_b72 f_X9_couldBe_b79 f_X9_couldBe_b80 fitC
    rw [M.g 15 rfl, bs, f15, if_neg (nI_ge (show i < q by omega) (by omega)), if_neg (by decide), M.r 8 rfl, bs]
    show (ald h (143 + 2) (nI p)).bind _ = _
    rw [M.ald 2 (by omega) hp, bs, hg, M.r 13 rfl, bs]
    show (ald h (143 + 6) (nI i)).bind _ = _
    rw [M.ald 6 (by omega) (show i < 6 by omega), bs, M.r 14 rfl, bs, bs]
    show (if g = A 6 i then (ald h (143 + 7) (nI i)).bind _ else (ald h (143 + 7) (nI i)).bind _) = _
    rw [M.ald 7 (by omega) (show i < 6 by omega), bs, bs, ← (hs i (by omega)).1, ← (hs i (by omega)).2, nI_1]
    by_cases h1 : sr i = g
    · by_cases h2 : sg i = 1
      · simp only [h1, h2, if_true, decide_true]
        exact e1
      · simp only [h1, h2, if_true, if_false, decide_true, decide_false]
        rw [if_neg (by decide), e0]
        rfl
    · have h1' : ¬ g = sr i := fun z => h1 z.symm
      by_cases h2 : sg i = 1
      · simp only [h1, h1', h2, if_true, if_false, decide_true, decide_false]
        rw [if_neg (by decide), e0]
        rfl
      · simp only [h1, h1', h2, if_false, decide_false, if_true]
        exact e1
theorem l_couldM (M : MM h F A) (Y : VS S) (f2 : F 2 = nI (cP S)) (f15 : F 15 = nI q) (hq : q ≤ 6) (hs : ∀ i, i < q → sr i = A 6 i ∧ sg i = A 7 i) (hg : ∀ p, p < cP S → A 2 p = gC S p) : ∀ m i, i + m = cP S → ∀ n, m < n → ∀ t, t < 256 → F_X9_couldBe_9 n 142 (nI t) (nI i) h = some (nI (fld (fun t p => if fitC (gC S p) sr sg q 0 then ins t p else t) m i t), h) := by
  have hP := Y.p6
  intro m
  induction m with
  | zero =>
    intro i hi n hn t ht
    obtain ⟨n, rfl⟩ := sx hn
    show f_X9_couldBe_b9 _ _ _ _ _ = _
    unfold f_X9_couldBe_b9
    rw [M.g 2 rfl, bs, f2, if_pos (nI_le (by omega) (by omega))]; rfl
  | succ m ih =>
    intro i hi n hn t ht
    obtain ⟨n, rfl⟩ := sx hn
    have hip : i < cP S := by omega
    show f_X9_couldBe_b9 _ _ _ _ _ = _
    unfold f_X9_couldBe_b9 fld
    rw [M.g 2 rfl, bs, f2, if_neg (nI_ge hip (by omega))]
    show F_X9_couldBe_22 _ FU 142 (nI t) (nI i) 1 (nI 0) h = _
    rw [l_could1 M f15 hq hs _ (show i < 6 by omega) (hg i hip) ht q 0 (by omega) FU (fu_lt (by omega)), nI_1]
    refine ih (i + 1) (by omega) n (by omega) _ ?_
    split
    · exact m_ins_lt t ht i (by omega)
    · exact ht
end CB
/-- both count who could be: the class with what it dealt, the reference with what it gave out -/
theorem both_could {h : HP} {F : Nat → Int32} {A : AT} {S : CS} (M : MM h F A) (I : INV h F A S) : ∃ (s : Nat) (k1 k2 : HP) (q e : Nat) (F' : Nat → Int32) (A' : AT), s < 256 ∧ f_X8_dealt 0 h = some (some 13, k1) ∧ DVo k1 S ∧ Fr h k1 13 6 ∧ f_X5_fitting 123 13 (nI (cP S)) k1 = some (nI s, k1) ∧ f_X9_couldBe 142 k1 = some (nI s, k2) ∧ MM k2 F' A' ∧ FS F F' ∧ (∀ p, p < cP S → A' 2 p = gC S p) ∧ INV k1 F A S ∧ Inv k2 ∧ (∀ p, s.testBit p = true → p < 8) := by
  have Y := I.2.1
  have hP := Y.p6
  obtain ⟨k1, e8, D1, X1⟩ := p_dealt I
  have I1 := I.deal X1 D1.dx
  have M1 := M.fr X1 (by omega)
  obtain ⟨k2, g2, D2, X2⟩ := p_gave M1 I1
  obtain ⟨F', A', M', fs, as, a0, -, -, hg⟩ := id D2
  obtain ⟨q, e, sr, sg, ep, er, t1, t2, t3, t4, t5, t6, t7, t8, t9, t10, t11⟩ := I1.2.2.2.2.2.2.2.2.2.2.2.1
  have hlt : couldC S sr sg q < 256 := couldC_lt Y sr sg q (cP S) 0 0 (by omega) (by omega)
  refine ⟨couldC S sr sg q, k1, k2, q, e, F', A', hlt, e8, D1, X1, p_fitting D1 Y t3 t1 t4 t5, ?_, M', fs, fun p hp => (hg p hp).1, I1, inv_both M I D1 X1 D2 X2, fun p hp => ?_⟩
  · unfold f_X9_couldBe f_X9_couldBe_e
    rw [M1.chk, g2, bs]
    refine l_couldM M' Y (fs.2.1.trans I.2.2.2.2.1) (fs.2.2.2.2.2.2.1.trans t8) t1 (fun i hi => ?_) (fun p hp => (hg p hp).1) (cP S) 0 (by omega) FU (fu_lt (by omega)) 0 (by omega)
    rw [as.2.2.1, as.2.2.2.1]; exact t10 i hi
  · rcases Nat.lt_or_ge p 8 with z | z
    · exact z
    · have h1 : 2 ^ 8 ≤ 2 ^ p := Nat.pow_le_pow_right (by omega) z
      rw [Nat.testBit_lt_two_pow (x := couldC S sr sg q) (i := p) (by omega)] at hp
      cases hp
theorem s_couldBe : SK0 f_X8_couldBe f_X9_couldBe Inv := by
  intro h hI
  obtain ⟨F, A, S, M, I⟩ := id hI
  obtain ⟨s, k1, k2, q, e, F', A', hs, e8, D1, X1, ef, e9, M', fs, hg, I1, hI2, -⟩ := both_could M I
  refine ⟨nI s, k1, k2, ?_, e9, hI2⟩
  unfold f_X8_couldBe f_X8_couldBe_e
  rw [I.1.chk, I.1.r 6 rfl, bs, e8, bs]
  show (gR k1 0 8 1).bind _ = _
  rw [I1.1.r 1 rfl, bs, I1.2.2.1.pers, bs, ef, bs]
