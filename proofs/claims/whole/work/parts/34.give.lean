section GIVE
variable {S : CS} {x : Nat} {F0 : Nat → Int32} {A0 : AT}
theorem p_dropM (Y : VS S) (hx : x ≤ 1541) (R0 : RV (A0 0) x S) (hF2 : F0 2 = nI (cP S)) {k : Nat} {h : HP} {D : DS} (hM : MD h F0 A0 k D) (hD1 : D.1 < 256) (hD2 : D.2.1 < 256) : ∃ h', f_X9_dropThoseWithout 142 (nI x) h = some h' ∧ MD h' F0 A0 k (fld (aimS S k) (cP S) 0 D) ∧ Fr h h' 142 12 := by
  have hP := Y.p6
  obtain ⟨h', e, M', X'⟩ := l_drop Y hx R0 hF2 k hD1 (cP S) 0 (by omega) FU (fu_lt (by omega)) h D hM hD1 hD2 (fun _ _ _ => rfl)
  refine ⟨h', ?_, M', X'⟩
  obtain ⟨F, A, M, f25, -⟩ := hM
  unfold f_X9_dropThoseWithout f_X9_dropThoseWithout_e
  rw [M.chk, M.g 25 rfl, bs, f25]
  exact e
theorem MD.f25 {h : HP} {k : Nat} {D : DS} (hM : MD h F0 A0 k D) : gI h 142 9 25 = some (nI D.1) := by
  obtain ⟨F, A, M, f25, -⟩ := hM
  rw [M.g 25 rfl, f25]
theorem MD.f11 {h : HP} {k : Nat} {D : DS} (hM : MD h F0 A0 k D) : gI h 142 9 11 = some (nI k) := by
  obtain ⟨F, A, M, -, -, f11, -⟩ := hM
  rw [M.g 11 rfl, f11]
theorem MD.p11 {h : HP} {k : Nat} {D : DS} (hM : MD h F0 A0 k D) (k' : Nat) : ∃ h', pI h 142 9 11 (nI k') = some h' ∧ MD h' F0 A0 k' D ∧ Fr h h' 142 12 := by
  obtain ⟨F, A, M, f25, f26, f11, a2, a3, a4, hF, hA⟩ := hM
  obtain ⟨h1, p1, M1, X1⟩ := M.p 11 (nI k') rfl (by omega)
  exact ⟨h1, p1, ⟨_, _, M1, by rw [un (by omega)]; exact f25, by rw [un (by omega)]; exact f26, us, a2, a3, a4, fun j h1 h2 h3 => by rw [un h3]; exact hF j h1 h2 h3, hA⟩, X1⟩
theorem p_roundM (Y : VS S) (hx : x ≤ 1541) (R0 : RV (A0 0) x S) (hF2 : F0 2 = nI (cP S)) {k : Nat} {h : HP} {D : DS} (hM : MD h F0 A0 k D) (hT : TB S D.1) (hD1 : D.1 < 256) (hD2 : D.2.1 < 256) (h0 : D.1 ≠ 0) : ∃ h', (∀ n, F_X9_giveOut_29 (n + 1) 142 (nI x) h = F_X9_giveOut_29 n 142 (nI x) h') ∧ MD h' F0 A0 (k + 1) (roundC S (cP S) k D) ∧ Fr h h' 142 12 := by
  have hP := Y.p6
  obtain ⟨h1, e1, M1, X1⟩ := p_dropM Y hx R0 hF2 hM hD1 hD2
  obtain ⟨f1, f2, f3⟩ := aimF (S := S) k (cP S) 0 D
  have hb9 := aimF_best (S := S) k (cP S) 0 D (by omega)
  have hE1 := f2 hD1
  have hrc : roundC S (cP S) k D = (adn (fld (aimS S k) (cP S) 0 D).1 (fld (closeS S k (fld (aimS S k) (cP S) 0 D).1 (fld (aimS S k) (cP S) 0 D).2.1 (cP S)) (cP S) 0 (0, fld (aimS S k) (cP S) 0 D)).1, (fld (closeS S k (fld (aimS S k) (cP S) 0 D).1 (fld (aimS S k) (cP S) 0 D).2.1 (cP S)) (cP S) 0 (0, fld (aimS S k) (cP S) 0 D)).2.2) := rfl
  rw [hrc]
  generalize hE : fld (aimS S k) (cP S) 0 D = E at M1 f1 f2 f3 hE1 hb9 ⊢
  have pre : ∀ n, F_X9_giveOut_29 (n + 1) 142 (nI x) h = if nI E.1 = 0 then f_X9_giveOut_b53 (F_X9_giveOut_29 n) 142 (nI x) h1 else (f_X9_giveRings 142 (nI x) h1).bind fun h4 => f_X9_giveOut_b53 (F_X9_giveOut_29 n) 142 (nI x) h4 := by
    intro n
    show f_X9_giveOut_b29 _ _ _ _ = _
    unfold f_X9_giveOut_b29
    rw [hM.f25, bs, if_neg (fun z => h0 ((nI_0iff (by omega)).mp z)), e1, bs, M1.f25, bs]
  by_cases hz : E.1 = 0
  · obtain ⟨h2, e2, M2, X2⟩ := M1.p11 (k + 1)
    refine ⟨h2, fun n => ?_, ?_, X1.trans X2⟩
    · rw [pre n, if_pos ((nI_0iff (by omega)).mpr hz)]
      unfold f_X9_giveOut_b53
      rw [M1.f11, bs, nI_1, e2, bs]
    · rw [hz, close_none]
      have : ((adn 0 (0, E).1, (0, E).2.2) : DS) = E := by
        show (adn 0 0, E.2) = E
        rw [show adn 0 0 = 0 from rfl, ← hz]
      rw [this]
      exact M2
  · have hbest : ∀ q, q < cP S → E.1.testBit q = true → bestC S q E.2.1 ≠ none := fun q h1 h2 => by rw [f1]; exact hb9 q (by omega) (by omega) h2
    have hE2 : E.2.1 < 256 := by rw [f1]; exact hD2
    obtain ⟨h2, e2, M2, X2⟩ := l_give Y hx R0 hF2 k hE1 hE2 hbest (cP S) 0 (by omega) FU (fu_lt (by omega)) h1 (0, E) 0 M1 (by show (0 : Nat) < 256; omega) (by omega) (adn_0 hE2).symm
    obtain ⟨h3, e3, M3, X3⟩ := M2.p11 (k + 1)
    refine ⟨h3, fun n => ?_, M3, (X1.trans X2).trans X3⟩
    have eg : f_X9_giveRings 142 (nI x) h1 = some h2 := by
      unfold f_X9_giveRings f_X9_giveRings_e
      obtain ⟨F, A, M, -⟩ := M1
      rw [M.chk]
      exact e2
    rw [pre n, if_neg (fun z => hz ((nI_0iff (by omega)).mp z)), eg, bs]
    unfold f_X9_giveOut_b53
    rw [M2.f11, bs, nI_1, e3, bs]
theorem l_giveOut (Y : VS S) (hx : x ≤ 1541) (R0 : RV (A0 0) x S) (hF2 : F0 2 = nI (cP S)) : ∀ m k (D : DS), TB S D.1 → cnt D.1 ≤ m → D.1 < 256 → D.2.1 < 256 → ∀ n, m < n → ∀ h, MD h F0 A0 k D → ∃ h', F_X9_giveOut_29 n 142 (nI x) h = some h' ∧ MD h' F0 A0 (dealN S (cP S) m k D).1 (dealN S (cP S) m k D).2 ∧ Fr h h' 142 12 := by
  intro m
  induction m with
  | zero =>
    intro k D hT hc hD1 hD2 n hn h hM
    obtain ⟨n, rfl⟩ := sx hn
    have h0 : D.1 = 0 := deal_done Y 0 k D hT hc
    refine ⟨h, ?_, hM, Fr.rfl⟩
    show f_X9_giveOut_b29 _ _ _ _ = _
    unfold f_X9_giveOut_b29
    rw [hM.f25, bs, if_pos ((nI_0iff (by omega)).mpr h0)]
  | succ m ih =>
    intro k D hT hc hD1 hD2 n hn h hM
    obtain ⟨n, rfl⟩ := sx hn
    unfold dealN
    by_cases h0 : D.1 = 0
    · rw [if_pos h0]
      refine ⟨h, ?_, hM, Fr.rfl⟩
      show f_X9_giveOut_b29 _ _ _ _ = _
      unfold f_X9_giveOut_b29
      rw [hM.f25, bs, if_pos ((nI_0iff (by omega)).mpr h0)]
    · rw [if_neg h0]
      obtain ⟨h1, e1, M1, X1⟩ := p_roundM Y hx R0 hF2 hM hT hD1 hD2 h0
      obtain ⟨r1, r2⟩ := roundC_lt Y (cP S) k hD1 hD2
      have hl := round_less Y k hT h0
      obtain ⟨h', e, M', X'⟩ := ih (k + 1) _ (fun q hq => hT q (roundC_sub _ k D hq)) (by omega) r1 r2 n (by omega) h1 M1
      exact ⟨h', by rw [e1]; exact e, M', X1.trans X'⟩
theorem TB_full : TB S (2 ^ cP S - 1) := fun q hq => by rw [tb_full] at hq; simpa using hq
theorem p_giveOut (Y : VS S) (hx : x ≤ 1541) {h : HP} (M : MM h F0 A0) (R0 : RV (A0 0) x S) (hF2 : F0 2 = nI (cP S)) (hF1 : F0 1 = nI (cN S)) : ∃ h', f_X9_giveOut 142 (nI x) h = some h' ∧ MD h' F0 A0 (dealN S (cP S) 6 0 (d0 S (A0 2) (A0 3) (A0 4))).1 (dealN S (cP S) 6 0 (d0 S (A0 2) (A0 3) (A0 4))).2 ∧ Fr h h' 142 12 := by
  have hP := Y.p6
  have hN := Y.n8
  obtain ⟨h1, p1, M1, X1⟩ := M.p 25 (nI (2 ^ cP S - 1)) rfl (by omega)
  obtain ⟨h2, p2, M2, X2⟩ := M1.p 26 (nI (2 ^ cN S - 1)) rfl (by omega)
  obtain ⟨h3, p3, M3, X3⟩ := M2.p 11 0 rfl (by omega)
  have hM : MD h3 F0 A0 0 (d0 S (A0 2) (A0 3) (A0 4)) := ⟨_, _, M3, by rw [un (by omega), un (by omega), us]; rfl, by rw [un (by omega), us]; rfl, us, rfl, rfl, rfl, fun j h1 h2 h3 => by rw [un h3, un h2, un h1], fun _ _ _ _ _ => rfl⟩
  obtain ⟨h', e, M', X'⟩ := l_giveOut Y hx R0 hF2 6 0 _ TB_full (cnt_6 _) (m_full_lt _ (by omega)) (m_full_lt _ (by omega)) FU (fu_lt (by omega)) h3 hM
  refine ⟨h', ?_, M', ((X1.trans X2).trans X3).trans X'⟩
  unfold f_X9_giveOut f_X9_giveOut_e
  rw [M.chk, M.g 2 rfl, bs, hF2, m_full _ (by omega), p1, bs, M1.g 1 rfl, bs, un (by omega), hF1, m_full _ (by omega), p2, bs, p3, bs, e]
end GIVE
/-! what came out doesn't hang on what stood there -/
section IND
variable {S : CS}
def DE (S : CS) (D E : DS) : Prop := D.1 = E.1 ∧ D.2.1 = E.2.1 ∧ ∀ p, p < cP S → D.1.testBit p = false → D.2.2.1 p = E.2.2.1 p ∧ D.2.2.2.1 p = E.2.2.2.1 p ∧ D.2.2.2.2 p = E.2.2.2.2 p
theorem DE.aim (Y : VS S) (k : Nat) {D E : DS} {p : Nat} (hp : p < cP S) (h : DE S D E) : DE S (aimS S k D p) (aimS S k E p) := by
  have hP := Y.p6
  obtain ⟨h1, h2, h3⟩ := h
  unfold aimS
  rw [← h1, ← h2]
  by_cases hc : D.1.testBit p = true ∧ bestC S p D.2.1 = none
  · rw [if_pos hc, if_pos hc]
    refine ⟨rfl, h2, fun q hq hb => ?_⟩
    by_cases hqp : q = p
    · subst hqp
      exact ⟨us.trans us.symm, us.trans us.symm, us.trans us.symm⟩
    · have hb : (del D.1 p).testBit q = false := hb
      rw [tb_del (by omega) (by omega)] at hb
      have hb2 : D.1.testBit q = false := by simpa [hqp] using hb
      obtain ⟨k1, k2, k3⟩ := h3 q hq hb2
      exact ⟨(un hqp).trans (k1.trans (un hqp).symm), (un hqp).trans (k2.trans (un hqp).symm), (un hqp).trans (k3.trans (un hqp).symm)⟩
  · rw [if_neg hc, if_neg hc]
    exact ⟨h1, h2, h3⟩
theorem DE.aimF (Y : VS S) (k : Nat) : ∀ m i, i + m = cP S → ∀ (D E : DS), DE S D E → DE S (fld (aimS S k) m i D) (fld (aimS S k) m i E) := by
  intro m
  induction m with
  | zero => intro i _ D E h; exact h
  | succ m ih => intro i hi D E h; exact ih (i + 1) (by omega) _ _ (h.aim Y k (by omega))
def DG (S : CS) (there : Nat) (x y : Nat × DS) : Prop := x.1 = y.1 ∧ x.2.2.1 = y.2.2.1 ∧ ∀ p, p < cP S → (there.testBit p = false ∨ x.1.testBit p = true) → x.2.2.2.1 p = y.2.2.2.1 p ∧ x.2.2.2.2.1 p = y.2.2.2.2.1 p ∧ x.2.2.2.2.2 p = y.2.2.2.2.2 p
theorem DG.step (k there op n : Nat) {x y : Nat × DS} {p : Nat} (h : DG S there x y) : DG S there (closeS S k there op n x p) (closeS S k there op n y p) := by
  obtain ⟨h1, h2, h3⟩ := h
  unfold closeS
  by_cases hr : ringP S there op n p = 0
  · rw [if_pos hr, if_pos hr]; exact ⟨h1, h2, h3⟩
  · rw [if_neg hr, if_neg hr]
    refine ⟨by show ins x.1 p = ins y.1 p; rw [h1], by show delO x.2.2.1 _ = delO y.2.2.1 _; rw [h2], fun q hq hb => ?_⟩
    by_cases hqp : q = p
    · subst hqp
      exact ⟨us.trans us.symm, us.trans us.symm, us.trans us.symm⟩
    · have hb2 : there.testBit q = false ∨ x.1.testBit q = true := by
        rcases hb with z | z
        · exact Or.inl z
        · have z : (ins x.1 p).testBit q = true := z
          rw [tb_ins] at z
          exact Or.inr (by simpa [hqp] using z)
      obtain ⟨k1, k2, k3⟩ := h3 q hq hb2
      exact ⟨(un hqp).trans (k1.trans (un hqp).symm), (un hqp).trans (k2.trans (un hqp).symm), (un hqp).trans (k3.trans (un hqp).symm)⟩
theorem DG.fold (k there op n : Nat) : ∀ m i (x y : Nat × DS), DG S there x y → DG S there (fld (closeS S k there op n) m i x) (fld (closeS S k there op n) m i y) := by
  intro m
  induction m with
  | zero => intro i x y h; exact h
  | succ m ih => intro i x y h; exact ih (i + 1) _ _ (h.step k there op n)
theorem DE.round (Y : VS S) (k : Nat) {D E : DS} (h : DE S D E) : DE S (roundC S (cP S) k D) (roundC S (cP S) k E) := by
  have hP := Y.p6
  have ha := DE.aimF Y k (cP S) 0 (by omega) D E h
  unfold roundC
  generalize fld (aimS S k) (cP S) 0 D = D1 at ha
  generalize fld (aimS S k) (cP S) 0 E = E1 at ha
  obtain ⟨h1, h2, h3⟩ := ha
  dsimp only
  rw [← h1, ← h2]
  have hg := DG.fold (S := S) k D1.1 D1.2.1 (cP S) (cP S) 0 (0, D1) (0, E1) ⟨rfl, h2, fun p hp hb => h3 p hp (by
    rcases hb with z | z
    · exact z
    · have z : (0 : Nat).testBit p = true := z
      rw [Nat.zero_testBit] at z; cases z)⟩
  have hgl := gone_lt (S := S) k D1.1 D1.2.1 (cP S) (cP S) 0 (0, D1) (by omega) (by show (0 : Nat) < 256; omega)
  generalize fld (closeS S k D1.1 D1.2.1 (cP S)) (cP S) 0 (0, D1) = X at hg hgl
  generalize fld (closeS S k D1.1 D1.2.1 (cP S)) (cP S) 0 (0, E1) = Z at hg
  obtain ⟨g1, g2, g3⟩ := hg
  refine ⟨by show adn D1.1 X.1 = adn D1.1 Z.1; rw [g1], g2, fun p hp hb => g3 p hp ?_⟩
  have hb : (adn D1.1 X.1).testBit p = false := hb
  rw [tb_adn hgl (by omega)] at hb
  cases hq : D1.1.testBit p with
  | false => exact Or.inl rfl
  | true => rw [hq] at hb; exact Or.inr (by simpa using hb)
theorem DE.deal (Y : VS S) : ∀ m k (D E : DS), DE S D E → (dealN S (cP S) m k D).1 = (dealN S (cP S) m k E).1 ∧ DE S (dealN S (cP S) m k D).2 (dealN S (cP S) m k E).2 := by
  intro m
  induction m with
  | zero => intro k D E h; exact ⟨rfl, h⟩
  | succ m ih =>
    intro k D E h
    unfold dealN
    by_cases h0 : D.1 = 0
    · rw [if_pos h0, if_pos (h.1 ▸ h0)]; exact ⟨rfl, h⟩
    · rw [if_neg h0, if_neg (fun z => h0 (h.1.trans z))]
      exact ih (k + 1) _ _ (h.round Y k)
/-- what comes out -/
def outC (S : CS) : Nat × DS := dealN S (cP S) 6 0 (d0 S (fun _ => 0) (fun _ => 0) (fun _ => 0))
theorem out_eq (Y : VS S) (g r z : Nat → Int32) : (dealN S (cP S) 6 0 (d0 S g r z)).1 = (outC S).1 ∧ (dealN S (cP S) 6 0 (d0 S g r z)).2.1 = (outC S).2.1 ∧ (dealN S (cP S) 6 0 (d0 S g r z)).2.2.1 = (outC S).2.2.1 ∧ ∀ p, p < cP S → (dealN S (cP S) 6 0 (d0 S g r z)).2.2.2.1 p = (outC S).2.2.2.1 p ∧ (dealN S (cP S) 6 0 (d0 S g r z)).2.2.2.2.1 p = (outC S).2.2.2.2.1 p ∧ (dealN S (cP S) 6 0 (d0 S g r z)).2.2.2.2.2 p = (outC S).2.2.2.2.2 p := by
  have hde : DE S (d0 S g r z) (d0 S (fun _ => 0) (fun _ => 0) (fun _ => 0)) := ⟨rfl, rfl, fun p hp hb => by
    have hb : (2 ^ cP S - 1).testBit p = false := hb
    rw [tb_full] at hb
    simp at hb
    omega⟩
  obtain ⟨h1, h2, h3, h4⟩ := DE.deal Y 6 0 _ _ hde
  have hd := deal_done Y 6 0 (d0 S g r z) TB_full (cnt_6 _)
  exact ⟨h1, h2, h3, fun p hp => h4 p hp (by rw [hd, Nat.zero_testBit])⟩
end IND
