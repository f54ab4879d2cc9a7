section DEAL2
variable {S : CS} {a d : Nat}
theorem ringC_lt {f : Nat → Nat} {P p : Nat} (hP : P ≤ 8) (hf : ∀ q, q < P → f q < P) : ∀ n set q, set < 256 → q < P → ringC f p n set q < 256 := by
  intro n
  induction n with
  | zero => intro set q _ _; unfold ringC; omega
  | succ n ih =>
    intro set q hs hq
    unfold ringC
    have := m_ins_lt set hs q (by omega)
    split
    · exact this
    · exact ih _ _ this (hf q hq)
theorem ringP_lt (Y : VS S) {there op n p : Nat} (hp : p < cP S) : ringP S there op n p < 256 := by
  unfold ringP
  split
  · rename_i hb
    have hP := Y.p6
    -- the walk stays within who is there
    have key : ∀ m set q, set < 256 → q < cP S → there.testBit q = true → ringC (nxC S there op) p m set q < 256 := by
      intro m
      induction m with
      | zero => intro set q _ _ _; unfold ringC; omega
      | succ m ih =>
        intro set q hs hq hq2
        unfold ringC
        have h1 := m_ins_lt set hs q (by omega)
        obtain ⟨-, n2, n3⟩ := nxC_in Y (op := op) hq hq2
        split
        · exact h1
        · exact ih _ _ h1 n2 n3
    exact key n 0 p (by omega) hp hb
  · omega
theorem l_ringFrom (Y : VS S) {k : Nat} {D : DS} {tgt onw : Nat → Int32} {h : HP} (A : DV h d k D tgt onw) {there op : Nat} (ho : ∀ q, q < cP S → there.testBit q = true → onw q = enc (nextC S there op q)) {p : Nat} (hp : p < cP S) : ∀ m i, i + m = 6 → ∀ n, m < n → ∀ set q, set < 256 → q < cP S → there.testBit q = true → F_X1_ringFrom_7 n d (nI p) (nI set) (nI q) (nI i) h = some (nI (ringC (nxC S there op) p m set q), h) := by
  have hP := Y.p6
  intro m
  induction m with
  | zero =>
    intro i hi n hn set q hs hq hq2
    obtain ⟨n, rfl⟩ := sx hn
    show f_X1_ringFrom_b7 _ _ _ _ _ _ _ = _
    unfold f_X1_ringFrom_b7
    rw [if_pos (show (6 : Int32) ≤ nI i from nI_le (a := 6) (by omega) (by omega))]
    rfl
  | succ m ih =>
    intro i hi n hn set q hs hq hq2
    obtain ⟨n, rfl⟩ := sx hn
    obtain ⟨n1, n2, n3⟩ := nxC_in Y (op := op) hq hq2
    show f_X1_ringFrom_b7 _ _ _ _ _ _ _ = _
    unfold f_X1_ringFrom_b7
    rw [if_neg (show ¬ (6 : Int32) ≤ nI i from nI_ge (b := 6) (by omega) (by omega)), p_with hs (by omega), bs, DR.r7 A, bs, ia_at A.2.2.2.2.2 (by omega) (by omega), bs, ho q hq hq2, n1]
    unfold ringC
    have hk : enc (some (nxC S there op q)) = nI p ↔ nxC S there op q = p := nI_eq (by omega) (by omega)
    by_cases he : nxC S there op q = p
    · rw [if_pos (hk.mpr he), if_pos he]
    · rw [if_neg (fun z => he (hk.mp z)), if_neg he, nI_1]
      exact ih (i + 1) (by omega) n (by omega) _ _ (m_ins_lt set hs q (by omega)) n2 n3
theorem p_ringFrom (Y : VS S) {k : Nat} {D : DS} {tgt onw : Nat → Int32} {h : HP} (A : DV h d k D tgt onw) {there op : Nat} (ho : ∀ q, q < cP S → there.testBit q = true → onw q = enc (nextC S there op q)) {p : Nat} (hp : p < cP S) (hp2 : there.testBit p = true) : f_X1_ringFrom d (nI p) h = some (nI (ringC (nxC S there op) p 6 0 p), h) := by
  unfold f_X1_ringFrom f_X1_ringFrom_e
  rw [DR.chk A]
  exact l_ringFrom Y A ho hp 6 0 (by omega) FU (fu_lt (by omega)) 0 p (by omega) hp hp2
theorem closeS_th (k there op n : Nat) (x : Nat × DS) (p : Nat) : (closeS S k there op n x p).2.1 = x.2.1 := by
  unfold closeS; split <;> rfl
theorem nI_0iff {k : Nat} (hk : k < 2 ^ 31) : nI k = 0 ↔ k = 0 := nI_eq (b := 0) hk (by omega)
theorem l_close (Y : VS S) (hda : d + 6 ≤ a ∨ a + 5 ≤ d) (k : Nat) {there op : Nat} (hth : there < 256) {tgt onw : Nat → Int32} (ht : ∀ q, q < cP S → there.testBit q = true → tgt q = enc (bestC S q op)) (ho : ∀ q, q < cP S → there.testBit q = true → onw q = enc (nextC S there op q)) : ∀ m i, i + m = cP S → ∀ n, m < n → ∀ (h : HP) (x : Nat × DS), HV h a S → DV h d k x.2 tgt onw → x.1 < 256 → x.2.1 = there → x.2.2.1 < 256 → ∃ h', F_X1_closeRings_4 n d a (nI x.1) (nI i) h = some h' ∧ DV h' d k (adn there (fld (closeS S k there op 6) m i x).1, (fld (closeS S k there op 6) m i x).2.2) tgt onw ∧ Fr h h' d 6 := by
  have hP := Y.p6
  intro m
  induction m with
  | zero =>
    intro i hi n hn h x V A hx1 hx2 hx3
    obtain ⟨n, rfl⟩ := sx hn
    obtain ⟨h1, e1, A1, F1⟩ := DR.p2 A (nI (adn there x.1))
    refine ⟨h1, ?_, A1, F1⟩
    show f_X1_closeRings_b4 _ _ _ _ _ _ = _
    unfold f_X1_closeRings_b4
    rw [V.pers, bs, if_pos (nI_le (by omega) (by omega)), DR.g2 A, bs, hx2, m_adn hx1, e1, bs]
  | succ m ih =>
    intro i hi n hn h x V A hx1 hx2 hx3
    obtain ⟨n, rfl⟩ := sx hn
    have hip : i < cP S := by omega
    have goal : ∀ z, F_X1_closeRings_4 (n + 1) d a (nI x.1) (nI i) h = z ↔ f_X1_closeRings_b4 (F_X1_closeRings_4 n) d a (nI x.1) (nI i) h = z := fun z => Iff.rfl
    have hrl := ringP_lt Y (there := there) (op := op) (n := 6) hip
    -- what comes to the join
    have join : f_X1_closeRings_b4 (F_X1_closeRings_4 n) d a (nI x.1) (nI i) h = f_X1_closeRings_b32 (F_X1_closeRings_4 n) d a (nI x.1) (nI i) (nI (ringP S there op 6 i)) h := by
      unfold f_X1_closeRings_b4 ringP
      rw [V.pers, bs, if_neg (nI_ge hip (by omega)), DR.g2 A, bs, hx2, p_holds hth (by omega), bs]
      by_cases hb : there.testBit i = true
      · rw [if_neg (by rw [hb]; exact b1n), p_ringFrom Y A ho hip hb, bs, if_pos hb]
      · rw [if_pos (by rw [Bool.not_eq_true _ |>.mp hb]; rfl), if_neg hb]
        rfl
    by_cases hr : ringP S there op 6 i = 0
    · have hst : closeS S k there op 6 x i = x := if_pos hr
      obtain ⟨h', e, A', F'⟩ := ih (i + 1) (by omega) n (by omega) h x V A hx1 hx2 hx3
      refine ⟨h', (goal _).mpr ?_, by unfold fld; rw [hst]; exact A', F'⟩
      rw [join]
      unfold f_X1_closeRings_b32 f_X1_closeRings_b77
      rw [if_pos ((nI_0iff (by omega)).mpr hr), nI_1, e]
    · have hb : there.testBit i = true := by
        rcases Decidable.em (there.testBit i = true) with q | q
        · exact q
        · exact absurd (show ringP S there op 6 i = 0 from if_neg q) hr
      have hbl : ∀ z, bestC S i op = some z → z < 8 := fun z hz => (bestC_lt Y hip hz).1
      obtain ⟨h1, e1, A1, F1⟩ := p_finish A (p := i) (by omega) (enc (bestC S i op)) (nI (ringP S there op 6 i))
      obtain ⟨h2, e2, A2, F2⟩ := A1.p1 (nI (delO x.2.2.1 (bestC S i op)))
      have hst : closeS S k there op 6 x i = (ins x.1 i, ((finC x.2 i (bestC S i op) k (ringP S there op 6 i)).1, delO x.2.2.1 (bestC S i op), (finC x.2 i (bestC S i op) k (ringP S there op 6 i)).2.2)) := if_neg hr
      have A2' : DV h2 d k (closeS S k there op 6 x i).2 tgt onw := by rw [hst]; exact A2
      have Fh := F1.trans F2
      obtain ⟨h', e, A', F'⟩ := ih (i + 1) (by omega) n (by omega) h2 (closeS S k there op 6 x i) (V.fr Fh (by omega)) A2' (by rw [hst]; exact m_ins_lt _ hx1 i (by omega)) (by rw [closeS_th]; exact hx2) (by rw [hst]; exact delO_lt hx3 hbl)
      refine ⟨h', (goal _).mpr ?_, A', Fh.trans F'⟩
      rw [join]
      unfold f_X1_closeRings_b32 f_X1_closeRings_b77
      rw [if_neg (fun z => hr ((nI_0iff (by omega)).mp z)), DR.r6 A, bs, ia_at A.2.2.2.2.1 (by omega) (by omega), bs, ht i hip hb, e1, bs, p_with hx1 (by omega), bs, A1.g1, bs, p_withoutO hx3 hbl, bs, e2, bs, nI_1]
      rw [hst] at e
      exact e
theorem closeF (k there op n : Nat) : ∀ m i (x : Nat × DS), (x.2.2.1 < 256 → (∀ q, i ≤ q → q < i + m → ∀ r, bestC S q op = some r → r < 8) → (fld (closeS S k there op n) m i x).2.2.1 < 256) := by
  intro m
  induction m with
  | zero => intro i x h _; exact h
  | succ m ih =>
    intro i x h hb
    refine ih (i + 1) _ ?_ (fun q h1 h2 => hb q (by omega) (by omega))
    unfold closeS
    split
    · exact h
    · exact delO_lt h (hb i (Nat.le_refl _) (by omega))
theorem roundC_lt (Y : VS S) (n k : Nat) {D : DS} (h1 : D.1 < 256) (h2 : D.2.1 < 256) : (roundC S n k D).1 < 256 ∧ (roundC S n k D).2.1 < 256 := by
  obtain ⟨f1, f2, -⟩ := aimF (S := S) k (cP S) 0 D
  refine ⟨m_adn_lt (f2 h1), ?_⟩
  refine closeF k _ _ n (cP S) 0 _ (by show (fld (aimS S k) (cP S) 0 D).2.1 < 256; rw [f1]; exact h2) (fun q hq1 hq2 r hr => (bestC_lt Y (by omega) hr).1)
theorem p_round (Y : VS S) (hda : d + 6 ≤ a ∨ a + 5 ≤ d) {k : Nat} {h : HP} {D : DS} {tgt onw : Nat → Int32} (V : HV h a S) (A : DV h d k D tgt onw) (hD1 : D.1 < 256) (hD2 : D.2.1 < 256) : ∃ h1 h2 h3 tgt' onw', f_X1_aim d a h = some h1 ∧ f_X1_follow d a h1 = some h2 ∧ f_X1_closeRings d a h2 = some h3 ∧ DV h3 d k (roundC S 6 k D) tgt' onw' ∧ Fr h h3 d 6 := by
  have hP := Y.p6
  obtain ⟨h1, tgt1, e1, A1, F1, -, t1⟩ := l_aim Y hda k (cP S) 0 (by omega) FU (fu_lt (by omega)) h D tgt onw V A hD1 hD2
  obtain ⟨f1, f2, f3⟩ := aimF (S := S) k (cP S) 0 D
  have hE1 := f2 hD1
  generalize hE : fld (aimS S k) (cP S) 0 D = E at A1 f1 f2 f3 hE1
  have V1 := V.fr F1 (by omega)
  have ht : ∀ q, q < cP S → E.1.testBit q = true → tgt1 q = enc (bestC S q E.2.1) := fun q h1 h2 => by rw [f1]; exact t1 q (by omega) h1 (f3 q h2)
  obtain ⟨h2, onw2, e2, A2, F2, -, t2⟩ := l_follow Y hda k hE1 ht (cP S) 0 (by omega) FU (fu_lt (by omega)) h1 onw V1 A1
  have V2 := V1.fr F2 (by omega)
  have ho : ∀ q, q < cP S → E.1.testBit q = true → onw2 q = enc (nextC S E.1 E.2.1 q) := fun q h1 h2 => t2 q (by omega) h1 h2
  obtain ⟨h3, e3, A3, F3⟩ := l_close Y hda k hE1 ht ho (cP S) 0 (by omega) FU (fu_lt (by omega)) h2 (0, E) V2 A2 (by show (0 : Nat) < 256; omega) rfl (by show E.2.1 < 256; rw [f1]; exact hD2)
  refine ⟨h1, h2, h3, tgt1, onw2, ?_, ?_, ?_, ?_, (F1.trans F2).trans F3⟩
  · unfold f_X1_aim f_X1_aim_e
    rw [DR.chk A]; exact e1
  · unfold f_X1_follow f_X1_follow_e
    rw [DR.chk A1, DR.g2 A1, bs, p_firstOf V1 Y hE1, bs]; exact e2
  · unfold f_X1_closeRings f_X1_closeRings_e
    rw [DR.chk A2]; exact e3
  · unfold roundC
    rw [hE]
    exact A3
theorem l_deal (Y : VS S) (hda : d + 6 ≤ a ∨ a + 5 ≤ d) : ∀ m k, k + m = 6 → ∀ n, m < n → ∀ (h : HP) (D : DS) (tgt onw : Nat → Int32), HV h a S → DV h d k D tgt onw → D.1 < 256 → D.2.1 < 256 → ∃ h' tgt' onw', F_X1_deal_29 n d a (nI k) h = some h' ∧ DV h' d (dealN S 6 m k D).1 (dealN S 6 m k D).2 tgt' onw' ∧ Fr h h' d 6 := by
  intro m
  induction m with
  | zero =>
    intro k hk n hn h D tgt onw V A hD1 hD2
    obtain ⟨n, rfl⟩ := sx hn
    refine ⟨h, tgt, onw, ?_, A, Fr.rfl⟩
    show f_X1_deal_b29 _ _ _ _ _ = _
    unfold f_X1_deal_b29
    rw [if_pos (show (6 : Int32) ≤ nI k from nI_le (a := 6) (by omega) (by omega))]
    rfl
  | succ m ih =>
    intro k hk n hn h D tgt onw V A hD1 hD2
    obtain ⟨n, rfl⟩ := sx hn
    by_cases h0 : D.1 = 0
    · refine ⟨h, tgt, onw, ?_, by unfold dealN; rw [if_pos h0]; exact A, Fr.rfl⟩
      show f_X1_deal_b29 _ _ _ _ _ = _
      unfold f_X1_deal_b29
      rw [if_neg (show ¬ (6 : Int32) ≤ nI k from nI_ge (b := 6) (by omega) (by omega)), DR.g2 A, bs, if_pos ((nI_0iff (by omega)).mpr h0)]
      rfl
    · obtain ⟨h1, h2, h3, tgt', onw', e1, e2, e3, A3, F3⟩ := p_round Y hda V A hD1 hD2
      obtain ⟨h4, e4, A4, F4⟩ := DR.p0 A3 (nI (k + 1))
      obtain ⟨r1, r2⟩ := roundC_lt Y 6 k hD1 hD2
      have Fh := F3.trans F4
      obtain ⟨h', t', o', e, A', F'⟩ := ih (k + 1) (by omega) n (by omega) h4 (roundC S 6 k D) tgt' onw' (V.fr Fh (by omega)) A4 r1 r2
      refine ⟨h', t', o', ?_, by unfold dealN; rw [if_neg h0]; exact A', Fh.trans F'⟩
      show f_X1_deal_b29 _ _ _ _ _ = _
      unfold f_X1_deal_b29
      rw [if_neg (show ¬ (6 : Int32) ≤ nI k from nI_ge (b := 6) (by omega) (by omega)), DR.g2 A, bs, if_neg (fun z => h0 ((nI_0iff (by omega)).mp z)), e1, bs, e2, bs, e3, bs, nI_1, e4, bs, e]
def DX (h : HP) (d : Nat) : Prop := ∃ rd op th got rds rgs tgt onw, DR h d rd op th got rds rgs tgt onw
def d0 (S : CS) (got rds rgs : Nat → Int32) : DS := (2 ^ cP S - 1, 2 ^ cN S - 1, got, rds, rgs)
theorem p_deal (Y : VS S) (hda : d + 6 ≤ a ∨ a + 5 ≤ d) {h : HP} {rd op th : Int32} {got rds rgs tgt onw : Nat → Int32} (V : HV h a S) (A : DR h d rd op th got rds rgs tgt onw) : ∃ h' tgt' onw', f_X1_deal d a h = some h' ∧ DV h' d (dealN S 6 6 0 (d0 S got rds rgs)).1 (dealN S 6 6 0 (d0 S got rds rgs)).2 tgt' onw' ∧ Fr h h' d 6 := by
  have hP := Y.p6
  have hN := Y.n8
  obtain ⟨h1, e1, A1, F1⟩ := A.p2 (nI (2 ^ cP S - 1))
  have V1 := V.fr F1 (by omega)
  obtain ⟨h2, e2, A2, F2⟩ := A1.p1 (nI (2 ^ cN S - 1))
  obtain ⟨h3, e3, A3, F3⟩ := A2.p0 0
  have Fh := (F1.trans F2).trans F3
  obtain ⟨h', t', o', e, A', F'⟩ := l_deal Y hda 6 0 (by omega) FU (fu_lt (by omega)) h3 (d0 S got rds rgs) tgt onw (V.fr Fh (by omega)) A3 (m_full_lt _ (by omega)) (m_full_lt _ (by omega))
  refine ⟨h', t', o', ?_, A', Fh.trans F'⟩
  unfold f_X1_deal f_X1_deal_e
  rw [A.chk, V.pers, bs, p_firstOnes (by omega), bs, e1, bs, V1.rooms, bs, p_firstOnes (by omega), bs, e2, bs, e3, bs]
  exact e
end DEAL2
