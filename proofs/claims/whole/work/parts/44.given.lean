/-! what is given: each room once, and the open ones are those that nobody got -/
def GI (S : CS) (D : DS) : Prop := (∀ p, p < cP S → D.1.testBit p = false → ∃ o, D.2.2.1 p = enc o ∧ ∀ r, o = some r → r < cN S) ∧ (∀ p q, p < cP S → q < cP S → D.1.testBit p = false → D.1.testBit q = false → p ≠ q → D.2.2.1 p = D.2.2.1 q → D.2.2.1 p = -1) ∧ ∀ r, r < 8 → (D.2.1.testBit r = true ↔ r < cN S ∧ ∀ p, p < cP S → D.1.testBit p = false → D.2.2.1 p ≠ nI r)
section GIV
variable {S : CS}
theorem GI.aim (Y : VS S) (k : Nat) {D : DS} {p : Nat} (hp : p < cP S) (g : GI S D) : GI S (aimS S k D p) := by
  have hP := Y.p6
  obtain ⟨g1, g2, g3⟩ := g
  unfold aimS
  by_cases hc : D.1.testBit p = true ∧ bestC S p D.2.1 = none
  · rw [if_pos hc]
    have hdel : ∀ q, q < cP S → q ≠ p → (del D.1 p).testBit q = D.1.testBit q := fun q hq hqp => by rw [tb_del (by omega) (by omega)]; simp [hqp]
    have hv : ∀ q, q ≠ p → upd D.2.2.1 p (enc none) q = D.2.2.1 q := fun q hq => un hq
    refine ⟨fun q hq hb => ?_, fun q z hq hz hb1 hb2 hne he => ?_, fun r hr => ?_⟩
    · by_cases hqp : q = p
      · exact ⟨none, by subst hqp; exact us, fun r hr => by cases hr⟩
      · have hb : (del D.1 p).testBit q = false := hb
        rw [hdel q hq hqp] at hb
        obtain ⟨o, o1, o2⟩ := g1 q hq hb
        exact ⟨o, (hv q hqp).trans o1, o2⟩
    · have he : upd D.2.2.1 p (enc none) q = upd D.2.2.1 p (enc none) z := he
      show upd D.2.2.1 p (enc none) q = -1
      by_cases hqp : q = p
      · subst hqp; rw [us]; rfl
      · by_cases hzp : z = p
        · subst hzp; rw [he, us]; rfl
        · have hb1 : (del D.1 p).testBit q = false := hb1
          have hb2 : (del D.1 p).testBit z = false := hb2
          rw [hdel q hq hqp] at hb1
          rw [hdel z hz hzp] at hb2
          rw [hv q hqp, hv z hzp] at he
          rw [hv q hqp]
          exact g2 q z hq hz hb1 hb2 hne he
    · show D.2.1.testBit r = true ↔ _
      rw [g3 r hr]
      constructor
      · intro ⟨a1, a2⟩
        refine ⟨a1, fun q hq hb => ?_⟩
        show upd D.2.2.1 p (enc none) q ≠ nI r
        by_cases hqp : q = p
        · subst hqp; rw [us]; exact fun z => nI_neg1 (by omega) z.symm
        · have hb : (del D.1 p).testBit q = false := hb
          rw [hdel q hq hqp] at hb
          rw [hv q hqp]; exact a2 q hq hb
      · intro ⟨a1, a2⟩
        refine ⟨a1, fun q hq hb => ?_⟩
        have hqp : q ≠ p := fun z => by subst z; rw [hc.1] at hb; cases hb
        have := a2 q hq (by show (del D.1 p).testBit q = false; rw [hdel q hq hqp]; exact hb)
        have this : upd D.2.2.1 p (enc none) q ≠ nI r := this
        rwa [hv q hqp] at this
  · rw [if_neg hc]; exact ⟨g1, g2, g3⟩
theorem GI.aimAll (Y : VS S) (k : Nat) : ∀ m i, i + m = cP S → ∀ D, GI S D → GI S (fld (aimS S k) m i D) := by
  intro m
  induction m with
  | zero => intro i _ D g; exact g
  | succ m ih => intro i hi D g; exact ih (i + 1) (by omega) _ (g.aim Y k (by omega))
theorem close_char (Y : VS S) (k there op n : Nat) : ∀ m i (x : Nat × DS), i + m ≤ cP S → (∀ q, (i ≤ q ∧ q < i + m ∧ ringP S there op n q ≠ 0) → (fld (closeS S k there op n) m i x).2.2.2.1 q = enc (bestC S q op)) ∧ (∀ q, ¬ (i ≤ q ∧ q < i + m ∧ ringP S there op n q ≠ 0) → (fld (closeS S k there op n) m i x).2.2.2.1 q = x.2.2.2.1 q) ∧ ∀ r, r < 8 → ((fld (closeS S k there op n) m i x).2.2.1.testBit r = true ↔ x.2.2.1.testBit r = true ∧ ∀ q, i ≤ q → q < i + m → ringP S there op n q ≠ 0 → bestC S q op ≠ some r) := by
  intro m
  induction m with
  | zero =>
    intro i x _
    exact ⟨fun q h => by omega, fun q _ => rfl, fun r _ => ⟨fun h => ⟨h, fun q h1 h2 => by omega⟩, fun h => h.1⟩⟩
  | succ m ih =>
    intro i x hi
    obtain ⟨h1, h2, h3⟩ := ih (i + 1) (closeS S k there op n x i) (by omega)
    have hst1 : ringP S there op n i ≠ 0 → (closeS S k there op n x i).2.2.2.1 = upd x.2.2.2.1 i (enc (bestC S i op)) := fun h => by unfold closeS; rw [if_neg h]; rfl
    have hst0 : ringP S there op n i = 0 → closeS S k there op n x i = x := fun h => by unfold closeS; rw [if_pos h]
    have hop1 : ringP S there op n i ≠ 0 → (closeS S k there op n x i).2.2.1 = delO x.2.2.1 (bestC S i op) := fun h => by unfold closeS; rw [if_neg h]
    refine ⟨fun q hq => ?_, fun q hq => ?_, fun r hr => ?_⟩
    · show (fld (closeS S k there op n) m (i + 1) (closeS S k there op n x i)).2.2.2.1 q = _
      by_cases hqi : q = i
      · subst hqi
        rw [h2 q (by omega), hst1 hq.2.2, us]
      · exact h1 q ⟨by omega, by omega, hq.2.2⟩
    · show (fld (closeS S k there op n) m (i + 1) (closeS S k there op n x i)).2.2.2.1 q = _
      rw [h2 q (fun z => hq ⟨by omega, by omega, z.2.2⟩)]
      by_cases hr : ringP S there op n i = 0
      · rw [hst0 hr]
      · rw [hst1 hr, un (fun z => hq ⟨by omega, by omega, by rw [z]; exact hr⟩)]
    · show (fld (closeS S k there op n) m (i + 1) (closeS S k there op n x i)).2.2.1.testBit r = true ↔ _
      rw [h3 r hr]
      by_cases hrg : ringP S there op n i = 0
      · rw [hst0 hrg]
        constructor
        · intro ⟨a1, a2⟩
          refine ⟨a1, fun q q1 q2 q3 => ?_⟩
          by_cases hqi : q = i
          · subst hqi; exact absurd hrg q3
          · exact a2 q (by omega) (by omega) q3
        · intro ⟨a1, a2⟩
          exact ⟨a1, fun q q1 q2 q3 => a2 q (by omega) (by omega) q3⟩
      · rw [hop1 hrg]
        have hd : (delO x.2.2.1 (bestC S i op)).testBit r = true ↔ x.2.2.1.testBit r = true ∧ bestC S i op ≠ some r := by
          cases hb : bestC S i op with
          | none => simp [delO]
          | some y =>
            have hy := (bestC_lt Y (by omega) hb).1
            show (del x.2.2.1 y).testBit r = true ↔ _
            rw [tb_del hy hr]
            by_cases hry : r = y
            · simp [hry]
            · have : ¬ y = r := fun z => hry z.symm
              simp [hry, this]
        rw [hd]
        constructor
        · intro ⟨⟨a1, a2⟩, a3⟩
          refine ⟨a1, fun q q1 q2 q3 => ?_⟩
          by_cases hqi : q = i
          · subst hqi; exact a2
          · exact a3 q (by omega) (by omega) q3
        · intro ⟨a1, a2⟩
          exact ⟨⟨a1, a2 i (Nat.le_refl _) (by omega) hrg⟩, fun q q1 q2 q3 => a2 q (by omega) (by omega) q3⟩
theorem itf_mul {f : Nat → Nat} {a p : Nat} (h : itf f a p = p) : ∀ k, itf f (k * a) p = p := by
  intro k
  induction k with
  | zero => rw [Nat.zero_mul]; rfl
  | succ k ih => rw [Nat.succ_mul, itf_add, h, ih]
theorem ring_back {there op n p : Nat} (h : ringP S there op n p ≠ 0) : there.testBit p = true ∧ ∃ j, 0 < j ∧ itf (nxC S there op) j p = p := by
  unfold ringP at h
  by_cases hb : there.testBit p = true
  · rw [if_pos hb] at h
    refine ⟨hb, ?_⟩
    rcases Classical.em (∃ j, 0 < j ∧ itf (nxC S there op) j p = p) with z | z
    · exact z
    · exact absurd ((ringC_0 n 0 p).mpr (fun j h1 _ h3 => z ⟨j, h1, h3⟩)) h
  · rw [if_neg hb] at h; exact absurd rfl h
theorem ring_inj {there op n p q : Nat} (hp : ringP S there op n p ≠ 0) (hq : ringP S there op n q ≠ 0) (hb : bestC S p op = bestC S q op) : p = q := by
  obtain ⟨-, a, ha, ea⟩ := ring_back hp
  obtain ⟨-, b, hb2, eb⟩ := ring_back hq
  have hf : nxC S there op p = nxC S there op q := by unfold nxC nextC; rw [hb]
  have h1 := itf_mul ea b
  have h2 := itf_mul eb a
  rw [Nat.mul_comm] at h2
  have hpos : 0 < b * a := Nat.mul_pos hb2 ha
  obtain ⟨m, hm⟩ : ∃ m, b * a = m + 1 := ⟨b * a - 1, by omega⟩
  rw [hm] at h1 h2
  have h1 : itf (nxC S there op) m (nxC S there op p) = p := h1
  have h2 : itf (nxC S there op) m (nxC S there op q) = q := h2
  rw [← h1, hf, h2]
theorem gone_only (k there op n : Nat) : ∀ m i (x : Nat × DS) q, (fld (closeS S k there op n) m i x).1.testBit q = true → x.1.testBit q = true ∨ (i ≤ q ∧ q < i + m ∧ ringP S there op n q ≠ 0) := by
  intro m
  induction m with
  | zero => intro i x q h; exact Or.inl h
  | succ m ih =>
    intro i x q h
    rcases ih (i + 1) _ q h with z | z
    · unfold closeS at z
      by_cases hr : ringP S there op n i = 0
      · rw [if_pos hr] at z; exact Or.inl z
      · rw [if_neg hr] at z
        have z : (ins x.1 i).testBit q = true := z
        rw [tb_ins] at z
        by_cases hqi : q = i
        · exact Or.inr ⟨by omega, by omega, by rw [hqi]; exact hr⟩
        · exact Or.inl (by simpa [hqi] using z)
    · exact Or.inr ⟨by omega, by omega, z.2.2⟩
theorem GI.round (Y : VS S) (k : Nat) {D : DS} (g : GI S D) : GI S (roundC S (cP S) k D) := by
  have hP := Y.p6
  have ga := GI.aimAll Y k (cP S) 0 (by omega) D g
  have hb9 := aimF_best (S := S) k (cP S) 0 D (by omega)
  obtain ⟨f1, -, -⟩ := aimF (S := S) k (cP S) 0 D
  unfold roundC
  dsimp only
  generalize fld (aimS S k) (cP S) 0 D = E at ga hb9 f1 ⊢
  obtain ⟨g1, g2, g3⟩ := ga
  have hbest : ∀ q, q < cP S → E.1.testBit q = true → bestC S q E.2.1 ≠ none := fun q h1 h2 => by rw [f1]; exact hb9 q (by omega) (by omega) h2
  have hgl := gone_lt (S := S) k E.1 E.2.1 (cP S) (cP S) 0 (0, E) (by omega) (by show (0 : Nat) < 256; omega)
  obtain ⟨c1, c2, c3⟩ := close_char Y k E.1 E.2.1 (cP S) (cP S) 0 (0, E) (by omega)
  have cin := fun q => gone_in (S := S) k E.1 E.2.1 (cP S) (cP S) 0 (0, E) q
  have con := fun q => gone_only (S := S) k E.1 E.2.1 (cP S) (cP S) 0 (0, E) q
  generalize fld (closeS S k E.1 E.2.1 (cP S)) (cP S) 0 (0, E) = X at hgl c1 c2 c3 cin con ⊢
  -- who is done now: who was, or is in a ring
  have hd : ∀ q, q < cP S → (adn E.1 X.1).testBit q = false → (E.1.testBit q = false ∧ ringP S E.1 E.2.1 (cP S) q = 0) ∨ ringP S E.1 E.2.1 (cP S) q ≠ 0 := by
    intro q hq hb
    rw [tb_adn hgl (by omega)] at hb
    by_cases hr : ringP S E.1 E.2.1 (cP S) q = 0
    · left
      refine ⟨?_, hr⟩
      cases he : E.1.testBit q with
      | false => rfl
      | true =>
        rw [he] at hb
        have hx : X.1.testBit q = true := by simpa using hb
        rcases con q hx with z | z
        · have z : (0 : Nat).testBit q = true := z
          rw [Nat.zero_testBit] at z; cases z
        · exact absurd hr z.2.2
    · exact Or.inr hr
  have hring : ∀ q, q < cP S → ringP S E.1 E.2.1 (cP S) q ≠ 0 → (adn E.1 X.1).testBit q = false := fun q hq hr => by
    rw [tb_adn hgl (by omega), cin q (Or.inr ⟨by omega, by omega, hr⟩)]; simp
  have hold : ∀ q, q < cP S → E.1.testBit q = false → (adn E.1 X.1).testBit q = false := fun q hq hb => by
    rw [tb_adn hgl (by omega), hb]; rfl
  have hnor : ∀ q, E.1.testBit q = false → ringP S E.1 E.2.1 (cP S) q = 0 := fun q hb => by unfold ringP; rw [hb]; rfl
  refine ⟨fun p hp hb => ?_, fun p q hp hq hb1 hb2 hne he => ?_, fun r hr => ?_⟩
  · rcases hd p hp hb with ⟨z1, z2⟩ | z
    · obtain ⟨o, o1, o2⟩ := g1 p hp z1
      exact ⟨o, (c2 p (fun w => w.2.2 z2)).trans o1, o2⟩
    · exact ⟨_, c1 p ⟨by omega, by omega, z⟩, fun r hr => by
        obtain ⟨r8, ro⟩ := bestC_lt Y hp hr
        exact ((g3 r r8).mp ro).1⟩
  · have he : X.2.2.2.1 p = X.2.2.2.1 q := he
    show X.2.2.2.1 p = -1
    -- a room of a ring is open, so nobody who was done has it
    have mix : ∀ p q, p < cP S → q < cP S → E.1.testBit p = false → ringP S E.1 E.2.1 (cP S) p = 0 → ringP S E.1 E.2.1 (cP S) q ≠ 0 → X.2.2.2.1 p ≠ X.2.2.2.1 q := by
      intro p q hp hq z1 z2 w he
      rw [c2 p (fun w => w.2.2 z2), c1 q ⟨by omega, by omega, w⟩] at he
      have hqb := (ring_back w).1
      cases hbq : bestC S q E.2.1 with
      | none => exact hbest q hq hqb hbq
      | some r =>
        obtain ⟨r8, ro⟩ := bestC_lt Y hq hbq
        rw [hbq] at he
        exact ((g3 r r8).mp ro).2 p hp z1 he
    rcases hd p hp hb1 with ⟨z1, z2⟩ | z
    · rcases hd q hq hb2 with ⟨w1, w2⟩ | w
      · rw [c2 p (fun v => v.2.2 z2), c2 q (fun v => v.2.2 w2)] at he
        rw [c2 p (fun v => v.2.2 z2)]
        exact g2 p q hp hq z1 w1 hne he
      · exact absurd he (mix p q hp hq z1 z2 w)
    · rcases hd q hq hb2 with ⟨w1, w2⟩ | w
      · exact absurd he.symm (mix q p hq hp w1 w2 z)
      · rw [c1 p ⟨by omega, by omega, z⟩, c1 q ⟨by omega, by omega, w⟩] at he
        have := (enc_inj (fun k hk => by have := (bestC_lt Y hp hk).1; omega) (fun k hk => by have := (bestC_lt Y hq hk).1; omega)).mp he
        exact absurd (ring_inj z w this) hne
  · show X.2.2.1.testBit r = true ↔ _
    rw [c3 r hr]
    show E.2.1.testBit r = true ∧ _ ↔ _
    rw [g3 r hr]
    constructor
    · intro ⟨⟨a1, a2⟩, a3⟩
      refine ⟨a1, fun p hp hb => ?_⟩
      show X.2.2.2.1 p ≠ nI r
      rcases hd p hp hb with ⟨z1, z2⟩ | z
      · rw [c2 p (fun w => w.2.2 z2)]; exact a2 p hp z1
      · rw [c1 p ⟨by omega, by omega, z⟩]
        intro he
        exact a3 p (by omega) (by omega) z ((enc_nI (fun k hk => (bestC_lt Y hp hk).1) (by omega)).mp he)
    · intro ⟨a1, a2⟩
      refine ⟨⟨a1, fun p hp hb => ?_⟩, fun q q1 q2 q3 hbq => ?_⟩
      · have := a2 p hp (hold p hp hb)
        have this : X.2.2.2.1 p ≠ nI r := this
        rwa [c2 p (fun w => w.2.2 (hnor p hb))] at this
      · have hq : q < cP S := by omega
        have := a2 q hq (hring q hq q3)
        have this : X.2.2.2.1 q ≠ nI r := this
        rw [c1 q ⟨by omega, by omega, q3⟩, hbq] at this
        exact this rfl
theorem GI.deal (Y : VS S) : ∀ m k D, GI S D → GI S (dealN S (cP S) m k D).2 := by
  intro m
  induction m with
  | zero => intro k D g; exact g
  | succ m ih =>
    intro k D g
    unfold dealN
    by_cases h0 : D.1 = 0
    · rw [if_pos h0]; exact g
    · rw [if_neg h0]; exact ih (k + 1) _ (g.round Y k)
theorem out_gi (Y : VS S) : GI S (outC S).2 := by
  refine GI.deal Y 6 0 _ ⟨fun p hp hb => ?_, fun p q hp hq hb => ?_, fun r hr => ?_⟩
  · have hb : (2 ^ cP S - 1).testBit p = false := hb
    rw [tb_full] at hb; simp at hb; omega
  · have hb : (2 ^ cP S - 1).testBit p = false := hb
    rw [tb_full] at hb; simp at hb; omega
  · show (2 ^ cN S - 1).testBit r = true ↔ _
    rw [tb_full]
    simp only [decide_eq_true_eq]
    constructor
    · intro h
      refine ⟨h, fun p hp hb => ?_⟩
      have hb : (2 ^ cP S - 1).testBit p = false := hb
      rw [tb_full] at hb; simp at hb; omega
    · exact fun h => h.1
theorem out_done (Y : VS S) : (outC S).2.1 = 0 := deal_done Y 6 0 _ TB_full (cnt_6 _)
/-- what one gets -/
theorem gC_enc (Y : VS S) {p : Nat} (hp : p < cP S) : ∃ o, gC S p = enc o ∧ ∀ r, o = some r → r < cN S := by
  obtain ⟨g1, g2, g3⟩ := out_gi Y
  have hz : ∀ q, (outC S).2.1.testBit q = false := fun q => by rw [out_done Y, Nat.zero_testBit]
  exact g1 p hp (hz p)
theorem gC_inj (Y : VS S) {p q : Nat} (hp : p < cP S) (hq : q < cP S) (hne : p ≠ q) (he : gC S p = gC S q) : gC S p = -1 := by
  have hz : ∀ q, (outC S).2.1.testBit q = false := fun q => by rw [out_done Y, Nat.zero_testBit]
  exact (out_gi Y).2.1 p q hp hq (hz p) (hz q) hne he
theorem open_iff (Y : VS S) {r : Nat} (hr : r < 8) : (outC S).2.2.1.testBit r = true ↔ r < cN S ∧ ∀ p, p < cP S → gC S p ≠ nI r := by
  have hz : ∀ q, (outC S).2.1.testBit q = false := fun q => by rw [out_done Y, Nat.zero_testBit]
  rw [(out_gi Y).2.2 r hr]
  exact ⟨fun h => ⟨h.1, fun p hp => h.2 p hp (hz p)⟩, fun h => ⟨h.1, fun p hp _ => h.2 p hp⟩⟩
end GIV
