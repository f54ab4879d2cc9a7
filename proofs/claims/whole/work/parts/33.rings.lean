/-! rings: a walk that stays among fewer than P comes back to where it was -/
def itf (f : Nat → Nat) : Nat → Nat → Nat
  | 0, p => p
  | n + 1, p => itf f n (f p)
theorem itf_add (f : Nat → Nat) : ∀ b a p, itf f (a + b) p = itf f a (itf f b p) := by
  intro b
  induction b with
  | zero => intro a p; rfl
  | succ b ih => intro a p; exact ih a (f p)
theorem pigeon {g : Nat → Nat} {P : Nat} (hg : ∀ j, j ≤ P → g j < P) : ∃ a b, a < b ∧ b ≤ P ∧ g a = g b := by
  rcases Classical.em (∃ a b, a < b ∧ b ≤ P ∧ g a = g b) with q | q
  · exact q
  · exfalso
    have hn : ((List.range (P + 1)).map g).Nodup := by
      rw [List.Nodup, List.pairwise_map]
      refine List.Pairwise.imp_of_mem ?_ List.pairwise_lt_range
      intro a b ha hb hab e
      exact q ⟨a, b, hab, by have := List.mem_range.mp hb; omega, e⟩
    have := nodup_len P _ hn (fun y hy => by
      obtain ⟨j, hj, rfl⟩ := List.mem_map.mp hy
      exact hg j (by have := List.mem_range.mp hj; omega))
    simp at this
    omega
theorem period {f : Nat → Nat} {p P : Nat} (hQ : ∀ j, itf f j p < P) : ∀ j, 0 < j → itf f j p = p → ∃ i, 0 < i ∧ i ≤ P ∧ itf f i p = p := by
  intro j
  induction j using Nat.strongRecOn with
  | _ j ih =>
    intro h0 hj
    by_cases hjP : j ≤ P
    · exact ⟨j, h0, hjP, hj⟩
    · obtain ⟨a, b, hab, hb, e⟩ := pigeon (g := fun j => itf f j p) (P := P) (fun j _ => hQ j)
      have e : itf f a p = itf f b p := e
      refine ih (j - b + a) (by omega) (by omega) ?_
      rw [itf_add, e, ← itf_add, show j - b + b = j by omega]
      exact hj
theorem ins_ne {s k : Nat} : ins s k ≠ 0 := by
  intro h
  have h2 := tb_ins (s := s) (k := k) (j := k)
  rw [h, Nat.zero_testBit] at h2
  simp at h2
theorem ringC_0 {f : Nat → Nat} {p : Nat} : ∀ n set q, ringC f p n set q = 0 ↔ ∀ j, 0 < j → j ≤ n → itf f j q ≠ p := by
  intro n
  induction n with
  | zero => intro set q; exact ⟨fun _ j h1 h2 => by omega, fun _ => rfl⟩
  | succ n ih =>
    intro set q
    unfold ringC
    by_cases h : f q = p
    · rw [if_pos h]
      exact ⟨fun z => absurd z ins_ne, fun z => absurd h (z 1 (by omega) (by omega))⟩
    · rw [if_neg h, ih]
      constructor
      · intro z j h1 h2
        obtain ⟨j, rfl⟩ : ∃ i, j = i + 1 := ⟨j - 1, by omega⟩
        by_cases hj : j = 0
        · subst hj; exact h
        · exact z j (by omega) (by omega)
      · intro z j h1 h2
        exact z (j + 1) (by omega) (by omega)
theorem ringC_more {f : Nat → Nat} {p : Nat} : ∀ n m set q, ringC f p n set q ≠ 0 → ringC f p (n + m) set q = ringC f p n set q := by
  intro n
  induction n with
  | zero => intro m set q h; exact absurd rfl h
  | succ n ih =>
    intro m set q h
    rw [show n + 1 + m = (n + m) + 1 by omega]
    unfold ringC at h ⊢
    by_cases hf : f q = p
    · rw [if_pos hf, if_pos hf]
    · rw [if_neg hf, if_neg hf]
      rw [if_neg hf] at h
      exact ih m _ _ h
section RNG
variable {S : CS}
theorem nx_stay (Y : VS S) {there op p : Nat} (hp : p < cP S) (hb : there.testBit p = true) : ∀ j, itf (nxC S there op) j p < cP S ∧ there.testBit (itf (nxC S there op) j p) = true := by
  intro j
  induction j generalizing p with
  | zero => exact ⟨hp, hb⟩
  | succ j ih =>
    obtain ⟨-, n2, n3⟩ := nxC_in Y (op := op) hp hb
    exact ih n2 n3
theorem ringP_eq (Y : VS S) {there op n p : Nat} (hp : p < cP S) (hn : cP S ≤ n) : ringP S there op n p = ringP S there op (cP S) p := by
  unfold ringP
  by_cases hb : there.testBit p = true
  · rw [if_pos hb, if_pos hb]
    by_cases h0 : ringC (nxC S there op) p (cP S) 0 p = 0
    · rw [h0, ringC_0]
      intro j h1 h2 hj
      obtain ⟨i, i1, i2, i3⟩ := period (fun j => (nx_stay Y (op := op) hp hb j).1) j h1 hj
      exact (ringC_0 _ _ _).mp h0 i i1 i2 i3
    · obtain ⟨m, rfl⟩ : ∃ m, n = cP S + m := ⟨n - cP S, by omega⟩
      exact ringC_more _ m _ _ h0
  · rw [if_neg hb, if_neg hb]
theorem ring_some (Y : VS S) {there op q : Nat} (hq : q < cP S) (hb : there.testBit q = true) : ∃ p, p < cP S ∧ there.testBit p = true ∧ ringP S there op (cP S) p ≠ 0 := by
  obtain ⟨a, b, hab, hbP, e⟩ := pigeon (g := fun j => itf (nxC S there op) j q) (P := cP S) (fun j _ => (nx_stay Y (op := op) hq hb j).1)
  have e : itf (nxC S there op) a q = itf (nxC S there op) b q := e
  obtain ⟨p1, p2⟩ := nx_stay Y (op := op) hq hb a
  refine ⟨itf (nxC S there op) a q, p1, p2, ?_⟩
  unfold ringP
  rw [if_pos p2]
  intro z
  refine (ringC_0 _ _ _).mp z (b - a) (by omega) (by omega) ?_
  rw [← itf_add, show b - a + a = b by omega, e]
theorem closeS_eq (Y : VS S) (k there op : Nat) {n p : Nat} (hp : p < cP S) (hn : cP S ≤ n) (x : Nat × DS) : closeS S k there op n x p = closeS S k there op (cP S) x p := by
  unfold closeS
  rw [ringP_eq Y hp hn]
theorem roundC_eq (Y : VS S) (k : Nat) (D : DS) : roundC S 6 k D = roundC S (cP S) k D := by
  unfold roundC
  have : fld (closeS S k (fld (aimS S k) (cP S) 0 D).1 (fld (aimS S k) (cP S) 0 D).2.1 6) (cP S) 0 (0, fld (aimS S k) (cP S) 0 D) = fld (closeS S k (fld (aimS S k) (cP S) 0 D).1 (fld (aimS S k) (cP S) 0 D).2.1 (cP S)) (cP S) 0 (0, fld (aimS S k) (cP S) 0 D) := fld_congr (fun p x h1 h2 => closeS_eq Y k _ _ (by omega) Y.p6 x)
  simp only [this]
theorem dealN_eq (Y : VS S) : ∀ m k D, dealN S 6 m k D = dealN S (cP S) m k D := by
  intro m
  induction m with
  | zero => intro k D; rfl
  | succ m ih =>
    intro k D
    unfold dealN
    rw [roundC_eq Y, ih]
theorem gone_in (k there op n : Nat) : ∀ m i (x : Nat × DS) q, (x.1.testBit q = true ∨ (i ≤ q ∧ q < i + m ∧ ringP S there op n q ≠ 0)) → (fld (closeS S k there op n) m i x).1.testBit q = true := by
  intro m
  induction m with
  | zero =>
    intro i x q h
    rcases h with h | h
    · exact h
    · omega
  | succ m ih =>
    intro i x q h
    refine ih (i + 1) _ q ?_
    have hk : ∀ j, x.1.testBit j = true → (closeS S k there op n x i).1.testBit j = true := by
      intro j hj
      unfold closeS
      split
      · exact hj
      · show (ins x.1 i).testBit j = true
        rw [tb_ins, hj]; rfl
    rcases h with h | ⟨h1, h2, h3⟩
    · exact Or.inl (hk q h)
    · by_cases hq : q = i
      · subst hq
        refine Or.inl ?_
        unfold closeS
        rw [if_neg h3]
        show (ins x.1 q).testBit q = true
        rw [tb_ins]; simp
      · exact Or.inr ⟨by omega, by omega, h3⟩
/-- how many are there -/
def b01 (s k : Nat) : Nat := if s.testBit k then 1 else 0
def cnt (s : Nat) : Nat := b01 s 0 + b01 s 1 + b01 s 2 + b01 s 3 + b01 s 4 + b01 s 5
theorem b01_le {s t : Nat} (h : ∀ j, t.testBit j = true → s.testBit j = true) (k : Nat) : b01 t k ≤ b01 s k := by
  unfold b01
  by_cases hk : t.testBit k = true
  · rw [if_pos hk, if_pos (h k hk)]; omega
  · rw [if_neg hk]; omega
theorem cnt_lt {s t p : Nat} (h : ∀ j, t.testBit j = true → s.testBit j = true) (hp : p < 6) (h1 : s.testBit p = true) (h2 : ¬ t.testBit p = true) : cnt t < cnt s := by
  have k0 := b01_le h 0
  have k1 := b01_le h 1
  have k2 := b01_le h 2
  have k3 := b01_le h 3
  have k4 := b01_le h 4
  have k5 := b01_le h 5
  have hlt : b01 t p < b01 s p := by unfold b01; rw [if_neg h2, if_pos h1]; omega
  unfold cnt
  rcases (show p = 0 ∨ p = 1 ∨ p = 2 ∨ p = 3 ∨ p = 4 ∨ p = 5 by omega) with rfl | rfl | rfl | rfl | rfl | rfl <;> omega
theorem cnt_6 (s : Nat) : cnt s ≤ 6 := by
  have h : ∀ k, b01 s k ≤ 1 := fun k => by unfold b01; split <;> omega
  have := h 0; have := h 1; have := h 2; have := h 3; have := h 4; have := h 5
  unfold cnt; omega
theorem tb_some {s : Nat} (h : s ≠ 0) : ∃ q, s.testBit q = true := by
  rcases Classical.em (∃ q, s.testBit q = true) with z | z
  · exact z
  · exact absurd (Nat.eq_of_testBit_eq (fun j => by rw [Nat.zero_testBit]; exact Bool.not_eq_true _ |>.mp (fun w => z ⟨j, w⟩))) h
def TB (S : CS) (s : Nat) : Prop := ∀ q, s.testBit q = true → q < cP S
theorem roundC_sub (n k : Nat) (D : DS) {q : Nat} (h : (roundC S n k D).1.testBit q = true) : D.1.testBit q = true := (aimF (S := S) k (cP S) 0 D).2.2 q (adn_sub h)
theorem gone_lt (k there op n : Nat) : ∀ m i (x : Nat × DS), i + m ≤ 8 → x.1 < 256 → (fld (closeS S k there op n) m i x).1 < 256 := by
  intro m
  induction m with
  | zero => intro i x _ h; exact h
  | succ m ih =>
    intro i x hi h
    refine ih (i + 1) _ (by omega) ?_
    unfold closeS
    split
    · exact h
    · exact m_ins_lt _ h i (by omega)
theorem round_less (Y : VS S) (k : Nat) {D : DS} (hT : TB S D.1) (h0 : D.1 ≠ 0) : cnt (roundC S (cP S) k D).1 < cnt D.1 := by
  have hP := Y.p6
  obtain ⟨f1, f2, f3⟩ := aimF (S := S) k (cP S) 0 D
  by_cases hz : (fld (aimS S k) (cP S) 0 D).1 = 0
  · obtain ⟨q, hq⟩ := tb_some h0
    have hqP := hT q hq
    refine cnt_lt (fun j hj => roundC_sub _ k D hj) (p := q) (by omega) hq (fun z => ?_)
    have z2 : (fld (aimS S k) (cP S) 0 D).1.testBit q = true := adn_sub z
    rw [hz, Nat.zero_testBit] at z2
    cases z2
  · obtain ⟨q, hq⟩ := tb_some hz
    have hqP := hT q (f3 q hq)
    obtain ⟨p, hp, hpb, hpr⟩ := ring_some Y (op := (fld (aimS S k) (cP S) 0 D).2.1) hqP hq
    refine cnt_lt (fun j hj => roundC_sub _ k D hj) (p := p) (by omega) (f3 p hpb) (fun z => ?_)
    have hg := gone_in (S := S) k (fld (aimS S k) (cP S) 0 D).1 (fld (aimS S k) (cP S) 0 D).2.1 (cP S) (cP S) 0 (0, fld (aimS S k) (cP S) 0 D) p (Or.inr ⟨Nat.zero_le _, by omega, hpr⟩)
    have hgl := gone_lt (S := S) k (fld (aimS S k) (cP S) 0 D).1 (fld (aimS S k) (cP S) 0 D).2.1 (cP S) (cP S) 0 (0, fld (aimS S k) (cP S) 0 D) (by omega) (by show (0 : Nat) < 256; omega)
    have z : (adn (fld (aimS S k) (cP S) 0 D).1 (fld (closeS S k (fld (aimS S k) (cP S) 0 D).1 (fld (aimS S k) (cP S) 0 D).2.1 (cP S)) (cP S) 0 (0, fld (aimS S k) (cP S) 0 D)).1).testBit p = true := z
    rw [tb_adn hgl (by omega), hg] at z
    simp at z
theorem deal_done (Y : VS S) : ∀ m k (D : DS), TB S D.1 → cnt D.1 ≤ m → (dealN S (cP S) m k D).2.1 = 0 := by
  intro m
  induction m with
  | zero =>
    intro k D hT hc
    rcases Decidable.em (D.1 = 0) with z | z
    · exact z
    · have := round_less Y k hT z
      omega
  | succ m ih =>
    intro k D hT hc
    unfold dealN
    by_cases h0 : D.1 = 0
    · rw [if_pos h0]; exact h0
    · rw [if_neg h0]
      have := round_less Y k hT h0
      exact ih (k + 1) _ (fun q hq => hT q (roundC_sub _ k D hq)) (by omega)
theorem close_none (k op n : Nat) : ∀ m i (x : Nat × DS), fld (closeS S k 0 op n) m i x = x := by
  intro m
  induction m with
  | zero => intro i x; rfl
  | succ m ih =>
    intro i x
    unfold fld
    have : closeS S k 0 op n x i = x := if_pos (by unfold ringP; rw [Nat.zero_testBit]; rfl)
    rw [this]
    exact ih (i + 1) x
end RNG
