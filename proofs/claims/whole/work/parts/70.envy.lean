/-! WHO COULD DO BETTER AMONG THEMSELVES: in how many ways a set can part its rooms, and rings of those who would rather have another's -/
def sum6 (T : Nat → Nat) : Nat := T 0 + T 1 + T 2 + T 3 + T 4 + T 5
theorem c6 {q : Nat} (h : q < 6) : q = 0 ∨ q = 1 ∨ q = 2 ∨ q = 3 ∨ q = 4 ∨ q = 5 := by omega
theorem sum6_congr {T T' : Nat → Nat} (h : ∀ q, q < 6 → T q = T' q) : sum6 T = sum6 T' := by
  unfold sum6
  rw [h 0 (by omega), h 1 (by omega), h 2 (by omega), h 3 (by omega), h 4 (by omega), h 5 (by omega)]
theorem sum6_ge {T : Nat → Nat} {q : Nat} (h : q < 6) : T q ≤ sum6 T := by
  unfold sum6
  rcases c6 h with rfl | rfl | rfl | rfl | rfl | rfl <;> omega
theorem sum6_ge2 {T : Nat → Nat} {q r : Nat} (h : q < 6) (h2 : r < 6) (hn : q ≠ r) : T q + T r ≤ sum6 T := by
  unfold sum6
  rcases c6 h with rfl | rfl | rfl | rfl | rfl | rfl <;> rcases c6 h2 with rfl | rfl | rfl | rfl | rfl | rfl <;> omega
theorem sum6_le {T : Nat → Nat} {b : Nat} (h : ∀ q, q < 6 → T q ≤ b) : sum6 T ≤ 6 * b := by
  have := h 0 (by omega); have := h 1 (by omega); have := h 2 (by omega); have := h 3 (by omega); have := h 4 (by omega); have := h 5 (by omega)
  unfold sum6; omega
theorem sum6_add {T T' : Nat → Nat} {q v : Nat} (h : q < 6) (h1 : T' q = T q + v) (h2 : ∀ r, r < 6 → r ≠ q → T' r = T r) : sum6 T' = sum6 T + v := by
  have a : ∀ r, r < 6 → r = q ∨ T' r = T r := fun r hr => by
    by_cases z : r = q
    · exact Or.inl z
    · exact Or.inr (h2 r hr z)
  have a0 := a 0 (by omega); have a1 := a 1 (by omega); have a2 := a 2 (by omega); have a3 := a 3 (by omega); have a4 := a 4 (by omega); have a5 := a 5 (by omega)
  unfold sum6
  rcases c6 h with rfl | rfl | rfl | rfl | rfl | rfl <;> omega
theorem sum6_one {T : Nat → Nat} {q : Nat} (h : q < 6) (h2 : ∀ r, r < 6 → r ≠ q → T r = 0) : sum6 T = T q := by
  have e := sum6_add (T := fun _ => 0) (T' := T) (v := T q) h (Nat.zero_add _).symm (fun r h3 h4 => h2 r h3 h4)
  rw [e]
  show 0 + 0 + 0 + 0 + 0 + 0 + T q = T q
  omega
theorem sum6_pos {T : Nat → Nat} (h : 0 < sum6 T) : ∃ q, q < 6 ∧ 0 < T q := by
  rcases Classical.em (∃ q, q < 6 ∧ 0 < T q) with z | z
  · exact z
  · have hz : ∀ q, q < 6 → T q ≤ 0 := fun q hq => Nat.not_lt.mp (fun w => z ⟨q, hq, w⟩)
    have := sum6_le hz
    omega
/-! sets below 64 -/
theorem ins64 : ∀ s, s < 64 → ∀ k, k < 6 → ins s k < 64 := by decide +kernel
theorem del64 : ∀ s, s < 64 → ∀ k, k < 6 → del s k < 64 := by decide +kernel
theorem delins : ∀ s, s < 64 → ∀ k, k < 6 → s.testBit k = false → del (ins s k) k = s := by decide +kernel
theorem insdel : ∀ s, s < 64 → ∀ k, k < 6 → s.testBit k = true → ins (del s k) k = s := by decide +kernel
theorem dellt : ∀ s, s < 64 → ∀ k, k < 6 → s.testBit k = true → del s k < s := by decide +kernel
theorem popins : ∀ s, s < 64 → ∀ k, k < 6 → s.testBit k = false → popN (ins s k) = popN s + 1 := by decide +kernel
theorem popdel : ∀ s, s < 64 → ∀ k, k < 6 → s.testBit k = true → popN s = popN (del s k) + 1 := by decide +kernel
theorem pop6 : ∀ s, s < 64 → popN s ≤ 6 ∧ (popN s = 0 → s = 0) := by decide +kernel
theorem pop_eq : ∀ s, s < 64 → ∀ t, t < 64 → s &&& t = s → popN s = popN t → s = t := by decide +kernel
theorem tb6 {s q : Nat} (hs : s < 64) (h : s.testBit q = true) : q < 6 := by
  rcases Nat.lt_or_ge q 6 with z | z
  · exact z
  · rw [Nat.testBit_lt_two_pow (Nat.lt_of_lt_of_le (show s < 2 ^ 6 by omega) (Nat.pow_le_pow_right (by omega) z))] at h
    cases h
theorem sub_and {s t : Nat} (h : ∀ j, s.testBit j = true → t.testBit j = true) : s &&& t = s := by
  refine Nat.eq_of_testBit_eq (fun j => ?_)
  rw [Nat.testBit_and]
  cases hj : s.testBit j with
  | false => rfl
  | true => rw [h j hj]; rfl
/-! the k-th of a set -/
def patL (set : Nat) : Nat → Nat → Nat → Option Nat
  | 0, _, _ => none
  | m + 1, i, k => if set.testBit i then (if k = 0 then some i else patL set m (i + 1) (k - 1)) else patL set m (i + 1) k
def pat (set k : Nat) : Option Nat := patL set 6 0 k
def mkp (σ : Nat → Nat) (set : Nat) : Nat → Nat
  | 0 => 0
  | k + 1 => match pat set k with
    | some p => ins (mkp σ set k) (σ p)
    | none => mkp σ set k
def pre (set k : Nat) : Nat := mkp (fun x => x) set k
def patOk (set k : Nat) : Bool := match pat set k with
  | some p => decide (p < 6) && set.testBit p && decide (k < popN set)
  | none => decide (popN set ≤ k)
theorem pat_ok : ∀ s, s < 64 → ∀ k, k < 7 → patOk s k = true := by decide +kernel
theorem pre_all : ∀ s, s < 64 → pre s (popN s) = s := by decide +kernel
def patSame (s j k : Nat) : Bool := (decide (pat s j = pat s k) && (pat s j).isSome) && !decide (j = k)
theorem pat_inj0 : ∀ s, s < 64 → ∀ j, j < 6 → ∀ k, k < 6 → patSame s j k = false := by decide +kernel
theorem pat_some {s k p : Nat} (hs : s < 64) (hk : k < 7) (h : pat s k = some p) : p < 6 ∧ s.testBit p = true ∧ k < popN s := by
  have := pat_ok s hs k hk
  unfold patOk at this
  rw [h] at this
  simp only [Bool.and_eq_true, decide_eq_true_eq] at this
  exact ⟨this.1.1, this.1.2, this.2⟩
theorem pat_lt {s k : Nat} (hs : s < 64) (h : k < popN s) : ∃ p, pat s k = some p ∧ p < 6 ∧ s.testBit p = true := by
  have h6 := (pop6 s hs).1
  have := pat_ok s hs k (by omega)
  unfold patOk at this
  cases hp : pat s k with
  | none => rw [hp] at this; simp only [decide_eq_true_eq] at this; omega
  | some p => exact ⟨p, rfl, (pat_some hs (by omega) hp).1, (pat_some hs (by omega) hp).2.1⟩
theorem pat_inj {s j k p : Nat} (hs : s < 64) (hj : j < 6) (hk : k < 6) (h1 : pat s j = some p) (h2 : pat s k = some p) : j = k := by
  have h := pat_inj0 s hs j hj k hk
  unfold patSame at h
  rw [h1, h2] at h
  simpa using h
section MKP
variable {σ : Nat → Nat} {set : Nat}
theorem mkp_s {k p : Nat} (h : pat set k = some p) : mkp σ set (k + 1) = ins (mkp σ set k) (σ p) := by
  show (match pat set k with | some p => ins (mkp σ set k) (σ p) | none => mkp σ set k) = _
  rw [h]
theorem mkp_lt (hs : set < 64) (h1 : ∀ p, set.testBit p = true → set.testBit (σ p) = true) : ∀ k, k ≤ popN set → mkp σ set k < 64 := by
  intro k
  induction k with
  | zero => intro _; show (0 : Nat) < 64; omega
  | succ k ih =>
    intro hk
    obtain ⟨p, hp, -, hp2⟩ := pat_lt hs (show k < popN set by omega)
    rw [mkp_s hp]
    exact ins64 _ (ih (by omega)) _ (tb6 hs (h1 p hp2))
theorem mkp_tb (hs : set < 64) : ∀ k, k ≤ popN set → ∀ x, (mkp σ set k).testBit x = true → ∃ j p, j < k ∧ pat set j = some p ∧ σ p = x := by
  intro k
  induction k with
  | zero => intro _ x hx; have hx : (0 : Nat).testBit x = true := hx; rw [Nat.zero_testBit] at hx; cases hx
  | succ k ih =>
    intro hk x hx
    obtain ⟨p, hp, -, hp2⟩ := pat_lt hs (show k < popN set by omega)
    rw [mkp_s hp, tb_ins] at hx
    by_cases hxp : x = σ p
    · exact ⟨k, p, by omega, hp, hxp.symm⟩
    · obtain ⟨j, q, h1, h2, h3⟩ := ih (by omega) x (by simpa [hxp] using hx)
      exact ⟨j, q, by omega, h2, h3⟩
theorem mkp_new (hs : set < 64) (hi : ∀ p q, set.testBit p = true → set.testBit q = true → σ p = σ q → p = q) {k p : Nat} (hk : k < popN set) (hp : pat set k = some p) : (mkp σ set k).testBit (σ p) = false := by
  have h6 := (pop6 set hs).1
  cases hb : (mkp σ set k).testBit (σ p) with
  | false => rfl
  | true =>
    exfalso
    obtain ⟨j, q, h1, h2, h3⟩ := mkp_tb hs k (by omega) _ hb
    have hq := pat_some hs (by omega) h2
    have hp' := pat_some hs (by omega) hp
    have := hi q p hq.2.1 hp'.2.1 h3
    subst this
    have := pat_inj hs (by omega) (by omega) h2 hp
    omega
theorem mkp_pop (hs : set < 64) (h1 : ∀ p, set.testBit p = true → set.testBit (σ p) = true) (hi : ∀ p q, set.testBit p = true → set.testBit q = true → σ p = σ q → p = q) : ∀ k, k ≤ popN set → popN (mkp σ set k) = k := by
  intro k
  induction k with
  | zero => intro _; show popN 0 = 0; decide
  | succ k ih =>
    intro hk
    obtain ⟨p, hp, -, hp2⟩ := pat_lt hs (show k < popN set by omega)
    rw [mkp_s hp, popins _ (mkp_lt hs h1 k (by omega)) _ (tb6 hs (h1 p hp2)) (mkp_new hs hi (by omega) hp), ih (by omega)]
theorem mkp_all (hs : set < 64) (h1 : ∀ p, set.testBit p = true → set.testBit (σ p) = true) (hi : ∀ p q, set.testBit p = true → set.testBit q = true → σ p = σ q → p = q) : mkp σ set (popN set) = set := by
  have h6 := (pop6 set hs).1
  refine pop_eq _ (mkp_lt hs h1 _ (Nat.le_refl _)) _ hs (sub_and (fun x hx => ?_)) (mkp_pop hs h1 hi _ (Nat.le_refl _))
  obtain ⟨j, q, h2, h3, h4⟩ := mkp_tb hs _ (Nat.le_refl _) x hx
  rw [← h4]
  exact h1 q (pat_some hs (by omega) h3).2.1
end MKP
/-! in how many ways -/
def ctb (ok : Nat → Nat → Bool) (set k q : Nat) : Bool := match pat set k with
  | some p => set.testBit q && ok p q
  | none => false
def UU (ok : Nat → Nat → Bool) (set : Nat) : Nat → Nat → Nat
  | 0, G => if G = 0 then 1 else 0
  | k + 1, G => sum6 (fun q => if (G.testBit q && ctb ok set k q) = true then UU ok set k (del G q) else 0)
section UUS
variable {ok : Nat → Nat → Bool} {set : Nat}
theorem ctb_s {k p q : Nat} (h : pat set k = some p) : ctb ok set k q = (set.testBit q && ok p q) := by
  unfold ctb; rw [h]
theorem uu_b : ∀ k G, UU ok set k G ≤ 6 ^ k := by
  intro k
  induction k with
  | zero => intro G; show (if G = 0 then 1 else 0) ≤ 1; split <;> omega
  | succ k ih =>
    intro G
    have : UU ok set (k + 1) G ≤ 6 * 6 ^ k := sum6_le (fun q _ => by
      show (if (G.testBit q && ctb ok set k q) = true then UU ok set k (del G q) else 0) ≤ _
      split
      · exact ih _
      · exact Nat.zero_le _)
    rw [Nat.pow_succ]; omega
def tw (t : Nat → Nat) (G : Nat) : Nat := sum6 (fun q => if G.testBit q = true then t q else 0)
theorem tw_ins {t : Nat → Nat} {G q : Nat} (hq : q < 6) (hb : G.testBit q = false) : tw t (ins G q) = tw t G + t q := by
  refine sum6_add hq ?_ (fun r hr hrq => ?_)
  · show (if (ins G q).testBit q = true then t q else 0) = (if G.testBit q = true then t q else 0) + t q
    rw [tb_ins, hb]; simp
  · show (if (ins G q).testBit r = true then t r else 0) = if G.testBit r = true then t r else 0
    rw [tb_ins]; simp [hrq]
theorem tw_del {t : Nat → Nat} {G q : Nat} (hG : G < 64) (hq : q < 6) (hb : G.testBit q = true) : tw t G = tw t (del G q) + t q := by
  have h := tw_ins (t := t) (G := del G q) hq (by rw [tb_del (by omega) (by omega)]; simp)
  rw [insdel G hG q hq hb] at h
  exact h
theorem uu_up (hs : set < 64) {t : Nat → Nat} (ht : ∀ p q, set.testBit p = true → set.testBit q = true → ok p q = true → q = p ∨ t q < t p) : ∀ k, k ≤ popN set → ∀ G, G < 64 → 0 < UU ok set k G → tw t G ≤ tw t (pre set k) ∧ (tw t G = tw t (pre set k) → G = pre set k ∧ UU ok set k G = 1) := by
  intro k
  induction k with
  | zero =>
    intro _ G hG h0
    have h0 : 0 < if G = 0 then 1 else 0 := h0
    by_cases z : G = 0
    · subst z
      exact ⟨Nat.le_refl _, fun _ => ⟨rfl, rfl⟩⟩
    · rw [if_neg z] at h0; omega
  | succ k ih =>
    intro hk G hG h0
    obtain ⟨p, hp, hp6, hps⟩ := pat_lt hs (show k < popN set by omega)
    have hpre : pre set (k + 1) = ins (pre set k) p := mkp_s hp
    have hnew : (pre set k).testBit p = false := mkp_new (σ := fun x => x) hs (fun _ _ _ _ h => h) (by omega) hp
    have htw : tw t (pre set (k + 1)) = tw t (pre set k) + t p := by rw [hpre]; exact tw_ins hp6 hnew
    have key : ∀ q, q < 6 → (if (G.testBit q && ctb ok set k q) = true then UU ok set k (del G q) else 0) ≠ 0 → G.testBit q = true ∧ tw t G = tw t (del G q) + t q ∧ tw t (del G q) ≤ tw t (pre set k) ∧ (q = p ∨ t q < t p) ∧ (tw t (del G q) = tw t (pre set k) → del G q = pre set k ∧ UU ok set k (del G q) = 1) := by
      intro q hq hne
      by_cases hc : (G.testBit q && ctb ok set k q) = true
      · rw [if_pos hc] at hne
        rw [ctb_s hp] at hc
        simp only [Bool.and_eq_true] at hc
        obtain ⟨b1, b2, b3⟩ := hc
        obtain ⟨i1, i2⟩ := ih (by omega) (del G q) (del64 G hG q hq) (Nat.pos_of_ne_zero hne)
        exact ⟨b1, tw_del hG hq b1, i1, ht p q hps b2 b3, i2⟩
      · rw [if_neg hc] at hne; exact absurd rfl hne
    obtain ⟨q, hq, hqp⟩ := sum6_pos h0
    have hqp : 0 < if (G.testBit q && ctb ok set k q) = true then UU ok set k (del G q) else 0 := hqp
    have K := key q hq (by omega)
    refine ⟨?_, fun he => ?_⟩
    · obtain ⟨-, k2, k3, k4, -⟩ := K
      rcases k4 with rfl | k4 <;> omega
    · have only : ∀ r, r < 6 → (if (G.testBit r && ctb ok set k r) = true then UU ok set k (del G r) else 0) ≠ 0 → r = p ∧ del G r = pre set k ∧ UU ok set k (del G r) = 1 := by
        intro r hr hne
        obtain ⟨k1, k2, k3, k4, k5⟩ := key r hr hne
        rcases k4 with rfl | k4
        · exact ⟨rfl, k5 (by omega)⟩
        · omega
      obtain ⟨rfl, o2, o3⟩ := only q hq (by omega)
      refine ⟨by rw [hpre, ← o2]; exact (insdel G hG q hq K.1).symm, ?_⟩
      show sum6 (fun q => if (G.testBit q && ctb ok set k q) = true then UU ok set k (del G q) else 0) = 1
      rw [sum6_one hq (fun r hr hrq => by
        rcases Nat.eq_zero_or_pos (if (G.testBit r && ctb ok set k r) = true then UU ok set k (del G r) else 0) with z | z
        · exact z
        · exact absurd (only r hr (by omega)).1 hrq)]
      by_cases hc : (G.testBit q && ctb ok set k q) = true
      · rw [if_pos hc]; exact o3
      · rw [if_neg hc] at hqp; omega
theorem uu_le (hs : set < 64) {t : Nat → Nat} (ht : ∀ p q, set.testBit p = true → set.testBit q = true → ok p q = true → q = p ∨ t q < t p) : UU ok set (popN set) set ≤ 1 := by
  rcases Nat.eq_zero_or_pos (UU ok set (popN set) set) with z | z
  · omega
  · have := (uu_up hs ht (popN set) (Nat.le_refl _) set hs z).2 (by rw [pre_all set hs])
    omega
theorem uu_step {k G q : Nat} (hG : G < 64) (hq : q < 6) (hb : G.testBit q = false) (hc : ctb ok set k q = true) : (if ((ins G q).testBit q && ctb ok set k q) = true then UU ok set k (del (ins G q) q) else 0) = UU ok set k G := by
  rw [if_pos (by rw [hc, tb_ins]; simp), delins G hG q hq hb]
theorem uu_one {σ : Nat → Nat} (hs : set < 64) (h1 : ∀ p, set.testBit p = true → set.testBit (σ p) = true ∧ ok p (σ p) = true) (hi : ∀ p q, set.testBit p = true → set.testBit q = true → σ p = σ q → p = q) : ∀ k, k ≤ popN set → 1 ≤ UU ok set k (mkp σ set k) := by
  intro k
  induction k with
  | zero => intro _; exact Nat.le_refl _
  | succ k ih =>
    intro hk
    obtain ⟨p, hp, hp6, hps⟩ := pat_lt hs (show k < popN set by omega)
    have hq := h1 p hps
    have e := uu_step (ok := ok) (set := set) (k := k) (mkp_lt hs (fun p hp => (h1 p hp).1) k (by omega)) (tb6 hs hq.1) (mkp_new hs hi (by omega) hp) (by rw [ctb_s hp, hq.1, hq.2]; rfl)
    have g := sum6_ge (T := fun q => if ((mkp σ set (k + 1)).testBit q && ctb ok set k q) = true then UU ok set k (del (mkp σ set (k + 1)) q) else 0) (tb6 hs hq.1)
    have g : (if ((mkp σ set (k + 1)).testBit (σ p) && ctb ok set k (σ p)) = true then UU ok set k (del (mkp σ set (k + 1)) (σ p)) else 0) ≤ UU ok set (k + 1) (mkp σ set (k + 1)) := g
    rw [mkp_s hp, e] at g
    rw [mkp_s hp]
    exact Nat.le_trans (ih (by omega)) g
theorem uu_two {σ : Nat → Nat} (hs : set < 64) (h1 : ∀ p, set.testBit p = true → set.testBit (σ p) = true ∧ ok p (σ p) = true) (hi : ∀ p q, set.testBit p = true → set.testBit q = true → σ p = σ q → p = q) (h0 : ∀ p, set.testBit p = true → ok p p = true) : ∀ k, k ≤ popN set → mkp σ set k = pre set k → (∃ j p, j < k ∧ pat set j = some p ∧ σ p ≠ p) → 2 ≤ UU ok set k (pre set k) := by
  have one := fun k hk => uu_one (ok := ok) (σ := fun x => x) hs (fun p hp => ⟨hp, h0 p hp⟩) (fun _ _ _ _ h => h) k hk
  intro k
  induction k with
  | zero => intro _ _ ⟨j, p, h, _⟩; omega
  | succ k ih =>
    intro hk he ⟨j, x, hj, hx, hxn⟩
    obtain ⟨p, hp, hp6, hps⟩ := pat_lt hs (show k < popN set by omega)
    have hq := h1 p hps
    have e := uu_step (ok := ok) (set := set) (k := k) (mkp_lt hs (fun p hp => (h1 p hp).1) k (by omega)) (tb6 hs hq.1) (mkp_new hs hi (by omega) hp) (by rw [ctb_s hp, hq.1, hq.2]; rfl)
    have e2 := uu_step (ok := ok) (set := set) (k := k) (mkp_lt (σ := fun x => x) hs (fun p hp => hp) k (by omega)) hp6 (mkp_new (σ := fun x => x) hs (fun _ _ _ _ h => h) (by omega) hp) (by rw [ctb_s hp, hps, h0 p hps]; rfl)
    have hm : ins (mkp σ set k) (σ p) = pre set (k + 1) := by rw [← he, mkp_s hp]
    have hm2 : ins (mkp (fun x => x) set k) p = pre set (k + 1) := (mkp_s (σ := fun x => x) hp).symm
    rw [hm] at e
    rw [hm2] at e2
    by_cases hpp : σ p = p
    · have hmk : mkp σ set k = pre set k := by
        have d1 := delins _ (mkp_lt hs (fun p hp => (h1 p hp).1) k (by omega)) _ (tb6 hs hq.1) (mkp_new hs hi (by omega) hp)
        have d2 := delins _ (mkp_lt (σ := fun x => x) hs (fun p hp => hp) k (by omega)) _ hp6 (mkp_new (σ := fun x => x) hs (fun _ _ _ _ h => h) (by omega) hp)
        rw [hm, hpp] at d1
        rw [hm2] at d2
        exact d1.symm.trans d2
      have hjk : j ≠ k := fun z => by
        subst z
        rw [hp] at hx
        cases hx
        exact hxn hpp
      have := ih (by omega) hmk ⟨j, x, by omega, hx, hxn⟩
      have g := sum6_ge (T := fun q => if ((pre set (k + 1)).testBit q && ctb ok set k q) = true then UU ok set k (del (pre set (k + 1)) q) else 0) hp6
      have g : (if ((pre set (k + 1)).testBit p && ctb ok set k p) = true then UU ok set k (del (pre set (k + 1)) p) else 0) ≤ UU ok set (k + 1) (pre set (k + 1)) := g
      rw [e2] at g
      exact Nat.le_trans this g
    · have g := sum6_ge2 (T := fun q => if ((pre set (k + 1)).testBit q && ctb ok set k q) = true then UU ok set k (del (pre set (k + 1)) q) else 0) (tb6 hs hq.1) hp6 hpp
      have g : (if ((pre set (k + 1)).testBit (σ p) && ctb ok set k (σ p)) = true then UU ok set k (del (pre set (k + 1)) (σ p)) else 0) + (if ((pre set (k + 1)).testBit p && ctb ok set k p) = true then UU ok set k (del (pre set (k + 1)) p) else 0) ≤ UU ok set (k + 1) (pre set (k + 1)) := g
      rw [e, e2] at g
      have a1 := uu_one hs h1 hi k (by omega)
      have a2 := one k (by omega)
      omega
theorem uu_ge {σ : Nat → Nat} (hs : set < 64) (h1 : ∀ p, set.testBit p = true → set.testBit (σ p) = true ∧ ok p (σ p) = true) (hi : ∀ p q, set.testBit p = true → set.testBit q = true → σ p = σ q → p = q) (h0 : ∀ p, set.testBit p = true → ok p p = true) {x : Nat} (hx : set.testBit x = true) (hxn : σ x ≠ x) : 2 ≤ UU ok set (popN set) set := by
  have hall := mkp_all hs (fun p hp => (h1 p hp).1) hi
  have h := uu_two hs h1 hi h0 (popN set) (Nat.le_refl _) (by rw [hall, pre_all set hs])
  rw [pre_all set hs] at h
  refine h ?_
  have hall2 := pre_all set hs
  obtain ⟨j, p, j1, j2, j3⟩ := mkp_tb (σ := fun x => x) hs (popN set) (Nat.le_refl _) x (by show (pre set (popN set)).testBit x = true; rw [hall2]; exact hx)
  have j3 : p = x := j3
  exact ⟨j, p, j1, j2, by rw [j3]; exact hxn⟩
end UUS
/-! rings by striking out -/
def elim (E : Nat → Nat) (rest p : Nat) : Nat := if rest.testBit p = true ∧ E p &&& rest = 0 then del rest p else rest
def pass (E : Nat → Nat) (rest : Nat) : Nat := fld (elim E) 6 0 rest
def core6 (E : Nat → Nat) : Nat → Nat → Nat
  | 0, r => r
  | n + 1, r => core6 E n (pass E r)
section ELI
variable {E : Nat → Nat}
theorem elim_sub {r p j : Nat} (h : (elim E r p).testBit j = true) : r.testBit j = true := by
  unfold elim at h
  split at h
  · unfold del at h
    rw [Nat.testBit_and] at h
    simp only [Bool.and_eq_true] at h
    exact h.1
  · exact h
theorem elim_lt {r p : Nat} (h : r < 64) : elim E r p < 64 := by
  unfold elim
  split
  · exact Nat.lt_of_le_of_lt Nat.and_le_left h
  · exact h
theorem fel_sub : ∀ m i r j, (fld (elim E) m i r).testBit j = true → r.testBit j = true := by
  intro m
  induction m with
  | zero => intro i r j h; exact h
  | succ m ih => intro i r j h; exact elim_sub (ih (i + 1) _ j h)
theorem fel_lt : ∀ m i r, r < 64 → fld (elim E) m i r < 64 := by
  intro m
  induction m with
  | zero => intro i r h; exact h
  | succ m ih => intro i r h; exact ih (i + 1) _ (elim_lt h)
theorem core_sub : ∀ n r j, (core6 E n r).testBit j = true → r.testBit j = true := by
  intro n
  induction n with
  | zero => intro r j h; exact h
  | succ n ih => intro r j h; exact fel_sub 6 0 r j (ih _ j h)
/-- an order in which they were struck out -/
def Ord (E : Nat → Nat) (r : Nat) : Prop := ∃ t : Nat → Nat, ∀ p q, r.testBit p = true → r.testBit q = true → (E p).testBit q = true → t q < t p
theorem ord_elim {r p : Nat} (hp : p < 6) (hr : r < 64) (h : Ord E (elim E r p)) : Ord E r := by
  unfold elim at h
  by_cases hc : r.testBit p = true ∧ E p &&& r = 0
  · rw [if_pos hc] at h
    obtain ⟨t, ht⟩ := h
    refine ⟨fun x => if x = p then 0 else t x + 1, fun x y hx hy he => ?_⟩
    have hx6 := tb6 hr hx
    have hy6 := tb6 hr hy
    show (if y = p then 0 else t y + 1) < if x = p then 0 else t x + 1
    by_cases hxp : x = p
    · subst hxp
      exfalso
      have : (E x &&& r).testBit y = true := by rw [Nat.testBit_and, he, hy]; rfl
      rw [hc.2, Nat.zero_testBit] at this
      cases this
    · rw [if_neg hxp]
      by_cases hyp : y = p
      · rw [if_pos hyp]; omega
      · rw [if_neg hyp]
        have := ht x y (by rw [tb_del (by omega) (by omega), hx]; simp [hxp]) (by rw [tb_del (by omega) (by omega), hy]; simp [hyp]) he
        omega
  · rw [if_neg hc] at h; exact h
theorem ord_fel : ∀ m i r, i + m ≤ 6 → r < 64 → Ord E (fld (elim E) m i r) → Ord E r := by
  intro m
  induction m with
  | zero => intro i r _ _ h; exact h
  | succ m ih => intro i r hi hr h; exact ord_elim (by omega) hr (ih (i + 1) _ (by omega) (elim_lt hr) h)
theorem ord_core : ∀ n r, r < 64 → Ord E (core6 E n r) → Ord E r := by
  intro n
  induction n with
  | zero => intro r _ h; exact h
  | succ n ih => intro r hr h; exact ord_fel 6 0 r (by omega) hr (ih _ (fel_lt 6 0 r hr) h)
theorem cnt_le {s t : Nat} (h : ∀ j, t.testBit j = true → s.testBit j = true) : cnt t ≤ cnt s := by
  have k0 := b01_le h 0
  have k1 := b01_le h 1
  have k2 := b01_le h 2
  have k3 := b01_le h 3
  have k4 := b01_le h 4
  have k5 := b01_le h 5
  unfold cnt; omega
theorem fel_or : ∀ m i r, i + m = 6 → r < 64 → (∀ p, i ≤ p → p < 6 → r.testBit p = true → E p &&& r ≠ 0) ∨ cnt (fld (elim E) m i r) < cnt r := by
  intro m
  induction m with
  | zero => intro i r hi hr; exact Or.inl (fun p h1 h2 => by omega)
  | succ m ih =>
    intro i r hi hr
    by_cases hc : r.testBit i = true ∧ E i &&& r = 0
    · right
      refine cnt_lt (p := i) (fun j hj => fel_sub (m + 1) i r j hj) (by omega) hc.1 (fun z => ?_)
      have z : (fld (elim E) m (i + 1) (elim E r i)).testBit i = true := z
      have z := fel_sub m (i + 1) _ i z
      unfold elim at z
      rw [if_pos hc, tb_del (by omega) (by omega)] at z
      simp at z
    · have he : elim E r i = r := by unfold elim; rw [if_neg hc]
      rcases ih (i + 1) r (by omega) hr with z | z
      · left
        intro p h1 h2 h3 h4
        by_cases hpi : p = i
        · subst hpi; exact hc ⟨h3, h4⟩
        · exact z p (by omega) h2 h3 h4
      · right
        show cnt (fld (elim E) m (i + 1) (elim E r i)) < cnt r
        rw [he]; exact z
theorem core_some : ∀ n r, r < 64 → cnt r ≤ n → core6 E n r ≠ 0 → ∃ C, C < 64 ∧ C ≠ 0 ∧ (∀ j, C.testBit j = true → r.testBit j = true) ∧ ∀ p, C.testBit p = true → E p &&& C ≠ 0 := by
  intro n
  induction n with
  | zero =>
    intro r hr hc h0
    exfalso
    obtain ⟨q, hq⟩ := tb_some (show r ≠ 0 from h0)
    have := cnt_lt (s := r) (t := 0) (p := q) (fun j hj => by rw [Nat.zero_testBit] at hj; cases hj) (tb6 hr hq) hq (by rw [Nat.zero_testBit]; decide)
    omega
  | succ n ih =>
    intro r hr hc h0
    rcases fel_or (E := E) 6 0 r (by omega) hr with z | z
    · obtain ⟨q, hq⟩ := tb_some h0
      refine ⟨r, hr, fun w => ?_, fun j hj => hj, fun p hp => z p (by omega) (tb6 hr hp) hp⟩
      have := core_sub (n + 1) r q hq
      rw [w, Nat.zero_testBit] at this
      cases this
    · obtain ⟨C, c1, c2, c3, c4⟩ := ih (pass E r) (fel_lt 6 0 r hr) (by unfold pass; omega) h0
      exact ⟨C, c1, c2, fun j hj => fel_sub 6 0 r j (c3 j hj), c4⟩
/-- who goes round -/
theorem core_turn {C : Nat} (hC : C < 64) (h0 : C ≠ 0) (hE : ∀ p, C.testBit p = true → E p &&& C ≠ 0) (hirr : ∀ p, C.testBit p = true → (E p).testBit p = false) : ∃ σ : Nat → Nat, (∀ p, C.testBit p = true → C.testBit (σ p) = true) ∧ (∀ p, σ p = p ∨ (C.testBit p = true ∧ (E p).testBit (σ p) = true)) ∧ (∀ p q, σ p = σ q → p = q) ∧ ∃ x, C.testBit x = true ∧ σ x ≠ x := by
  obtain ⟨f, hf⟩ : ∃ f : Nat → Nat, ∀ p, C.testBit p = true → (E p).testBit (f p) = true ∧ C.testBit (f p) = true := by
    refine ⟨fun p => (fnd (fun q => (E p &&& C).testBit q) 6 0).getD p, fun p hp => ?_⟩
    show (E p).testBit ((fnd (fun q => (E p &&& C).testBit q) 6 0).getD p) = true ∧ C.testBit ((fnd (fun q => (E p &&& C).testBit q) 6 0).getD p) = true
    cases hn : fnd (fun q => (E p &&& C).testBit q) 6 0 with
    | some q =>
      have h3 : (E p &&& C).testBit q = true := (fnd_lt hn).2.2
      rw [Nat.testBit_and] at h3
      simp only [Bool.and_eq_true] at h3
      exact h3
    | none =>
      exfalso
      obtain ⟨q, hq⟩ := tb_some (hE p hp)
      have hq6 := tb6 (s := E p &&& C) (Nat.lt_of_le_of_lt Nat.and_le_right hC) hq
      have h3 : (E p &&& C).testBit q = false := fnd_none hn q (by omega) (by omega)
      rw [hq] at h3
      cases h3
  obtain ⟨p0, hp0⟩ := tb_some h0
  have stay : ∀ j p, C.testBit p = true → C.testBit (itf f j p) = true := by
    intro j
    induction j with
    | zero => intro p hp; exact hp
    | succ j ih => intro p hp; exact ih (f p) (hf p hp).2
  obtain ⟨a, b, hab, -, e⟩ := pigeon (g := fun j => itf f j p0) (P := 6) (fun j _ => tb6 hC (stay j p0 hp0))
  have e : itf f a p0 = itf f b p0 := e
  obtain ⟨x, hx⟩ : ∃ x, x = itf f a p0 := ⟨_, rfl⟩
  obtain ⟨d, hd⟩ : ∃ d, b = (d + 1) + a := ⟨b - a - 1, by omega⟩
  have hxC : C.testBit x = true := by rw [hx]; exact stay a p0 hp0
  have hper : itf f (d + 1) x = x := by rw [hx, ← itf_add, ← hd, e]
  -- those who go round
  have back : ∀ j, itf f (d + 1) (itf f j x) = itf f j x := fun j => by rw [← itf_add, Nat.add_comm, itf_add, hper]
  have nxt : ∀ y, (∃ j, itf f j x = y) → ∃ j, itf f j x = f y := fun y ⟨j, hj⟩ => ⟨1 + j, by rw [itf_add, hj]; rfl⟩
  have inC : ∀ y, (∃ j, itf f j x = y) → C.testBit y = true := fun y ⟨j, hj⟩ => by rw [← hj]; exact stay j x hxC
  have inj : ∀ y z, (∃ j, itf f j x = y) → (∃ j, itf f j x = z) → f y = f z → y = z := by
    intro y z ⟨i, hi⟩ ⟨j, hj⟩ he
    have h1 := back i
    have h2 := back j
    rw [hi] at h1
    rw [hj] at h2
    have h1 : itf f d (f y) = y := h1
    have h2 : itf f d (f z) = z := h2
    rw [← h1, he, h2]
  obtain ⟨σ, hσ⟩ : ∃ σ : Nat → Nat, ∀ y, ((∃ j, itf f j x = y) → σ y = f y) ∧ (¬ (∃ j, itf f j x = y) → σ y = y) := ⟨fun y => @ite _ (∃ j, itf f j x = y) (Classical.propDecidable _) (f y) y, fun y => ⟨fun h => if_pos h, fun h => if_neg h⟩⟩
  refine ⟨σ, fun p hp => ?_, fun p => ?_, fun p q he => ?_, x, hxC, fun he => ?_⟩
  · rcases Classical.em (∃ j, itf f j x = p) with z | z
    · rw [(hσ p).1 z]; exact (hf p hp).2
    · rw [(hσ p).2 z]; exact hp
  · rcases Classical.em (∃ j, itf f j x = p) with z | z
    · rw [(hσ p).1 z]; exact Or.inr ⟨inC p z, (hf p (inC p z)).1⟩
    · exact Or.inl ((hσ p).2 z)
  · rcases Classical.em (∃ j, itf f j x = p) with z | z
    · rcases Classical.em (∃ j, itf f j x = q) with w | w
      · rw [(hσ p).1 z, (hσ q).1 w] at he
        exact inj p q z w he
      · rw [(hσ p).1 z, (hσ q).2 w] at he
        exact absurd (by rw [← he]; exact nxt p z) w
    · rcases Classical.em (∃ j, itf f j x = q) with w | w
      · rw [(hσ p).2 z, (hσ q).1 w] at he
        exact absurd (by rw [he]; exact nxt q w) z
      · rw [(hσ p).2 z, (hσ q).2 w] at he
        exact he
  · rw [(hσ x).1 ⟨0, rfl⟩] at he
    have h1 := (hf x hxC).1
    rw [he, hirr x hxC] at h1
    cases h1
end ELI
/-- a set can part its rooms otherwise just if some of it go round -/
theorem ring_iff {E : Nat → Nat} {ok : Nat → Nat → Bool} {set : Nat} (hs : set < 64) (hok : ∀ p q, set.testBit p = true → set.testBit q = true → (ok p q = true ↔ q = p ∨ (E p).testBit q = true)) (hirr : ∀ p, set.testBit p = true → (E p).testBit p = false) : 2 ≤ UU ok set (popN set) set ↔ core6 E 6 set ≠ 0 := by
  constructor
  · intro h2 hz
    obtain ⟨t, ht⟩ := ord_core (E := E) 6 set hs (by rw [hz]; exact ⟨fun _ => 0, fun p q hp => by rw [Nat.zero_testBit] at hp; cases hp⟩)
    have := uu_le (ok := ok) hs (t := t) (fun p q hp hq ho => by
      rcases (hok p q hp hq).mp ho with z | z
      · exact Or.inl z
      · exact Or.inr (ht p q hp hq z))
    omega
  · intro hz
    obtain ⟨C, c1, c2, c3, c4⟩ := core_some (E := E) 6 set hs (cnt_6 set) hz
    obtain ⟨σ, s1, s2, s3, x, x1, x2⟩ := core_turn c1 c2 c4 (fun p hp => hirr p (c3 p hp))
    refine uu_ge (σ := σ) hs (fun p hp => ?_) (fun p q _ _ h => s3 p q h) (fun p hp => (hok p p hp hp).mpr (Or.inl rfl)) (c3 x x1) x2
    rcases s2 p with z | ⟨z1, z2⟩
    · rw [z]; exact ⟨hp, (hok p p hp hp).mpr (Or.inl rfl)⟩
    · have := c3 _ (s1 p z1)
      exact ⟨this, (hok p _ hp this).mpr (Or.inr z2)⟩
