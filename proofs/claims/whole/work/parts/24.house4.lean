/-! rows moved by one; lists behind them -/
def shL (f : Nat → Int32) (lo hi : Nat) : Nat → Int32 := fun j => if lo ≤ j ∧ j < hi then f (j + 1) else f j
def insR (f : Nat → Int32) (lo hi : Nat) (x : Int32) : Nat → Int32 := fun j => if j = lo then x else if lo < j ∧ j ≤ hi then f (j - 1) else f j
theorem shL_0 (f : Nat → Int32) {lo hi : Nat} (h : hi ≤ lo) : shL f lo hi = f := funext fun j => if_neg (by omega)
theorem shL_s (f : Nat → Int32) {lo hi : Nat} (h : lo < hi) : shL (upd f lo (f (lo + 1))) (lo + 1) hi = shL f lo hi := by
  funext j
  unfold shL upd
  (repeat' split) <;> first | rfl | (exfalso; omega) | (congr 1; omega)
theorem insR_0 (f : Nat → Int32) (lo : Nat) (x : Int32) : insR f lo lo x = upd f lo x := by
  funext j
  unfold insR upd
  by_cases h1 : j = lo
  · rw [if_pos h1, if_pos h1]
  · rw [if_neg h1, if_neg h1, if_neg (by omega)]
theorem insR_s (f : Nat → Int32) {lo hi : Nat} (x : Int32) (h : lo ≤ hi) : insR (upd f (hi + 1) (f hi)) lo hi x = insR f lo (hi + 1) x := by
  funext j
  unfold insR upd
  (repeat' split) <;> first | rfl | (exfalso; omega) | (congr 1; omega)
def RWl (f : Nat → Int32) (b : Nat) (l : List Nat) : Prop := ∀ j x, l[j]? = some x → f (b + j) = nI x
def insC (k r : Nat) (l : List Nat) : List Nat := l.take k ++ r :: l.drop k
theorem insC_get {k r j x : Nat} {l : List Nat} (hk : k ≤ l.length) (h : (insC k r l)[j]? = some x) : (j < k ∧ l[j]? = some x) ∨ (j = k ∧ x = r) ∨ (k < j ∧ l[j - 1]? = some x) := by
  unfold insC at h
  have hl : (l.take k).length = k := by rw [List.length_take]; omega
  rcases Nat.lt_trichotomy j k with q | q | q
  · rw [List.getElem?_append_left (by omega), List.getElem?_take_of_lt q] at h
    exact Or.inl ⟨q, h⟩
  · rw [List.getElem?_append_right (by omega), hl, q, Nat.sub_self] at h
    cases h
    exact Or.inr (Or.inl ⟨q, rfl⟩)
  · rw [List.getElem?_append_right (by omega), hl] at h
    obtain ⟨d, rfl⟩ : ∃ d, j = k + 1 + d := ⟨j - k - 1, by omega⟩
    rw [show k + 1 + d - k = d + 1 by omega, List.getElem?_cons_succ, List.getElem?_drop] at h
    exact Or.inr (Or.inr ⟨q, by rw [show k + 1 + d - 1 = k + d by omega]; exact h⟩)
theorem insC_len {k r : Nat} {l : List Nat} (hk : k ≤ l.length) : (insC k r l).length = l.length + 1 := by
  unfold insC
  rw [List.length_append, List.length_take, List.length_cons, List.length_drop]
  omega
theorem cl_drop {f : Nat → Int32} {b k : Nat} {l : List Nat} (hf : RWl f b l) (hk : k < l.length) : RWl (shL f (b + k) (b + (l.length - 1))) b (l.eraseIdx k) := by
  intro j x hj
  have hjl := (List.getElem?_eq_some_iff.mp hj).1
  rw [List.length_eraseIdx, if_pos hk] at hjl
  rw [List.getElem?_eraseIdx] at hj
  unfold shL
  by_cases h1 : j < k
  · rw [if_pos h1] at hj
    rw [if_neg (by omega)]
    exact hf j x hj
  · rw [if_neg h1] at hj
    rw [if_pos (by omega), Nat.add_assoc]
    exact hf (j + 1) x hj
theorem cl_ins {f : Nat → Int32} {b k r : Nat} {l : List Nat} (hf : RWl f b l) (hk : k ≤ l.length) : RWl (insR f (b + k) (b + l.length) (nI r)) b (insC k r l) := by
  intro j x hj
  have hjl := (List.getElem?_eq_some_iff.mp hj).1
  rw [insC_len hk] at hjl
  unfold insR
  rcases insC_get hk hj with ⟨h1, h2⟩ | ⟨h1, h2⟩ | ⟨h1, h2⟩
  · rw [if_neg (by omega), if_neg (by omega)]; exact hf j x h2
  · rw [if_pos (by omega), h2]
  · rw [if_neg (by omega), if_pos (by omega), show b + j - 1 = b + (j - 1) by omega]
    exact hf (j - 1) x h2
/-- a member moved to another place -/
theorem cl_mov {f : Nat → Int32} {k t p : Nat} {l : List Nat} (hf : RWl f 0 l) (hk : l[k]? = some p) (ht : t < l.length) : RWl (if k ≤ t then upd (shL f k t) t (nI p) else insR f t k (nI p)) 0 (insC t p (l.eraseIdx k)) := by
  have hkl := (List.getElem?_eq_some_iff.mp hk).1
  have hel : (l.eraseIdx k).length = l.length - 1 := by rw [List.length_eraseIdx, if_pos hkl]
  intro j x hj
  have hjl := (List.getElem?_eq_some_iff.mp hj).1
  rw [insC_len (by omega)] at hjl
  have hg := insC_get (by omega) hj
  rw [List.getElem?_eraseIdx, List.getElem?_eraseIdx] at hg
  rw [Nat.zero_add]
  have hf : ∀ j x, l[j]? = some x → f j = nI x := fun j x h => by have := hf j x h; rwa [Nat.zero_add] at this
  by_cases hkt : k ≤ t
  · rw [if_pos hkt]
    unfold upd shL
    rcases hg with ⟨h1, h2⟩ | ⟨h1, h2⟩ | ⟨h1, h2⟩
    · rw [if_neg (by omega)]
      by_cases h3 : j < k
      · rw [if_pos h3] at h2
        rw [if_neg (by omega)]
        exact hf j x h2
      · rw [if_neg h3] at h2
        rw [if_pos (by omega)]
        exact hf (j + 1) x h2
    · rw [if_pos h1, h2]
    · rw [if_neg (by omega), if_neg (by omega)]
      rw [if_neg (by omega), show j - 1 + 1 = j by omega] at h2
      exact hf j x h2
  · rw [if_neg hkt]
    unfold insR
    rcases hg with ⟨h1, h2⟩ | ⟨h1, h2⟩ | ⟨h1, h2⟩
    · rw [if_neg (by omega), if_neg (by omega)]
      rw [if_pos (by omega)] at h2
      exact hf j x h2
    · rw [if_pos h1, h2]
    · rw [if_neg (by omega)]
      by_cases h3 : j - 1 < k
      · rw [if_pos h3] at h2
        rw [if_pos (by omega)]
        exact hf (j - 1) x h2
      · rw [if_neg h3, show j - 1 + 1 = j by omega] at h2
        rw [if_neg (by omega)]
        exact hf j x h2
theorem idx_some {r : Nat} : ∀ {l : List Nat} {k : Nat}, idx r l = some k → l[k]? = some r := by
  intro l
  induction l with
  | nil => intro k h; cases h
  | cons x t ih =>
    intro k h
    unfold idx at h
    by_cases hx : x = r
    · rw [if_pos hx] at h
      cases h
      rw [hx]; rfl
    · rw [if_neg hx] at h
      obtain ⟨k', h1, rfl⟩ := Option.map_eq_some_iff.mp h
      exact ih h1
theorem idx_none {r : Nat} : ∀ {l : List Nat}, idx r l = none ↔ r ∉ l := by
  intro l
  induction l with
  | nil => simp [idx]
  | cons x t ih =>
    unfold idx
    by_cases hx : x = r
    · rw [if_pos hx]; simp [hx]
    · rw [if_neg hx, Option.map_eq_none_iff, ih]
      simp [Ne.symm hx]
def dropC (r : Nat) (l : List Nat) : List Nat := match idx r l with
  | none => l
  | some k => l.eraseIdx k
theorem dropC_sub {r : Nat} {l : List Nat} : (dropC r l).Sublist l := by
  unfold dropC
  cases idx r l with
  | none => exact List.Sublist.refl _
  | some k => exact List.eraseIdx_sublist l k
theorem dropC_nodup {r : Nat} {l : List Nat} (h : l.Nodup) : (dropC r l).Nodup := List.Nodup.sublist dropC_sub h
theorem dropC_not {r : Nat} {l : List Nat} (h : l.Nodup) : r ∉ dropC r l := by
  unfold dropC
  cases hi : idx r l with
  | none => exact idx_none.mp hi
  | some k =>
    intro hm
    obtain ⟨j, hj⟩ := List.getElem?_of_mem hm
    have hj : (l.eraseIdx k)[j]? = some r := hj
    rw [List.getElem?_eraseIdx] at hj
    have hk := idx_some hi
    have hkl := (List.getElem?_eq_some_iff.mp hk).1
    by_cases h1 : j < k
    · rw [if_pos h1] at hj
      have := (List.getElem?_inj (by omega) h).mp (hj.trans hk.symm)
      omega
    · rw [if_neg h1] at hj
      have hjl := (List.getElem?_eq_some_iff.mp hj).1
      have := (List.getElem?_inj hjl h).mp (hj.trans hk.symm)
      omega
theorem dropC_mem {r x : Nat} {l : List Nat} (h : x ∈ dropC r l) : x ∈ l := dropC_sub.mem h
theorem insC_nodup {k r : Nat} {l : List Nat} (h : l.Nodup) (hr : r ∉ l) : (insC k r l).Nodup := by
  unfold insC
  have hp : (l.take k ++ r :: l.drop k).Perm (r :: l) := by
    refine List.perm_middle.trans ?_
    rw [List.take_append_drop]
  exact hp.nodup_iff.mpr (List.nodup_cons.mpr ⟨hr, h⟩)
theorem insC_mem {k r x : Nat} {l : List Nat} (h : x ∈ insC k r l) : x = r ∨ x ∈ l := by
  unfold insC at h
  rcases List.mem_append.mp h with h | h
  · exact Or.inr (List.mem_of_mem_take h)
  · rcases List.mem_cons.mp h with h | h
    · exact Or.inl h
    · exact Or.inr (List.mem_of_mem_drop h)
