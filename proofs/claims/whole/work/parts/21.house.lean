/-! a house, as a value: rooms, persons, who sits where, who likes which, the lots -/
abbrev CS : Type := Nat × Nat × (Nat → Option Nat) × (Nat → List Nat) × List Nat
abbrev cN (S : CS) : Nat := S.1
abbrev cP (S : CS) : Nat := S.2.1
abbrev cS (S : CS) : Nat → Option Nat := S.2.2.1
abbrev cL (S : CS) : Nat → List Nat := S.2.2.2.1
abbrev cO (S : CS) : List Nat := S.2.2.2.2
def Rep (S : CS) (st am lk od : Nat → Int32) : Prop := (∀ p, p < cP S → st p = enc (cS S p)) ∧ (∀ p, p < cP S → am p = nI (cL S p).length) ∧ (∀ p, p < cP S → ∀ k r, (cL S p)[k]? = some r → lk (8 * p + k) = nI r) ∧ ∀ k q, (cO S)[k]? = some q → od k = nI q
/-- what is so of every house -/
def VS (S : CS) : Prop := cN S ≤ 8 ∧ cP S ≤ 6 ∧ (∀ p, p < cP S → ∀ r, cS S p = some r → r < cN S) ∧ (∀ p q, p < cP S → q < cP S → cS S p = cS S q → cS S p ≠ none → p = q) ∧ (∀ p, p < cP S → (cL S p).Nodup ∧ ∀ r ∈ cL S p, r < cN S) ∧ (cO S).length = cP S ∧ (cO S).Nodup ∧ ∀ q ∈ cO S, q < cP S
def HO (h : HP) (a : Nat) (rm ps : Int32) : Prop := h[a]? = some (.inl (3, [.inl rm, .inl ps, .inr (some (a + 1)), .inr (some (a + 2)), .inr (some (a + 3)), .inr (some (a + 4))]))
def HV (h : HP) (a : Nat) (S : CS) : Prop := ∃ st am lk od : Nat → Int32, HO h a (nI (cN S)) (nI (cP S)) ∧ IA h (a + 1) 6 st ∧ IA h (a + 2) 6 am ∧ IA h (a + 3) 48 lk ∧ IA h (a + 4) 6 od ∧ Rep S st am lk od
theorem nodup_len : ∀ (n : Nat) (l : List Nat), l.Nodup → (∀ x ∈ l, x < n) → l.length ≤ n := by
  intro n
  induction n with
  | zero =>
    intro l _ h
    cases l with
    | nil => exact Nat.le_refl _
    | cons a t => exact absurd (h a List.mem_cons_self) (by omega)
  | succ n ih =>
    intro l hd h
    have h1 := ih (l.erase n) (hd.erase n) (fun x hx => by
      have hm := (hd.mem_erase_iff).mp hx
      have := h x hm.2
      have := hm.1
      omega)
    have h2 : l.length ≤ (l.erase n).length + 1 := by
      by_cases hm : n ∈ l
      · rw [List.length_erase_of_mem hm]; omega
      · rw [List.erase_of_not_mem hm]; omega
    omega
theorem VS.n8 {S : CS} (Y : VS S) : cN S ≤ 8 := Y.1
theorem VS.p6 {S : CS} (Y : VS S) : cP S ≤ 6 := Y.2.1
theorem VS.seat {S : CS} (Y : VS S) {p r : Nat} (hp : p < cP S) (h : cS S p = some r) : r < 8 := Nat.lt_of_lt_of_le (Y.2.2.1 p hp r h) Y.1
theorem VS.like {S : CS} (Y : VS S) {p k r : Nat} (hp : p < cP S) (h : (cL S p)[k]? = some r) : r < 8 := Nat.lt_of_lt_of_le ((Y.2.2.2.2.1 p hp).2 r (List.mem_of_getElem? h)) Y.1
theorem VS.len {S : CS} (Y : VS S) {p : Nat} (hp : p < cP S) : (cL S p).length ≤ 8 := Nat.le_trans (nodup_len _ _ (Y.2.2.2.2.1 p hp).1 (Y.2.2.2.2.1 p hp).2) Y.1
theorem VS.ord {S : CS} (Y : VS S) {k q : Nat} (h : (cO S)[k]? = some q) : q < cP S := Y.2.2.2.2.2.2.2 q (List.mem_of_getElem? h)
section HVR
variable {h : HP} {a : Nat} {S : CS}
theorem HV.chk (V : HV h a S) {α : Type} (x : Option α) : ck h a 3 x = x := by
  obtain ⟨st, am, lk, od, ho, -⟩ := V
  unfold HO at ho
  unfold ck
  rw [ho]
  rfl
theorem HV.rooms (V : HV h a S) : gI h a 3 0 = some (nI (cN S)) := by
  obtain ⟨st, am, lk, od, ho, -⟩ := V
  unfold HO at ho
  unfold gI; rw [ho]; rfl
theorem HV.pers (V : HV h a S) : gI h a 3 1 = some (nI (cP S)) := by
  obtain ⟨st, am, lk, od, ho, -⟩ := V
  unfold HO at ho
  unfold gI; rw [ho]; rfl
theorem HV.r2 (V : HV h a S) : gR h a 3 2 = some (a + 1) := by
  obtain ⟨st, am, lk, od, ho, -⟩ := V
  unfold HO at ho
  unfold gR; rw [ho]; rfl
theorem HV.r3 (V : HV h a S) : gR h a 3 3 = some (a + 2) := by
  obtain ⟨st, am, lk, od, ho, -⟩ := V
  unfold HO at ho
  unfold gR; rw [ho]; rfl
theorem HV.r4 (V : HV h a S) : gR h a 3 4 = some (a + 3) := by
  obtain ⟨st, am, lk, od, ho, -⟩ := V
  unfold HO at ho
  unfold gR; rw [ho]; rfl
theorem HV.r5 (V : HV h a S) : gR h a 3 5 = some (a + 4) := by
  obtain ⟨st, am, lk, od, ho, -⟩ := V
  unfold HO at ho
  unfold gR; rw [ho]; rfl
theorem HV.seat (V : HV h a S) (Y : VS S) {p : Nat} (hp : p < cP S) : f_X8_at (a + 1) (nI p) h = some (enc (cS S p), h) := by
  obtain ⟨st, am, lk, od, ho, h1, h2, h3, h4, r⟩ := V
  have := Y.p6
  rw [ia_at h1 (by omega) (by omega), r.1 p hp]
theorem HV.amt (V : HV h a S) (Y : VS S) {p : Nat} (hp : p < cP S) : f_X8_at (a + 2) (nI p) h = some (nI (cL S p).length, h) := by
  obtain ⟨st, am, lk, od, ho, h1, h2, h3, h4, r⟩ := V
  have := Y.p6
  rw [ia_at h2 (by omega) (by omega), r.2.1 p hp]
theorem nI8 (p k : Nat) : nI p * 8 + nI k = nI (8 * p + k) := by
  rw [show (8 : Int32) = nI 8 from rfl, pk_mul, nI_add, Nat.mul_comm]
theorem HV.lik (V : HV h a S) (Y : VS S) {p k r : Nat} (hp : p < cP S) (hk : (cL S p)[k]? = some r) : f_X8_at (a + 3) (nI p * 8 + nI k) h = some (nI r, h) := by
  obtain ⟨st, am, lk, od, ho, h1, h2, h3, h4, q⟩ := V
  have := Y.p6
  have := Y.len hp
  have := (List.getElem?_eq_some_iff.mp hk).1
  rw [nI8, ia_at h3 (by omega) (by omega), q.2.2.1 p hp k r hk]
theorem HV.ord (V : HV h a S) (Y : VS S) {k q : Nat} (hk : (cO S)[k]? = some q) : f_X8_at (a + 4) (nI k) h = some (nI q, h) := by
  obtain ⟨st, am, lk, od, ho, h1, h2, h3, h4, r⟩ := V
  have := Y.p6
  have := (List.getElem?_eq_some_iff.mp hk).1
  have := Y.2.2.2.2.2.1
  rw [ia_at h4 (by omega) (by omega), r.2.2.2 k q hk]
theorem fu_lt {m : Nat} (h : m < 4000) : m < FU := h
/-! what it is asked -/
theorem p_hasPerson (V : HV h a S) (Y : VS S) (x : Int32) : ∃ t : Bool, f_X3_hasPerson a x h = some (bI t, h) ∧ (t = true ↔ ∃ p, p < cP S ∧ x = nI p) := by
  have := Y.p6
  unfold f_X3_hasPerson f_X3_hasPerson_e
  rw [V.chk, V.pers]
  rcases pk_ix x (n := cP S) (by omega) with hx | hx | ⟨j, hj, rfl⟩
  · rw [if_pos hx]
    exact ⟨false, rfl, by simp; intro p hp hq; rw [hq] at hx; exact nI_pos (by omega) hx⟩
  · rw [bs, if_pos hx]
    refine ⟨false, ?_, by simp; intro p hp hq; rw [hq] at hx; exact nI_ge hp (by omega) hx⟩
    by_cases h0 : x < 0
    · rw [if_pos h0]; rfl
    · rw [if_neg h0]; rfl
  · rw [if_neg (nI_pos (by omega)), bs, if_neg (nI_ge hj (by omega))]
    exact ⟨true, rfl, by simp; exact ⟨j, hj, rfl⟩⟩
theorem p_hasRoom (V : HV h a S) (Y : VS S) (x : Int32) : ∃ t : Bool, f_X3_hasRoom a x h = some (bI t, h) ∧ (t = true ↔ ∃ p, p < cN S ∧ x = nI p) := by
  have := Y.n8
  unfold f_X3_hasRoom f_X3_hasRoom_e
  rw [V.chk, V.rooms]
  rcases pk_ix x (n := cN S) (by omega) with hx | hx | ⟨j, hj, rfl⟩
  · rw [if_pos hx]
    exact ⟨false, rfl, by simp; intro p hp hq; rw [hq] at hx; exact nI_pos (by omega) hx⟩
  · rw [bs, if_pos hx]
    refine ⟨false, ?_, by simp; intro p hp hq; rw [hq] at hx; exact nI_ge hp (by omega) hx⟩
    by_cases h0 : x < 0
    · rw [if_pos h0]; rfl
    · rw [if_neg h0]; rfl
  · rw [if_neg (nI_pos (by omega)), bs, if_neg (nI_ge hj (by omega))]
    exact ⟨true, rfl, by simp; exact ⟨j, hj, rfl⟩⟩
theorem p_hasRoomOrNone (V : HV h a S) (Y : VS S) (x : Int32) : ∃ t : Bool, f_X3_hasRoomOrNone a x h = some (bI t, h) ∧ (t = true ↔ x = -1 ∨ ∃ p, p < cN S ∧ x = nI p) := by
  unfold f_X3_hasRoomOrNone f_X3_hasRoomOrNone_e
  rw [V.chk]
  by_cases hx : x = -1
  · rw [if_pos hx]
    exact ⟨true, rfl, by simp [hx]⟩
  · obtain ⟨t, e, ht⟩ := p_hasRoom V Y x
    rw [if_neg hx, e, bs]
    cases t with
    | true => exact ⟨true, rfl, by simp only [true_iff]; exact Or.inr (ht.mp rfl)⟩
    | false => exact ⟨false, rfl, by simp only [Bool.false_eq_true, false_iff, not_or]; exact ⟨hx, fun q => by have := ht.mpr q; cases this⟩⟩
theorem p_seatOf (V : HV h a S) (Y : VS S) {p : Nat} (hp : p < cP S) : f_X3_seatOf a (nI p) h = some (enc (cS S p), h) := by
  unfold f_X3_seatOf f_X3_seatOf_e
  rw [V.chk, V.r2, bs, V.seat Y hp, bs]
theorem p_amount (V : HV h a S) (Y : VS S) {p : Nat} (hp : p < cP S) : f_X3_amount a (nI p) h = some (nI (cL S p).length, h) := by
  unfold f_X3_amount f_X3_amount_e
  rw [V.chk, V.r3, bs, V.amt Y hp, bs]
def sitC (S : CS) (r : Nat) : Option Nat := fnd (fun p => cS S p == some r) (cP S) 0
def sitO (S : CS) (o : Option Nat) : Option Nat := match o with
  | none => none
  | some r => sitC S r
theorem enc_nI {o : Option Nat} {r : Nat} (ho : ∀ k, o = some k → k < 8) (hr : r < 2 ^ 31) : enc o = nI r ↔ o = some r := by
  rw [← enc_s r, enc_inj (fun k hk => by have := ho k hk; omega) (fun k hk => by cases hk; omega)]
theorem l_sitter (V : HV h a S) (Y : VS S) {r : Nat} (hr : r < 8) : ∀ m i, i + m = cP S → ∀ n, m < n → F_X3_sitter_2 n a (nI r) (nI i) h = some (enc (fnd (fun p => cS S p == some r) m i), h) := by
  have hP := Y.p6
  intro m
  induction m with
  | zero =>
    intro i hi n hn
    obtain ⟨n, rfl⟩ := sx hn
    show f_X3_sitter_b2 _ _ _ _ _ = _
    unfold f_X3_sitter_b2
    rw [V.pers, bs, if_pos (nI_le (by omega) (by omega))]
    rfl
  | succ m ih =>
    intro i hi n hn
    obtain ⟨n, rfl⟩ := sx hn
    have hip : i < cP S := by omega
    show f_X3_sitter_b2 _ _ _ _ _ = _
    unfold f_X3_sitter_b2 f_X3_sitter_b29 fnd
    rw [V.pers, bs, if_neg (nI_ge hip (by omega)), if_neg (nI_neg1 (by omega)), V.r2, bs, V.seat Y hip, bs]
    have hk := enc_nI (o := cS S i) (r := r) (fun k hk => Y.seat hip hk) (by omega)
    by_cases hq : cS S i = some r
    · rw [if_pos (hk.mpr hq), if_pos (by rw [hq]; simp)]
      rfl
    · rw [if_neg (fun q => hq (hk.mp q)), if_neg (by simpa using hq), nI_1]
      exact ih (i + 1) (by omega) n (by omega)
theorem p_sitter (V : HV h a S) (Y : VS S) {r : Nat} (hr : r < 8) : f_X3_sitter a (nI r) h = some (enc (sitC S r), h) := by
  have hP := Y.p6
  unfold f_X3_sitter f_X3_sitter_e
  rw [V.chk]
  exact l_sitter V Y hr (cP S) 0 (by omega) FU (fu_lt (by omega))
end HVR
