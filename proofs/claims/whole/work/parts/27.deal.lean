/-! GIVEN OUT, as a value: who is there, which rooms are open, what each got, in which round and ring -/
abbrev DS : Type := Nat × Nat × (Nat → Int32) × (Nat → Int32) × (Nat → Int32)
def finC (D : DS) (p : Nat) (o : Option Nat) (k ring : Nat) : DS := (D.1, D.2.1, upd D.2.2.1 p (enc o), upd D.2.2.2.1 p (nI k), upd D.2.2.2.2 p (nI ring))
def aimS (S : CS) (k : Nat) (D : DS) (p : Nat) : DS := if D.1.testBit p = true ∧ bestC S p D.2.1 = none then (del D.1 p, (finC D p none k (1 <<< p)).2) else D
def nextC (S : CS) (there op p : Nat) : Option Nat := match sitO S (bestC S p op) with
  | some q => if there.testBit q then some q else firstC S there
  | none => firstC S there
def ringC (f : Nat → Nat) (p : Nat) : Nat → Nat → Nat → Nat
  | 0, _, _ => 0
  | n + 1, set, q => if f q = p then ins set q else ringC f p n (ins set q) (f q)
def nxC (S : CS) (there op : Nat) (p : Nat) : Nat := (nextC S there op p).getD 0
def ringP (S : CS) (there op n p : Nat) : Nat := if there.testBit p then ringC (nxC S there op) p n 0 p else 0
/-- one person's ring is closed: those gone, the state -/
def closeS (S : CS) (k there op n : Nat) (x : Nat × DS) (p : Nat) : Nat × DS := if ringP S there op n p = 0 then x else (ins x.1 p, ((finC x.2 p (bestC S p op) k (ringP S there op n p)).1, delO x.2.2.1 (bestC S p op), (finC x.2 p (bestC S p op) k (ringP S there op n p)).2.2))
def roundC (S : CS) (n k : Nat) (D : DS) : DS :=
  let D1 := fld (aimS S k) (cP S) 0 D
  let x := fld (closeS S k D1.1 D1.2.1 n) (cP S) 0 (0, D1)
  (adn D1.1 x.1, x.2.2)
def dealN (S : CS) (n : Nat) : Nat → Nat → DS → Nat × DS
  | 0, k, D => (k, D)
  | m + 1, k, D => if D.1 = 0 then (k, D) else dealN S n m (k + 1) (roundC S n k D)
/-! the class's dealing -/
def DO (h : HP) (d : Nat) (rd op th : Int32) : Prop := h[d]? = some (.inl (1, [.inl rd, .inl op, .inl th, .inr (some (d + 1)), .inr (some (d + 2)), .inr (some (d + 3)), .inr (some (d + 4)), .inr (some (d + 5))]))
def DR (h : HP) (d : Nat) (rd op th : Int32) (got rds rgs tgt onw : Nat → Int32) : Prop := DO h d rd op th ∧ IA h (d + 1) 6 got ∧ IA h (d + 2) 6 rds ∧ IA h (d + 3) 6 rgs ∧ IA h (d + 4) 6 tgt ∧ IA h (d + 5) 6 onw
section DRS
variable {h : HP} {d : Nat} {rd op th : Int32} {got rds rgs tgt onw : Nat → Int32}
theorem DO.ne {i : Nat} {e : ME} (H : DO h d rd op th) (hne : i ≠ d) : DO (h.set i e) d rd op th := by unfold DO; rw [set_ne hne]; exact H
theorem DR.fr {h' : HP} {b m : Nat} (H : DR h d rd op th got rds rgs tgt onw) (F : Fr h h' b m) (hk : d + 6 ≤ b ∨ b + m ≤ d) : DR h' d rd op th got rds rgs tgt onw := ⟨by unfold DO; rw [F d (by omega)]; exact H.1, H.2.1.fr F (by omega), H.2.2.1.fr F (by omega), H.2.2.2.1.fr F (by omega), H.2.2.2.2.1.fr F (by omega), H.2.2.2.2.2.fr F (by omega)⟩
theorem DR.chk (V : DR h d rd op th got rds rgs tgt onw) {α : Type} (x : Option α) : ck h d 1 x = x := by
  have ho := V.1
  unfold DO at ho
  unfold ck; rw [ho]; rfl
theorem DR.g0 (V : DR h d rd op th got rds rgs tgt onw) : gI h d 1 0 = some rd := by
  have ho := V.1
  unfold DO at ho
  unfold gI; rw [ho]; rfl
theorem DR.g1 (V : DR h d rd op th got rds rgs tgt onw) : gI h d 1 1 = some op := by
  have ho := V.1
  unfold DO at ho
  unfold gI; rw [ho]; rfl
theorem DR.g2 (V : DR h d rd op th got rds rgs tgt onw) : gI h d 1 2 = some th := by
  have ho := V.1
  unfold DO at ho
  unfold gI; rw [ho]; rfl
theorem DR.r3 (V : DR h d rd op th got rds rgs tgt onw) : gR h d 1 3 = some (d + 1) := by
  have ho := V.1
  unfold DO at ho
  unfold gR; rw [ho]; rfl
theorem DR.r4 (V : DR h d rd op th got rds rgs tgt onw) : gR h d 1 4 = some (d + 2) := by
  have ho := V.1
  unfold DO at ho
  unfold gR; rw [ho]; rfl
theorem DR.r5 (V : DR h d rd op th got rds rgs tgt onw) : gR h d 1 5 = some (d + 3) := by
  have ho := V.1
  unfold DO at ho
  unfold gR; rw [ho]; rfl
theorem DR.r6 (V : DR h d rd op th got rds rgs tgt onw) : gR h d 1 6 = some (d + 4) := by
  have ho := V.1
  unfold DO at ho
  unfold gR; rw [ho]; rfl
theorem DR.r7 (V : DR h d rd op th got rds rgs tgt onw) : gR h d 1 7 = some (d + 5) := by
  have ho := V.1
  unfold DO at ho
  unfold gR; rw [ho]; rfl
theorem DR.w (V : DR h d rd op th got rds rgs tgt onw) (rd' op' th' : Int32) : DR (h.set d (.inl (1, [.inl rd', .inl op', .inl th', .inr (some (d + 1)), .inr (some (d + 2)), .inr (some (d + 3)), .inr (some (d + 4)), .inr (some (d + 5))]))) d rd' op' th' got rds rgs tgt onw := ⟨set_eq V.1, V.2.1.ne (by omega), V.2.2.1.ne (by omega), V.2.2.2.1.ne (by omega), V.2.2.2.2.1.ne (by omega), V.2.2.2.2.2.ne (by omega)⟩
theorem DR.p0 (V : DR h d rd op th got rds rgs tgt onw) (x : Int32) : ∃ h', pI h d 1 0 x = some h' ∧ DR h' d x op th got rds rgs tgt onw ∧ Fr h h' d 6 := by
  refine ⟨_, ?_, V.w x op th, Fr.set (by omega) (by omega)⟩
  have ho := V.1
  unfold DO at ho
  unfold pI pF; rw [ho]; rfl
theorem DR.p1 (V : DR h d rd op th got rds rgs tgt onw) (x : Int32) : ∃ h', pI h d 1 1 x = some h' ∧ DR h' d rd x th got rds rgs tgt onw ∧ Fr h h' d 6 := by
  refine ⟨_, ?_, V.w rd x th, Fr.set (by omega) (by omega)⟩
  have ho := V.1
  unfold DO at ho
  unfold pI pF; rw [ho]; rfl
theorem DR.p2 (V : DR h d rd op th got rds rgs tgt onw) (x : Int32) : ∃ h', pI h d 1 2 x = some h' ∧ DR h' d rd op x got rds rgs tgt onw ∧ Fr h h' d 6 := by
  refine ⟨_, ?_, V.w rd op x, Fr.set (by omega) (by omega)⟩
  have ho := V.1
  unfold DO at ho
  unfold pI pF; rw [ho]; rfl
theorem DR.pgot (V : DR h d rd op th got rds rgs tgt onw) {k : Nat} (hk : k < 6) (x : Int32) : ∃ h', f_X8_put (d + 1) (nI k) x h = some h' ∧ DR h' d rd op th (upd got k x) rds rgs tgt onw ∧ Fr h h' d 6 := ⟨_, ia_put V.2.1 hk (by omega) x, ⟨V.1.ne (by omega), V.2.1.set _, V.2.2.1.ne (by omega), V.2.2.2.1.ne (by omega), V.2.2.2.2.1.ne (by omega), V.2.2.2.2.2.ne (by omega)⟩, Fr.set (by omega) (by omega)⟩
theorem DR.prds (V : DR h d rd op th got rds rgs tgt onw) {k : Nat} (hk : k < 6) (x : Int32) : ∃ h', f_X8_put (d + 2) (nI k) x h = some h' ∧ DR h' d rd op th got (upd rds k x) rgs tgt onw ∧ Fr h h' d 6 := ⟨_, ia_put V.2.2.1 hk (by omega) x, ⟨V.1.ne (by omega), V.2.1.ne (by omega), V.2.2.1.set _, V.2.2.2.1.ne (by omega), V.2.2.2.2.1.ne (by omega), V.2.2.2.2.2.ne (by omega)⟩, Fr.set (by omega) (by omega)⟩
theorem DR.prgs (V : DR h d rd op th got rds rgs tgt onw) {k : Nat} (hk : k < 6) (x : Int32) : ∃ h', f_X8_put (d + 3) (nI k) x h = some h' ∧ DR h' d rd op th got rds (upd rgs k x) tgt onw ∧ Fr h h' d 6 := ⟨_, ia_put V.2.2.2.1 hk (by omega) x, ⟨V.1.ne (by omega), V.2.1.ne (by omega), V.2.2.1.ne (by omega), V.2.2.2.1.set _, V.2.2.2.2.1.ne (by omega), V.2.2.2.2.2.ne (by omega)⟩, Fr.set (by omega) (by omega)⟩
theorem DR.ptgt (V : DR h d rd op th got rds rgs tgt onw) {k : Nat} (hk : k < 6) (x : Int32) : ∃ h', f_X8_put (d + 4) (nI k) x h = some h' ∧ DR h' d rd op th got rds rgs (upd tgt k x) onw ∧ Fr h h' d 6 := ⟨_, ia_put V.2.2.2.2.1 hk (by omega) x, ⟨V.1.ne (by omega), V.2.1.ne (by omega), V.2.2.1.ne (by omega), V.2.2.2.1.ne (by omega), V.2.2.2.2.1.set _, V.2.2.2.2.2.ne (by omega)⟩, Fr.set (by omega) (by omega)⟩
theorem DR.ponw (V : DR h d rd op th got rds rgs tgt onw) {k : Nat} (hk : k < 6) (x : Int32) : ∃ h', f_X8_put (d + 5) (nI k) x h = some h' ∧ DR h' d rd op th got rds rgs tgt (upd onw k x) ∧ Fr h h' d 6 := ⟨_, ia_put V.2.2.2.2.2 hk (by omega) x, ⟨V.1.ne (by omega), V.2.1.ne (by omega), V.2.2.1.ne (by omega), V.2.2.2.1.ne (by omega), V.2.2.2.2.1.ne (by omega), V.2.2.2.2.2.set _⟩, Fr.set (by omega) (by omega)⟩
theorem p_finish (V : DR h d rd op th got rds rgs tgt onw) {p : Nat} (hp : p < 6) (x y : Int32) : ∃ h', f_X1_finish d (nI p) x y h = some h' ∧ DR h' d rd op th (upd got p x) (upd rds p rd) (upd rgs p y) tgt onw ∧ Fr h h' d 6 := by
  obtain ⟨h1, e1, A1, F1⟩ := V.pgot hp x
  obtain ⟨h2, e2, A2, F2⟩ := A1.prds hp rd
  obtain ⟨h3, e3, A3, F3⟩ := A2.prgs hp y
  refine ⟨h3, ?_, A3, (F1.trans F2).trans F3⟩
  unfold f_X1_finish f_X1_finish_e
  rw [V.chk, V.r3, bs, e1, bs, A1.r4, bs, A1.g0, bs, e2, bs, A2.r5, bs, e3, bs]
end DRS
/-- the dealing holds a state -/
def DV (h : HP) (d : Nat) (k : Nat) (D : DS) (tgt onw : Nat → Int32) : Prop := DR h d (nI k) (nI D.2.1) (nI D.1) D.2.2.1 D.2.2.2.1 D.2.2.2.2 tgt onw
theorem bestC_lt {S : CS} (Y : VS S) {p s r : Nat} (hp : p < cP S) (h : bestC S p s = some r) : r < 8 ∧ s.testBit r = true := by
  unfold bestC bestL at h
  refine ⟨?_, by simpa using List.find?_some h⟩
  have hm := List.mem_of_find?_eq_some h
  unfold wantsC at hm
  have key : ∀ l : List Nat, (∀ x ∈ l, x < cN S) → r ∈ wants (cS S p) l → r < cN S := by
    intro l
    induction l with
    | nil =>
      intro _ hm
      unfold wants at hm
      cases hc : cS S p with
      | none => rw [hc] at hm; simp at hm
      | some q => rw [hc] at hm; simp at hm; rw [hm]; exact Y.2.2.1 p hp q hc
    | cons x t ih =>
      intro hx hm
      unfold wants at hm
      by_cases hq : cS S p = some x
      · rw [if_pos hq] at hm; simp at hm; rw [hm]; exact hx x List.mem_cons_self
      · rw [if_neg hq] at hm
        rcases List.mem_cons.mp hm with q | q
        · rw [q]; exact hx x List.mem_cons_self
        · exact ih (fun y hy => hx y (List.mem_cons_of_mem _ hy)) q
  have := key _ (Y.2.2.2.2.1 p hp).2 hm
  have := Y.n8
  omega
