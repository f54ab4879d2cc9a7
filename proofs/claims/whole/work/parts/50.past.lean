/-! THE PAST, rows copied: class and reference -/
def PC (h : HP) (ps : List CS) : Prop := ∃ (sg : Nat → Nat) (f : Nat → Option Nat), ps.length ≤ 20 ∧ OB h 21 6 [.inl (nI ps.length), .inr (some 22)] ∧ QA h 22 false 20 f ∧ (∀ i, i < 20 → f i = some (23 + 5 * sg i) ∧ sg i < 20 ∧ HX h (23 + 5 * sg i)) ∧ (∀ i j, i < 20 → j < 20 → sg i = sg j → i = j) ∧ ∀ i q, ps[i]? = some q → HV h (23 + 5 * sg i) q
def PMd (F : Nat → Int32) (A : AT) (ps : List CS) : Prop := F 3 = nI ps.length ∧ ∀ i q, ps[i]? = some q → RV (A 0) (67 + 67 * i) q
def PV (S : CS) (ps : List CS) : Prop := ps.length ≤ 20 ∧ ∀ (i : Nat) (q : CS), ps[i]? = some q → VS q ∧ cN q = cN S ∧ cP q = cP S
theorem PAi.split {h : HP} {F : Nat → Int32} {A : AT} {S : CS} (T : PAi h F A S) : ∃ ps, PC h ps ∧ PMd F A ps ∧ PV S ps := by
  obtain ⟨K, sg, ps, f, t1, t2, t3, t4, t5, t6, t7⟩ := T
  have hl : ((List.range K).map ps).length = K := by simp
  have hg : ∀ i q, ((List.range K).map ps)[i]? = some q → i < K ∧ q = ps i := fun i q hq => by
    have hi := (List.getElem?_eq_some_iff.mp hq).1
    rw [hl] at hi
    rw [List.getElem?_map, List.getElem?_range hi] at hq
    exact ⟨hi, (Option.some.inj hq).symm⟩
  refine ⟨(List.range K).map ps, ⟨sg, f, by rw [hl]; exact t1, by rw [hl]; exact t2, t3, t5, t6, fun i q hq => ?_⟩, ⟨by rw [hl]; exact t4, fun i q hq => ?_⟩, ⟨by rw [hl]; exact t1, fun i q hq => ?_⟩⟩
  · obtain ⟨hi, rfl⟩ := hg i q hq
    exact (t7 i hi).1
  · obtain ⟨hi, rfl⟩ := hg i q hq
    exact (t7 i hi).2.1
  · obtain ⟨hi, rfl⟩ := hg i q hq
    exact (t7 i hi).2.2
theorem PAi.join {h : HP} {F : Nat → Int32} {A : AT} {S : CS} {ps : List CS} (c : PC h ps) (m : PMd F A ps) (v : PV S ps) : PAi h F A S := by
  obtain ⟨sg, f, t1, t2, t3, t5, t6, t7⟩ := c
  refine ⟨ps.length, sg, fun i => (ps[i]?).getD cs0, f, t1, t2, t3, m.1, t5, t6, fun i hi => ?_⟩
  have hq : ps[i]? = some (ps[i]) := List.getElem?_eq_getElem hi
  obtain ⟨v1, v2, v3⟩ := v.2 i _ hq
  show HV h _ ((ps[i]?).getD cs0) ∧ RV (A 0) _ ((ps[i]?).getD cs0) ∧ VS ((ps[i]?).getD cs0) ∧ cN ((ps[i]?).getD cs0) = cN S ∧ cP ((ps[i]?).getD cs0) = cP S
  rw [hq]
  exact ⟨t7 i _ hq, m.2 i _ hq, v1, v2, v3⟩
def pushL (ps : List CS) (S : CS) : List CS := (if ps.length = 20 then ps.drop 1 else ps) ++ [S]
theorem QA.ld {h : HP} {a : Nat} {w : Bool} {n : Nat} {f : Nat → Option Nat} (Q : QA h a w n f) {k : Nat} (hk : k < n) (hn : n < 2 ^ 31) : qld h a (nI k) = f k := by
  unfold QA at Q
  unfold qld; rw [Q]
  show (if nI k < 0 ∨ n ≤ (nI k).toNatClampNeg then none else f (nI k).toNatClampNeg) = _
  rw [if_neg (nI_in hk hn), nI_clamp (by omega)]
theorem QA.len {h : HP} {a : Nat} {w : Bool} {n : Nat} {f : Nat → Option Nat} (Q : QA h a w n f) : alen h a = some (nI n) := by
  unfold QA at Q
  unfold alen; rw [Q]; rfl
theorem QA.st {h : HP} {a : Nat} {n : Nat} {f : Nat → Option Nat} (Q : QA h a false n f) {k : Nat} (hk : k < n) (hn : n < 2 ^ 31) {x : Nat} (X : HX h x) : ∃ h', qst h a (nI k) x = some h' ∧ QA h' a false n (va_up f k (some x)) ∧ Fr h h' a 1 := by
  refine ⟨h.set a (.inr (.inr (false, n, va_up f k (some x)))), ?_, set_eq Q, Fr.set (by omega) (by omega)⟩
  unfold QA at Q
  obtain ⟨_, _, _, _, _, _, A⟩ := X
  unfold qst; rw [Q]
  show (if nI k < 0 ∨ n ≤ (nI k).toNatClampNeg then none else ck h x 3 (some (h.set a (.inr (.inr (false, n, va_up f (nI k).toNatClampNeg (some x))))))) = _
  rw [if_neg (nI_in hk hn), nI_clamp (by omega), A.chk]
theorem l_dropOldest {z : Nat} (hz : 23 ≤ z) : ∀ m i, i + m = 19 → ∀ n, m < n → ∀ (h : HP) (f : Nat → Option Nat) (K : Int32), OB h 21 6 [.inl K, .inr (some 22)] → QA h 22 false 20 f → HX h z → (∀ j, i ≤ j → j < 20 → ∃ q, f j = some q ∧ 23 ≤ q ∧ HX h q) → ∃ h' g, F_X6_dropOldest_17 n 21 z (nI 19) (nI i) h = some h' ∧ OB h' 21 6 [.inl (nI 19), .inr (some 22)] ∧ QA h' 22 false 20 g ∧ Fr h h' 21 2 ∧ (∀ j, j < i → g j = f j) ∧ (∀ j, i ≤ j → j < 19 → g j = f (j + 1)) ∧ g 19 = some z := by
  intro m
  induction m with
  | zero =>
    intro i hi n hn h f K o q hx hf
    obtain ⟨n, rfl⟩ := sx hn
    obtain ⟨h1, e1, q1, X1⟩ := q.st (k := 19) (by omega) (by omega) hx
    have o1 := o.eq (X1 21 (by omega))
    obtain ⟨h2, e2, o2, X2⟩ := o1.w 0 (nI 19) (gs := [.inl (nI 19), .inr (some 22)]) rfl (Nat.le_of_ble_eq_true rfl)
    refine ⟨h2, _, ?_, o2, q1.eq (X2 22 (by omega)), (X1.wide (by omega) (by omega)).trans (X2.wide (by omega) (by omega)), fun j hj => if_neg (by omega), fun j h1 h2 => by omega, if_pos rfl⟩
    show f_X6_dropOldest_b17 _ _ _ _ _ _ = _
    unfold f_X6_dropOldest_b17
    rw [if_pos (nI_le (by omega) (by omega)), o.r 1 rfl, bs, e1, bs, e2, bs]
  | succ m ih =>
    intro i hi n hn h f K o q hx hf
    obtain ⟨n, rfl⟩ := sx hn
    obtain ⟨y, y1, y2, y3⟩ := hf (i + 1) (by omega) (by omega)
    obtain ⟨h1, e1, q1, X1⟩ := q.st (k := i) (by omega) (by omega) y3
    have o1 := o.eq (X1 21 (by omega))
    obtain ⟨h2, g, e2, o2, q2, X2, g1, g2, g3⟩ := ih (i + 1) (by omega) n (by omega) h1 _ K o1 q1 (hx.fr X1 (by omega)) (fun j h1 h2 => by
      obtain ⟨w, w1, w2, w3⟩ := hf j (by omega) h2
      exact ⟨w, (if_neg (by omega)).trans w1, w2, w3.fr X1 (by omega)⟩)
    refine ⟨h2, g, ?_, o2, q2, (X1.wide (by omega) (by omega)).trans X2, fun j hj => (g1 j (by omega)).trans (if_neg (by omega)), fun j h1 h2 => ?_, g3⟩
    · show f_X6_dropOldest_b17 _ _ _ _ _ _ = _
      unfold f_X6_dropOldest_b17
      rw [if_neg (nI_ge (by omega) (by omega)), o.r 1 rfl, bs, bs, nI_1, q.ld (k := i + 1) (by omega) (by omega), y1, bs, e1, bs, e2]
    · by_cases hj : j = i
      · subst hj
        rw [g1 j (by omega), y1]
        exact if_pos rfl
      · rw [g2 j (by omega) h2]
        exact if_neg (by omega)
theorem p_dropOldest {h : HP} {ps : List CS} (c : PC h ps) (hl : ps.length = 20) : ∃ h', f_X6_dropOldest 21 h = some h' ∧ PC h' (ps.drop 1) ∧ Fr h h' 21 2 := by
  obtain ⟨sg, f, t1, t2, t3, t5, t6, t7⟩ := c
  obtain ⟨u1, u2, u3⟩ := t5 0 (by omega)
  obtain ⟨h', g, e, o, q, X, g1, g2, g3⟩ := l_dropOldest (z := 23 + 5 * sg 0) (by omega) 19 0 (by omega) FU (fu_lt (by omega)) h f _ t2 t3 u3 (fun j _ h2 => ⟨_, (t5 j h2).1, by omega, (t5 j h2).2.2⟩)
  refine ⟨h', ?_, ?_, X⟩
  · unfold f_X6_dropOldest f_X6_dropOldest_e
    rw [t2.chk, t2.r 1 rfl, bs]
    show (qld h 22 (nI 0)).bind _ = _
    rw [t3.ld (k := 0) (by omega) (by omega), u1, bs, bs, t3.len, bs]
    exact e
  · have hd : (ps.drop 1).length = 19 := by rw [List.length_drop]; omega
    obtain ⟨sh, sh1, sh2⟩ : ∃ sh : Nat → Nat, sh 19 = sg 0 ∧ ∀ i, i ≠ 19 → sh i = sg (i + 1) := ⟨fun i => if i = 19 then sg 0 else sg (i + 1), if_pos rfl, fun i hi => if_neg hi⟩
    refine ⟨sh, g, by omega, by rw [hd]; exact o, q, fun i hi => ?_, fun i j hi hj hs => ?_, fun i q hq => ?_⟩
    · by_cases h19 : i = 19
      · subst h19
        rw [sh1]
        exact ⟨g3, u2, u3.fr X (by omega)⟩
      · rw [sh2 i h19]
        obtain ⟨w1, w2, w3⟩ := t5 (i + 1) (by omega)
        exact ⟨(g2 i (by omega) (by omega)).trans w1, w2, w3.fr X (by omega)⟩
    · by_cases h1 : i = 19
      · by_cases h2 : j = 19
        · omega
        · rw [h1, sh1, sh2 j h2] at hs
          have := t6 0 (j + 1) (by omega) (by omega) hs
          omega
      · by_cases h2 : j = 19
        · rw [h2, sh1, sh2 i h1] at hs
          have := t6 (i + 1) 0 (by omega) (by omega) hs
          omega
        · rw [sh2 i h1, sh2 j h2] at hs
          have := t6 (i + 1) (j + 1) (by omega) (by omega) hs
          omega
    · have hi := (List.getElem?_eq_some_iff.mp hq).1
      rw [List.getElem?_drop, Nat.add_comm] at hq
      rw [sh2 i (by omega)]
      exact (t7 (i + 1) q hq).fr X (by omega)
theorem p_push0 {h : HP} {ps : List CS} {S : CS} (c : PC h ps) (hl : ps.length < 20) (V : HV h 3 S) (Y : VS S) : ∃ h', f_X6_push_b16 21 3 h = some h' ∧ PC h' (ps ++ [S]) ∧ Fr h h' 21 102 := by
  obtain ⟨sg, f, t1, t2, t3, t5, t6, t7⟩ := c
  obtain ⟨u1, u2, u3⟩ := t5 ps.length hl
  obtain ⟨h1, e1, V1, X1⟩ := p_copy u3 V Y (by omega)
  have o1 := t2.eq (X1 21 (by omega))
  obtain ⟨h2, e2, o2, X2⟩ := o1.w 0 (nI (ps.length + 1)) (gs := [.inl (nI (ps.length + 1)), .inr (some 22)]) rfl (Nat.le_of_ble_eq_true rfl)
  refine ⟨h2, ?_, ⟨sg, f, by simp; omega, by rw [List.length_append]; exact o2, (t3.eq (X1 22 (by omega))).eq (X2 22 (by omega)), fun i hi => ?_, t6, fun i q hq => ?_⟩, (X1.wide (by omega) (by omega)).trans (X2.wide (by omega) (by omega))⟩
  · unfold f_X6_push_b16
    rw [t2.g 0 rfl, bs, if_neg (nI_pos (by omega)), bs, t2.r 1 rfl, bs, t3.len, bs, if_neg (nI_ge hl (by omega)), bs, bs, t3.ld hl (by omega), u1, bs, e1, bs, o1.g 0 rfl, bs, nI_1, e2, bs]
    rfl
  · obtain ⟨w1, w2, w3⟩ := t5 i hi
    refine ⟨w1, w2, ?_⟩
    by_cases hi2 : i = ps.length
    · rw [hi2]; exact V1.hx.fr X2 (by omega)
    · have : sg i ≠ sg ps.length := fun z => hi2 (t6 i ps.length hi hl z)
      exact (w3.fr X1 (by omega)).fr X2 (by omega)
  · by_cases hi2 : i < ps.length
    · rw [List.getElem?_append_left hi2] at hq
      have : sg i ≠ sg ps.length := fun z => by have := t6 i ps.length (by omega) hl z; omega
      exact ((t7 i q hq).fr X1 (by omega)).fr X2 (by omega)
    · rw [List.getElem?_append_right (by omega)] at hq
      have hz := (List.getElem?_eq_some_iff.mp hq).1
      simp at hz
      have hii : i = ps.length := by omega
      rw [hii, Nat.sub_self] at hq
      cases hq
      rw [hii]; exact V1.fr X2 (by omega)
theorem PC.le {h : HP} {ps : List CS} (c : PC h ps) : ps.length ≤ 20 := by obtain ⟨_, _, t, _⟩ := c; exact t
theorem p_push {h : HP} {ps : List CS} {S : CS} (c : PC h ps) (V : HV h 3 S) (Y : VS S) : ∃ h', f_X6_push 21 3 h = some h' ∧ PC h' (pushL ps S) ∧ Fr h h' 21 102 := by
  have hle := c.le
  unfold pushL
  by_cases hl : ps.length = 20
  · rw [if_pos hl]
    obtain ⟨h1, e1, c1, X1⟩ := p_dropOldest c hl
    obtain ⟨h2, e2, c2, X2⟩ := p_push0 c1 (by rw [List.length_drop]; omega) (V.fr X1 (by omega)) Y
    refine ⟨h2, ?_, c2, (X1.wide (by omega) (by omega)).trans X2⟩
    obtain ⟨sg, f, t1, t2, t3, t5, t6, t7⟩ := c
    unfold f_X6_push f_X6_push_e
    rw [t2.chk, t2.g 0 rfl, bs, t2.r 1 rfl, bs, t3.len, bs, if_neg (nI_nlt (by omega) (by omega)), e1, bs, e2]
  · rw [if_neg hl]
    obtain ⟨h2, e2, c2, X2⟩ := p_push0 c (by omega) V Y
    refine ⟨h2, ?_, c2, X2⟩
    obtain ⟨sg, f, t1, t2, t3, t5, t6, t7⟩ := c
    unfold f_X6_push f_X6_push_e
    rw [t2.chk, t2.g 0 rfl, bs, t2.r 1 rfl, bs, t3.len, bs, if_pos (nI_lt (by omega) (by omega)), e2]
theorem PC.fr {h h' : HP} {ps : List CS} {a n : Nat} (c : PC h ps) (X : Fr h h' a n) (ha : a + n ≤ 21 ∨ 123 ≤ a) : PC h' ps := by
  obtain ⟨sg, f, t1, t2, t3, t5, t6, t7⟩ := c
  refine ⟨sg, f, t1, t2.eq (X _ (by omega)), t3.eq (X _ (by omega)), fun i hi => ?_, t6, fun i q hq => ?_⟩
  · obtain ⟨w1, w2, w3⟩ := t5 i hi
    exact ⟨w1, w2, w3.fr X (by omega)⟩
  · have := (List.getElem?_eq_some_iff.mp hq).1
    have := (t5 i (by omega)).2.1
    exact (t7 i q hq).fr X (by omega)
theorem p_forget {h : HP} {ps : List CS} (c : PC h ps) : ∃ h', f_X6_forget 21 h = some h' ∧ PC h' [] ∧ Fr h h' 21 102 := by
  obtain ⟨sg, f, t1, t2, t3, t5, t6, t7⟩ := c
  obtain ⟨h2, e2, o2, X2⟩ := t2.w 0 0 (gs := [.inl 0, .inr (some 22)]) rfl (Nat.le_of_ble_eq_true rfl)
  refine ⟨h2, ?_, ⟨sg, f, by simp, o2, t3.eq (X2 22 (by omega)), fun i hi => ?_, t6, fun i q hq => by simp at hq⟩, X2.wide (by omega) (by omega)⟩
  · unfold f_X6_forget f_X6_forget_e
    rw [t2.chk, e2, bs]
  · obtain ⟨w1, w2, w3⟩ := t5 i hi
    exact ⟨w1, w2, w3.fr X2 (by omega)⟩
theorem p_pop {h : HP} {ps : List CS} (c : PC h ps) {m : Nat} (hm : 1 ≤ m) (hl : m ≤ ps.length) {Q : CS} (hq : ps[ps.length - m]? = some Q) (Y : VS Q) (V : HX h 3) : ∃ h', f_X6_pop 21 (nI m) 3 h = some h' ∧ HV h' 3 Q ∧ PC h' (ps.take (ps.length - m)) ∧ ∀ k, (k < 3 ∨ (8 ≤ k ∧ k < 21) ∨ 123 ≤ k) → h'[k]? = h[k]? := by
  obtain ⟨sg, f, t1, t2, t3, t5, t6, t7⟩ := c
  obtain ⟨u1, u2, u3⟩ := t5 (ps.length - m) (by omega)
  obtain ⟨h1, e1, V1, X1⟩ := p_copy V (t7 _ _ hq) Y (by omega)
  have o1 := t2.eq (X1 21 (by omega))
  obtain ⟨h2, e2, o2, X2⟩ := o1.w 0 (nI (ps.length - m)) (gs := [.inl (nI (ps.length - m)), .inr (some 22)]) rfl (Nat.le_of_ble_eq_true rfl)
  refine ⟨h2, ?_, V1.fr X2 (by omega), ⟨sg, f, by rw [List.length_take]; omega, by rw [List.length_take, Nat.min_eq_left (by omega)]; exact o2, (t3.eq (X1 22 (by omega))).eq (X2 22 (by omega)), fun i hi => ?_, t6, fun i q hq => ?_⟩, fun k hk => (X2 k (by omega)).trans (X1 k (by omega))⟩
  · unfold f_X6_pop f_X6_pop_e
    rw [t2.chk, t2.g 0 rfl, bs, pk_sub hl, if_neg (nI_pos (by omega)), t2.r 1 rfl, bs, t3.len, bs, if_neg (nI_ge (by omega) (by omega)), bs, t3.ld (k := ps.length - m) (by omega) (by omega), u1, bs, e1, bs, e2, bs]
    rfl
  · obtain ⟨w1, w2, w3⟩ := t5 i hi
    exact ⟨w1, w2, (w3.fr X1 (by omega)).fr X2 (by omega)⟩
  · have hi := (List.getElem?_eq_some_iff.mp hq).1
    rw [List.length_take] at hi
    rw [List.getElem?_take_of_lt (by omega)] at hq
    exact ((t7 i q hq).fr X1 (by omega)).fr X2 (by omega)
/-! the reference's rows -/
def cpR (w : Nat → Int32) (x y : Nat) : Nat → Int32 := fun j => if y ≤ j ∧ j < y + 67 then w (x + (j - y)) else w j
theorem cpR_in {w : Nat → Int32} {x y k : Nat} (h : k < 67) : cpR w x y (y + k) = w (x + k) := by
  unfold cpR
  rw [if_pos (by omega)]
  congr 1; omega
theorem cpR_out {w : Nat → Int32} {x y j : Nat} (h : j < y ∨ y + 67 ≤ j) : cpR w x y j = w j := if_neg (by omega)
theorem l_copyRow {F : Nat → Int32} {x y : Nat} (hx : x ≤ 1541) (hy : y ≤ 1541) (hd : x + 67 ≤ y ∨ y + 67 ≤ x) (w : Nat → Int32) : ∀ m i, i + m = 67 → ∀ n, m < n → ∀ (h : HP) (A : AT), MM h F A → (∀ j, A 0 j = if y ≤ j ∧ j < y + i then w (x + (j - y)) else w j) → ∃ h' g, F_X9_copyRow_2 n 142 (nI x) (nI y) (nI i) h = some h' ∧ MM h' F (setA A 0 g) ∧ Fr h h' 142 12 ∧ ∀ j, g j = cpR w x y j := by
  intro m
  induction m with
  | zero =>
    intro i hi n hn h A M hA
    obtain ⟨n, rfl⟩ := sx hn
    have hi : i = 67 := by omega
    subst hi
    have hsA : setA A 0 (A 0) = A := funext fun j => by
      by_cases hj : j = 0
      · rw [hj, setA_s]
      · rw [setA_n A _ hj]
    refine ⟨h, A 0, ?_, by rw [hsA]; exact M, Fr.rfl, hA⟩
    show f_X9_copyRow_b2 _ _ _ _ _ _ = _
    unfold f_X9_copyRow_b2
    rw [if_pos (by decide)]
  | succ m ih =>
    intro i hi n hn h A M hA
    obtain ⟨n, rfl⟩ := sx hn
    obtain ⟨h1, e1, M1, X1⟩ := M.ast 0 (by omega) (show y + i < 1608 by omega) (A 0 (x + i))
    obtain ⟨h2, g, e2, M2, X2, hg⟩ := ih (i + 1) (by omega) n (by omega) h1 _ M1 (fun j => by
      rw [setA_s]
      by_cases hj : j = y + i
      · subst hj
        rw [us, hA, if_neg (by omega), if_pos (by omega)]
        congr 1; omega
      · rw [un hj, hA]
        by_cases h1 : y ≤ j ∧ j < y + i
        · rw [if_pos h1, if_pos (by omega)]
        · rw [if_neg h1, if_neg (by omega)])
    refine ⟨h2, g, ?_, ?_, X1.trans X2, hg⟩
    · show f_X9_copyRow_b2 _ _ _ _ _ _ = _
      unfold f_X9_copyRow_b2
      rw [if_neg (show ¬ (67 : Int32) ≤ nI i from nI_ge (b := 67) (by omega) (by omega)), M.r 0 rfl, bs, bs, nI_add, nI_add, M.ald 0 (by omega) (show x + i < 1608 by omega), bs]
      show (ast h (143 + 0) (nI (y + i)) _).bind _ = _
      rw [e1, bs, nI_1, e2]
    · have : setA (setA A 0 (upd (A 0) (y + i) (A 0 (x + i)))) 0 g = setA A 0 g := funext fun j => by
        by_cases hj : j = 0
        · rw [hj, setA_s, setA_s]
        · rw [setA_n _ _ hj, setA_n _ _ hj, setA_n _ _ hj]
      rw [this] at M2
      exact M2
theorem p_copyRow {h : HP} {F : Nat → Int32} {A : AT} (M : MM h F A) {x y : Nat} (hx : x ≤ 1541) (hy : y ≤ 1541) (hd : x + 67 ≤ y ∨ y + 67 ≤ x) : ∃ h', f_X9_copyRow 142 (nI x) (nI y) h = some h' ∧ MM h' F (setA A 0 (cpR (A 0) x y)) ∧ Fr h h' 142 12 := by
  obtain ⟨h', g, e, M', X, hg⟩ := l_copyRow hx hy hd (A 0) 67 0 (by omega) FU (fu_lt (by omega)) h A M (fun j => by rw [if_neg (by omega)])
  refine ⟨h', ?_, ?_, X⟩
  · unfold f_X9_copyRow f_X9_copyRow_e
    rw [M.chk]
    exact e
  · rw [← show g = cpR (A 0) x y from funext hg]; exact M'
theorem RV.to {w w' : Nat → Int32} {x y : Nat} {S : CS} (R : RV w x S) (Y : VS S) (he : ∀ j, j < 66 → w' (y + j) = w (x + j)) : RV w' y S := by
  have hP := Y.p6
  refine ⟨fun p hp => ?_, fun p hp => ?_, fun p hp k z hk => ?_, fun k z hk => ?_⟩
  · rw [Nat.add_assoc, he _ (by omega), ← Nat.add_assoc]; exact R.1 p hp
  · rw [Nat.add_assoc, he _ (by omega), ← Nat.add_assoc]; exact R.2.1 p hp
  · have := Y.len hp
    have := (List.getElem?_eq_some_iff.mp hk).1
    rw [Nat.add_assoc, he _ (by omega), ← Nat.add_assoc]; exact R.2.2.1 p hp k z hk
  · have := (List.getElem?_eq_some_iff.mp hk).1
    have := Y.2.2.2.2.2.1
    rw [Nat.add_assoc, he _ (by omega), ← Nat.add_assoc]; exact R.2.2.2 k z hk
theorem ix67 (k : Nat) : (67 : Int32) + 67 * nI k = nI (67 + 67 * k) := by rw [show (67 : Int32) = nI 67 from rfl, pk_mul, nI_add]
theorem setA_set (A : AT) (j : Nat) (f g : Nat → Int32) : setA (setA A j f) j g = setA A j g := funext fun i => by
  by_cases hj : i = j
  · rw [hj, setA_s, setA_s]
  · rw [setA_n _ _ hj, setA_n _ _ hj, setA_n _ _ hj]
theorem l_remember {F : Nat → Int32} {S : CS} {ps : List CS} (hl : ps.length = 20) (hv : PV S ps) : ∀ m i, i + m = 20 → 1 ≤ i → ∀ n, m < n → ∀ (h : HP) (A : AT), MM h F A → (∀ j q, i ≤ j → ps[j]? = some q → RV (A 0) (67 + 67 * j) q) → (∀ j q, j + 1 < i → ps[j + 1]? = some q → RV (A 0) (67 + 67 * j) q) → ∃ h1 g, F_X9_remember_11 n 142 (nI i) h = (gI h1 142 9 3).bind (fun v1 => (pI h1 142 9 3 (v1 - 1)).bind fun h2 => f_X9_remember_b53 142 h2) ∧ MM h1 F (setA A 0 g) ∧ Fr h h1 142 12 ∧ (∀ j q, j + 1 < 20 → ps[j + 1]? = some q → RV g (67 + 67 * j) q) ∧ ∀ j, (j < 67 ∨ 1407 ≤ j) → g j = A 0 j := by
  intro m
  induction m with
  | zero =>
    intro i hi h1i n hn h A M a1 a2
    obtain ⟨n, rfl⟩ := sx hn
    have hi : i = 20 := by omega
    subst hi
    have hsA : setA A 0 (A 0) = A := funext fun j => by
      by_cases hj : j = 0
      · rw [hj, setA_s]
      · rw [setA_n A _ hj]
    refine ⟨h, A 0, ?_, by rw [hsA]; exact M, Fr.rfl, fun j q hj hq => a2 j q hj hq, fun _ _ => rfl⟩
    show f_X9_remember_b11 _ _ _ _ = _
    unfold f_X9_remember_b11
    rw [if_pos (by decide)]
  | succ m ih =>
    intro i hi h1i n hn h A M a1 a2
    obtain ⟨n, rfl⟩ := sx hn
    obtain ⟨i, rfl⟩ : ∃ j, i = j + 1 := ⟨i - 1, by omega⟩
    obtain ⟨h1, e1, M1, X1⟩ := p_copyRow M (x := 67 + 67 * (i + 1)) (y := 67 + 67 * i) (by omega) (by omega) (by omega)
    obtain ⟨h2, g, e2, M2, X2, g1, g2⟩ := ih (i + 1 + 1) (by omega) (by omega) n (by omega) h1 _ M1 (fun j q hj hq => by
      rw [setA_s]
      have hj2 := (List.getElem?_eq_some_iff.mp hq).1
      exact (a1 j q (by omega) hq).eq (hv.2 j q hq).1 (fun z h1 h2 => cpR_out (by omega))) (fun j q hj hq => by
      rw [setA_s]
      by_cases hji : j = i
      · subst hji
        exact (a1 (j + 1) q (by omega) hq).to (hv.2 (j + 1) q hq).1 (fun z hz => cpR_in (by omega))
      · exact (a2 j q (by omega) hq).eq (hv.2 (j + 1) q hq).1 (fun z h1 h2 => cpR_out (by omega)))
    rw [setA_set] at M2
    refine ⟨h2, g, ?_, M2, X1.trans X2, g1, fun j hj => ?_⟩
    · show f_X9_remember_b11 _ _ _ _ = _
      unfold f_X9_remember_b11
      rw [if_neg (show ¬ (20 : Int32) ≤ nI (i + 1) from nI_ge (b := 20) (by omega) (by omega)), nI_pred, ix67, ix67, e1, bs, nI_1, e2]
    · rw [g2 j hj, setA_s, cpR_out (by omega)]
theorem p_remember0 {h : HP} {F : Nat → Int32} {A : AT} {S : CS} {ps : List CS} (M : MM h F A) (m : PMd F A ps) (hl : ps.length < 20) (hv : PV S ps) (R : RV (A 0) 0 S) (Y : VS S) : ∃ h' g, f_X9_remember_b53 142 h = some h' ∧ MM h' (upd F 3 (nI (ps.length + 1))) (setA A 0 g) ∧ Fr h h' 142 12 ∧ (∀ i q, (ps ++ [S])[i]? = some q → RV g (67 + 67 * i) q) ∧ ∀ j, (j < 67 ∨ 1407 ≤ j) → g j = A 0 j := by
  obtain ⟨h1, e1, M1, X1⟩ := p_copyRow M (x := 0) (y := 67 + 67 * ps.length) (by omega) (by omega) (by omega)
  obtain ⟨h2, e2, M2, X2⟩ := M1.p 3 (nI (ps.length + 1)) rfl (by omega)
  refine ⟨h2, _, ?_, M2, X1.trans X2, fun i q hq => ?_, fun j hj => cpR_out (by omega)⟩
  · unfold f_X9_remember_b53
    rw [M.g 3 rfl, bs, m.1, ix67]
    show (f_X9_copyRow 142 (nI 0) _ h).bind _ = _
    rw [e1, bs, M1.g 3 rfl, bs, m.1, nI_1, e2, bs]
  · by_cases hi : i < ps.length
    · rw [List.getElem?_append_left hi] at hq
      exact (m.2 i q hq).eq (hv.2 i q hq).1 (fun z h1 h2 => cpR_out (by omega))
    · rw [List.getElem?_append_right (by omega)] at hq
      have hz := (List.getElem?_eq_some_iff.mp hq).1
      simp at hz
      have hii : i = ps.length := by omega
      rw [hii, Nat.sub_self] at hq
      cases hq
      rw [hii]
      exact R.to Y (fun z hz => cpR_in (by omega))
theorem p_remember {h : HP} {F : Nat → Int32} {A : AT} {S : CS} {ps : List CS} (M : MM h F A) (m : PMd F A ps) (hv : PV S ps) (R : RV (A 0) 0 S) (Y : VS S) : ∃ h' g, f_X9_remember 142 h = some h' ∧ MM h' (upd F 3 (nI (pushL ps S).length)) (setA A 0 g) ∧ Fr h h' 142 12 ∧ (∀ i q, (pushL ps S)[i]? = some q → RV g (67 + 67 * i) q) ∧ ∀ j, (j < 67 ∨ 1407 ≤ j) → g j = A 0 j := by
  have hle := hv.1
  unfold pushL
  by_cases hl : ps.length = 20
  · rw [if_pos hl]
    obtain ⟨h1, g, e1, M1, X1, g1, g2⟩ := l_remember hl hv 19 1 (by omega) (by omega) FU (fu_lt (by omega)) h A M (fun j q _ hq => m.2 j q hq) (fun j q hj _ => by omega)
    obtain ⟨h2, e2, M2, X2⟩ := M1.p 3 (nI 19) rfl (by omega)
    have hd : (ps.drop 1).length = 19 := by rw [List.length_drop]; omega
    have hdr : ∀ i q, (ps.drop 1)[i]? = some q → i + 1 < 20 ∧ ps[i + 1]? = some q := fun i q hq => by
      have hi := (List.getElem?_eq_some_iff.mp hq).1
      rw [List.getElem?_drop, Nat.add_comm] at hq
      exact ⟨by omega, hq⟩
    obtain ⟨h3, g', e3, M3, X3, g3, g4⟩ := p_remember0 (ps := ps.drop 1) (S := S) M2 ⟨by rw [hd]; exact us, fun i q hq => by
      rw [setA_s]
      exact g1 i q (hdr i q hq).1 (hdr i q hq).2⟩ (by omega) ⟨by omega, fun i q hq => hv.2 (i + 1) q (hdr i q hq).2⟩ (R.eq Y (fun j h1 h2 => by rw [setA_s]; exact g2 j (by omega))) Y
    refine ⟨h3, g', ?_, ?_, (X1.trans X2).trans X3, g3, fun j hj => ?_⟩
    · unfold f_X9_remember f_X9_remember_e
      rw [M.chk, M.g 3 rfl, bs, m.1, hl, if_pos (by rfl)]
      show F_X9_remember_11 FU 142 (nI 1) h = _
      rw [e1, M1.g 3 rfl, bs, m.1, hl]
      show (pI h1 142 9 3 (nI (19 + 1) - 1)).bind _ = _
      rw [nI_pred, e2, bs, e3]
    · rw [setA_set] at M3
      have : upd (upd F 3 (nI 19)) 3 (nI ((ps.drop 1).length + 1)) = upd F 3 (nI (ps.drop 1 ++ [S]).length) := by
        funext j
        unfold upd
        by_cases hj : j = 3
        · rw [if_pos hj, if_pos hj, List.length_append]; rfl
        · rw [if_neg hj, if_neg hj, if_neg hj]
      rw [this] at M3
      exact M3
    · rw [g4 j hj, setA_s, g2 j hj]
  · rw [if_neg hl]
    obtain ⟨h3, g', e3, M3, X3, g3, g4⟩ := p_remember0 M m (by omega) hv R Y
    refine ⟨h3, g', ?_, by rw [List.length_append]; exact M3, X3, g3, g4⟩
    unfold f_X9_remember f_X9_remember_e
    rw [M.chk, M.g 3 rfl, bs, m.1, if_neg (show ¬ nI ps.length = (20 : Int32) from fun z => hl ((nI_eq (b := 20) (by omega) (by omega)).mp z)), e3]
