/-! THE REFERENCE: its one object at cell 142, its rows behind it -/
def mfs (F : Nat → Int32) : List MV := [.inr (some 143), .inl (F 1), .inl (F 2), .inl (F 3), .inl (F 4), .inr (some 144), .inl (F 6), .inl (F 7), .inr (some 145), .inr (some 146), .inr (some 147), .inl (F 11), .inr (some 148), .inr (some 149), .inr (some 150), .inl (F 15), .inr (some 151), .inr (some 152), .inl (F 18), .inl (F 19), .inl (F 20), .inl (F 21), .inl (F 22), .inl (F 23), .inl (F 24), .inl (F 25), .inl (F 26), .inr (some 153)]
def mlen (j : Nat) : Nat := match j with
  | 0 => 1608
  | 1 => 240
  | 2 => 6
  | 3 => 6
  | 4 => 6
  | 5 => 9
  | 6 => 6
  | 7 => 6
  | 8 => 20
  | 9 => 20
  | _ => 64
abbrev AT : Type := Nat → Nat → Int32
def MM (h : HP) (F : Nat → Int32) (A : AT) : Prop := h[142]? = some (.inl (9, mfs F)) ∧ ∀ j, j < 11 → IA h (143 + j) (mlen j) (A j)
def setA (A : AT) (j : Nat) (g : Nat → Int32) : AT := fun i => if i = j then g else A i
theorem setA_s (A : AT) (j : Nat) (g : Nat → Int32) : setA A j g j = g := if_pos rfl
theorem setA_n (A : AT) {j i : Nat} (g : Nat → Int32) (h : i ≠ j) : setA A j g i = A i := if_neg h
theorem mlen_lt (j : Nat) : mlen j < 2 ^ 31 := by unfold mlen; split <;> omega
section MMR
variable {h : HP} {F : Nat → Int32} {A : AT}
theorem MM.chk (M : MM h F A) {α : Type} (x : Option α) : ck h 142 9 x = x := by unfold ck; rw [M.1]; rfl
theorem MM.g (M : MM h F A) (k : Nat) (hk : (mfs F)[k]? = some (.inl (F k))) : gI h 142 9 k = some (F k) := by
  unfold gI; rw [M.1]
  show (if 9 = 9 then (match (mfs F)[k]? with | some (.inl x) => some x | _ => none) else none) = _
  rw [if_pos rfl, hk]
theorem MM.r (M : MM h F A) (k : Nat) {x : Nat} (hk : (mfs F)[k]? = some (.inr (some x))) : gR h 142 9 k = some x := by
  unfold gR; rw [M.1]
  show (if 9 = 9 then (match (mfs F)[k]? with | some (.inr (some x)) => some x | _ => none) else none) = _
  rw [if_pos rfl, hk]
theorem MM.p (M : MM h F A) (k : Nat) (x : Int32) (hk : (mfs F).set k (.inl x) = mfs (upd F k x)) (hl : k < 28) : ∃ h', pI h 142 9 k x = some h' ∧ MM h' (upd F k x) A ∧ Fr h h' 142 12 := by
  refine ⟨h.set 142 (.inl (9, mfs (upd F k x))), ?_, ⟨set_eq M.1, fun j hj => (M.2 j hj).ne (by omega)⟩, Fr.set (by omega) (by omega)⟩
  unfold pI pF; rw [M.1]
  show (if 9 = 9 ∧ k < (mfs F).length then some (h.set 142 (.inl (9, (mfs F).set k (.inl x)))) else none) = _
  rw [if_pos ⟨rfl, hl⟩, hk]
theorem MM.ald (M : MM h F A) (j : Nat) (hj : j < 11) {i : Nat} (hi : i < mlen j) : ald h (143 + j) (nI i) = some (A j i) := ia_ald (M.2 j hj) hi (mlen_lt j)
theorem MM.ast (M : MM h F A) (j : Nat) (hj : j < 11) {i : Nat} (hi : i < mlen j) (x : Int32) : ∃ h', ast h (143 + j) (nI i) x = some h' ∧ MM h' F (setA A j (upd (A j) i x)) ∧ Fr h h' 142 12 := by
  refine ⟨_, ia_ast (M.2 j hj) hi (mlen_lt j) x, ⟨?_, fun q hq => ?_⟩, Fr.set (by omega) (by omega)⟩
  · rw [set_ne (by omega)]; exact M.1
  · by_cases hqj : q = j
    · subst hqj
      rw [setA_s]
      exact (M.2 q hq).set _
    · rw [setA_n A _ hqj]
      exact (M.2 q hq).ne (by omega)
theorem MM.fr {h' : HP} {b m : Nat} (M : MM h F A) (X : Fr h h' b m) (hk : b + m ≤ 142 ∨ 154 ≤ b) : MM h' F A := ⟨by rw [X 142 (by omega)]; exact M.1, fun j hj => (M.2 j hj).fr X (by omega)⟩
end MMR
/-- a house in the reference's long row, from place x on -/
def RV (w : Nat → Int32) (x : Nat) (S : CS) : Prop := (∀ p, p < cP S → w (x + 54 + p) = enc (cS S p)) ∧ (∀ p, p < cP S → w (x + 48 + p) = nI (cL S p).length) ∧ (∀ p, p < cP S → RWl w (x + 8 * p) (cL S p)) ∧ RWl w (x + 60) (cO S)
theorem p_has {s k : Nat} (hs : s < 256) (hk : k < 8) (h : HP) : f_X9_has (nI s) (nI k) h = some (bI (s.testBit k), h) := by
  unfold f_X9_has f_X9_has_e
  by_cases hb : s.testBit k = true
  · rw [if_pos ((m_has s hs k hk).mpr hb), hb]; rfl
  · rw [if_neg (fun q => hb ((m_has s hs k hk).mp q)), Bool.not_eq_true _ |>.mp hb]; rfl
theorem p_in (x l u : Int32) (h : HP) : f_X9_in x l u h = some (bI (decide (¬ x < l ∧ ¬ u < x)), h) := by
  unfold f_X9_in f_X9_in_e
  by_cases h1 : x < l
  · rw [if_pos h1]
    simp [h1, f_X9_in_b14, f_X9_in_b15, bI]
  · rw [if_neg h1]
    by_cases h2 : u < x
    · rw [if_pos h2]
      simp [h2, f_X9_in_b14, f_X9_in_b15, bI]
    · rw [if_neg h2]
      simp [h1, h2, f_X9_in_b15, bI]
section MOD
variable {h : HP} {F : Nat → Int32} {A : AT} {S : CS} {x : Nat}
theorem l_sitterIn (M : MM h F A) (R : RV (A 0) x S) (Y : VS S) (hx : x ≤ 1541) {r : Nat} (hr : r < 8) : ∀ m i, i + m = cP S → ∀ n, m < n → F_X9_sitterIn_3 n 142 (nI x) (nI (cP S)) (nI r) (nI i) h = some (enc (fnd (fun p => cS S p == some r) m i), h) := by
  have hP := Y.p6
  intro m
  induction m with
  | zero =>
    intro i hi n hn
    obtain ⟨n, rfl⟩ := sx hn
    show f_X9_sitterIn_b3 _ _ _ _ _ _ _ = _
    unfold f_X9_sitterIn_b3
    rw [if_pos (nI_le (by omega) (by omega))]
    rfl
  | succ m ih =>
    intro i hi n hn
    obtain ⟨n, rfl⟩ := sx hn
    have hip : i < cP S := by omega
    show f_X9_sitterIn_b3 _ _ _ _ _ _ _ = _
    unfold f_X9_sitterIn_b3 fnd
    rw [if_neg (nI_ge hip (by omega)), M.r 0 rfl, bs, show nI x + 54 + nI i = nI (x + 54 + i) by rw [show (54 : Int32) = nI 54 from rfl, nI_add, nI_add], M.ald 0 (by omega) (show x + 54 + i < 1608 by omega), bs, R.1 i hip]
    have hk := enc_nI (o := cS S i) (r := r) (fun k hk => Y.seat hip hk) (by omega)
    by_cases hq : cS S i = some r
    · rw [if_pos (hk.mpr hq), if_pos (by rw [hq]; simp)]
      rfl
    · rw [if_neg (fun q => hq (hk.mp q)), if_neg (by simpa using hq), nI_1]
      exact ih (i + 1) (by omega) n (by omega)
theorem p_sitterIn (M : MM h F A) (R : RV (A 0) x S) (Y : VS S) (hx : x ≤ 1541) {r : Nat} (hr : r < 8) : f_X9_sitterIn 142 (nI x) (nI (cP S)) (nI r) h = some (enc (sitC S r), h) := by
  have hP := Y.p6
  unfold f_X9_sitterIn f_X9_sitterIn_e
  rw [M.chk]
  exact l_sitterIn M R Y hx hr (cP S) 0 (by omega) FU (fu_lt (by omega))
theorem ix8 (x p k : Nat) : nI x + 8 * nI p + nI k = nI (x + 8 * p + k) := by
  rw [show (8 : Int32) = nI 8 from rfl, pk_mul, nI_add, nI_add]
theorem ix48 (x p : Nat) : nI x + 48 + nI p = nI (x + 48 + p) := by rw [show (48 : Int32) = nI 48 from rfl, nI_add, nI_add]
theorem ix54 (x p : Nat) : nI x + 54 + nI p = nI (x + 54 + p) := by rw [show (54 : Int32) = nI 54 from rfl, nI_add, nI_add]
theorem ix60 (x p : Nat) : nI x + 60 + nI p = nI (x + 60 + p) := by rw [show (60 : Int32) = nI 60 from rfl, nI_add, nI_add]
theorem l_placeOfLike (M : MM h F A) (R : RV (A 0) x S) (Y : VS S) (hx : x ≤ 1541) {p : Nat} (hp : p < cP S) {r : Nat} (hr : r < 2 ^ 31) : ∀ (l : List Nat) i, (cL S p).drop i = l → i ≤ (cL S p).length → ∀ n, l.length < n → F_X9_placeOfLike_3 n 142 (nI x) (nI p) (nI r) (nI i) h = some (enc ((idx r l).map (i + ·)), h) := by
  have hP := Y.p6
  have hl := Y.len hp
  intro l
  induction l with
  | nil =>
    intro i hi hi2 n hn
    obtain ⟨n, rfl⟩ := sx hn
    have : (cL S p).length ≤ i := List.drop_eq_nil_iff.mp hi
    show f_X9_placeOfLike_b3 _ _ _ _ _ _ _ = _
    unfold f_X9_placeOfLike_b3
    rw [M.r 0 rfl, bs, ix48, M.ald 0 (by omega) (show x + 48 + p < 1608 by omega), bs, R.2.1 p hp, if_pos (nI_le this (by omega))]; rfl
  | cons y t ih =>
    intro i hi hi2 n hn
    obtain ⟨n, rfl⟩ := sx hn
    obtain ⟨d1, d2, d3⟩ := drop_cons hi
    have hy := Y.like hp d1
    show f_X9_placeOfLike_b3 _ _ _ _ _ _ _ = _
    unfold f_X9_placeOfLike_b3 idx
    rw [M.r 0 rfl, bs, ix48, M.ald 0 (by omega) (show x + 48 + p < 1608 by omega), bs, R.2.1 p hp, if_neg (nI_ge d3 (by omega)), bs, ix8, M.ald 0 (by omega) (show x + 8 * p + i < 1608 by omega), bs, R.2.2.1 p hp i y d1]
    by_cases hq : y = r
    · rw [if_pos (by rw [hq]), if_pos hq]; rfl
    · rw [if_neg (fun q => hq ((nI_eq (by omega) hr).mp q)), if_neg hq, nI_1, ih (i + 1) d2 (by omega) n (by simp at hn; omega), Option.map_map]
      rw [show ((fun x => i + x) ∘ fun x => x + 1) = (fun x => i + 1 + x) from funext fun k => by show i + (k + 1) = i + 1 + k; omega]
theorem p_placeOfLike (M : MM h F A) (R : RV (A 0) x S) (Y : VS S) (hx : x ≤ 1541) {p : Nat} (hp : p < cP S) {r : Nat} (hr : r < 2 ^ 31) : f_X9_placeOfLike 142 (nI x) (nI p) (nI r) h = some (enc (idx r (cL S p)), h) := by
  have hl := Y.len hp
  unfold f_X9_placeOfLike f_X9_placeOfLike_e
  rw [M.chk]
  refine (l_placeOfLike M R Y hx hp hr (cL S p) 0 rfl (by omega) FU (fu_lt (by omega))).trans ?_
  simp
/-- what one would have is laid -/
theorem l_layWants (Y : VS S) (hx : x ≤ 1541) {p : Nat} (hp : p < cP S) : ∀ (l : List Nat) i, (cL S p).drop i = l → i ≤ (cL S p).length → ∀ n, l.length < n → ∀ (h : HP) (A : AT), MM h F A → RV (A 0) x S → ∃ h' g, F_X9_layWants_21 n 142 (nI x) (nI p) (nI i) (enc (cS S p)) 1 (nI i) h = some (nI (i + (wants (cS S p) l).length), h') ∧ MM h' F (setA A 5 g) ∧ Fr h h' 142 12 ∧ (∀ q, q < i → g q = A 5 q) ∧ RWl g i (wants (cS S p) l) := by
  have hP := Y.p6
  have hl := Y.len hp
  intro l
  induction l with
  | nil =>
    intro i hi hi2 n hn h A M R
    obtain ⟨n, rfl⟩ := sx hn
    have hii : (cL S p).length ≤ i := List.drop_eq_nil_iff.mp hi
    have hsA : setA A 5 (A 5) = A := funext fun j => by
      by_cases hj : j = 5
      · rw [hj, setA_s]
      · rw [setA_n A _ hj]
    have pre : F_X9_layWants_21 (n + 1) 142 (nI x) (nI p) (nI i) (enc (cS S p)) 1 (nI i) h = f_X9_layWants_b89 142 (nI i) (enc (cS S p)) 1 h := by
      show f_X9_layWants_b21 _ _ _ _ _ _ _ _ _ = _
      unfold f_X9_layWants_b21
      rw [M.r 0 rfl, bs, ix48, M.ald 0 (by omega) (show x + 48 + p < 1608 by omega), bs, R.2.1 p hp, if_pos (nI_le hii (by omega))]
    rw [pre]
    unfold f_X9_layWants_b89 wants
    rw [if_neg (show ¬ (1 : Int32) = 0 by decide)]
    cases hc : cS S p with
    | none =>
      refine ⟨h, A 5, ?_, by rw [hsA]; exact M, Fr.rfl, fun _ _ => rfl, fun j y hj => by simp at hj⟩
      rw [if_pos (by rfl)]
      rfl
    | some q =>
      have hq8 := Y.seat hp hc
      obtain ⟨h1, e1, M1, F1⟩ := M.ast 5 (by omega) (show i < 9 by omega) (nI q)
      refine ⟨h1, upd (A 5) i (nI q), ?_, M1, F1, fun z hz => un (by omega), fun j y hj => ?_⟩
      · rw [if_neg (show ¬ enc (some q) = -1 from nI_neg1 (by omega)), M.r 12 rfl, bs]
        show (ast h (143 + 5) (nI i) (nI q)).bind _ = _
        rw [e1, bs, nI_1]
        rfl
      · have hj : ([q] : List Nat)[j]? = some y := hj
        have hz := (List.getElem?_eq_some_iff.mp hj).1
        simp at hz
        subst hz
        cases hj
        rw [Nat.add_zero, us]
  | cons y t ih =>
    intro i hi hi2 n hn h A M R
    obtain ⟨n, rfl⟩ := sx hn
    obtain ⟨d1, d2, d3⟩ := drop_cons hi
    have hy := Y.like hp d1
    obtain ⟨h1, e1, M1, F1⟩ := M.ast 5 (by omega) (show i < 9 by omega) (nI y)
    have R1 : RV (setA A 5 (upd (A 5) i (nI y)) 0) x S := by rw [setA_n A _ (by omega)]; exact R
    have pre : F_X9_layWants_21 (n + 1) 142 (nI x) (nI p) (nI i) (enc (cS S p)) 1 (nI i) h = if nI y = enc (cS S p) then f_X9_layWants_b78 (F_X9_layWants_21 n) 142 (nI x) (nI p) (nI i) (enc (cS S p)) (nI i) 0 h1 else f_X9_layWants_b78 (F_X9_layWants_21 n) 142 (nI x) (nI p) (nI i) (enc (cS S p)) (nI i) 1 h1 := by
      show f_X9_layWants_b21 _ _ _ _ _ _ _ _ _ = _
      unfold f_X9_layWants_b21
      rw [M.r 0 rfl, bs, ix48, M.ald 0 (by omega) (show x + 48 + p < 1608 by omega), bs, R.2.1 p hp, if_neg (nI_ge d3 (by omega)), if_neg (show ¬ (1 : Int32) = 0 by decide), M.r 12 rfl, bs, bs, ix8, M.ald 0 (by omega) (show x + 8 * p + i < 1608 by omega), bs, R.2.2.1 p hp i y d1]
      show (ast h (143 + 5) (nI i) (nI y)).bind _ = _
      rw [e1, bs, M1.r 12 rfl, bs]
      show (ald h1 (143 + 5) (nI i)).bind _ = _
      rw [M1.ald 5 (by omega) (show i < 9 by omega), bs, setA_s, us]
    rw [pre]
    have hk := enc_nI (o := cS S p) (r := y) (fun k hk => Y.seat hp hk) (by omega)
    unfold f_X9_layWants_b78 wants
    by_cases hq : cS S p = some y
    · rw [if_pos (hk.mpr hq).symm, if_pos hq, nI_1]
      refine ⟨h1, upd (A 5) i (nI y), ?_, M1, F1, fun z hz => un (by omega), fun j z hj => ?_⟩
      · -- 'more' is false: it ends
        have hn2 : 0 < n := by simp at hn; omega
        obtain ⟨n, rfl⟩ := sx hn2
        show f_X9_layWants_b21 _ _ _ _ _ _ _ _ _ = _
        unfold f_X9_layWants_b21 f_X9_layWants_b89
        rw [M1.r 0 rfl, bs, ix48, M1.ald 0 (by omega) (show x + 48 + p < 1608 by omega), bs, if_pos rfl]
        by_cases hlast : setA A 5 (upd (A 5) i (nI y)) 0 (x + 48 + p) ≤ nI (i + 1)
        · rw [if_pos hlast]; rfl
        · rw [if_neg hlast, if_pos rfl]; rfl
      · have hz := (List.getElem?_eq_some_iff.mp hj).1
        simp at hz
        subst hz
        cases hj
        rw [Nat.add_zero, us]
    · rw [if_neg (fun z => hq (hk.mp z.symm)), if_neg hq, nI_1]
      obtain ⟨h', g, e, M', F', g1, g2⟩ := ih (i + 1) d2 (by omega) n (by simp at hn; omega) h1 _ M1 R1
      refine ⟨h', g, ?_, ?_, F1.trans F', fun z hz => ?_, fun j z hj => ?_⟩
      · rw [e, List.length_cons]
        congr 3
        omega
      · have : setA (setA A 5 (upd (A 5) i (nI y))) 5 g = setA A 5 g := funext fun j => by
          by_cases hj : j = 5
          · rw [hj, setA_s, setA_s]
          · rw [setA_n _ _ hj, setA_n _ _ hj, setA_n _ _ hj]
        rw [this] at M'
        exact M'
      · rw [g1 z (by omega), setA_s, un (by omega)]
      · cases j with
        | zero =>
          cases hj
          rw [Nat.add_zero, g1 i (by omega), setA_s, us]
        | succ j =>
          have := g2 j z hj
          rw [show i + (j + 1) = i + 1 + j by omega]
          exact this
end MOD
