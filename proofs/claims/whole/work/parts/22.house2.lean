theorem b1n : ¬ bI true = 0 := by decide
theorem drop_cons {l t : List Nat} {i x : Nat} (h : l.drop i = x :: t) : l[i]? = some x ∧ l.drop (i + 1) = t ∧ i < l.length := by
  have hl : i < l.length := by
    rcases Nat.lt_or_ge i l.length with q | q
    · exact q
    · rw [List.drop_eq_nil_of_le q] at h; cases h
  have h2 := List.drop_eq_getElem_cons hl
  rw [h] at h2
  injection h2 with h3 h4
  exact ⟨by rw [List.getElem?_eq_getElem hl, h3], h4.symm, hl⟩
section HVR2
variable {h : HP} {a : Nat} {S : CS}
theorem l_sitterN (V : HV h a S) (Y : VS S) : ∀ m i, i + m = cP S → ∀ n, m < n → F_X3_sitter_2 n a (-1) (nI i) h = some (-1, h) := by
  have hP := Y.p6
  intro m
  induction m with
  | zero =>
    intro i hi n hn
    obtain ⟨n, rfl⟩ := sx hn
    show f_X3_sitter_b2 _ _ _ _ _ = _
    unfold f_X3_sitter_b2
    rw [V.pers, bs, if_pos (nI_le (by omega) (by omega))]
  | succ m ih =>
    intro i hi n hn
    obtain ⟨n, rfl⟩ := sx hn
    show f_X3_sitter_b2 _ _ _ _ _ = _
    unfold f_X3_sitter_b2 f_X3_sitter_b29
    rw [V.pers, bs, if_neg (nI_ge (show i < cP S by omega) (by omega)), if_pos rfl, nI_1]
    exact ih (i + 1) (by omega) n (by omega)
theorem p_sitterO (V : HV h a S) (Y : VS S) {o : Option Nat} (ho : ∀ k, o = some k → k < 8) : f_X3_sitter a (enc o) h = some (enc (sitO S o), h) := by
  have hP := Y.p6
  cases o with
  | none =>
    unfold f_X3_sitter f_X3_sitter_e
    rw [V.chk]
    exact l_sitterN V Y (cP S) 0 (by omega) FU (fu_lt (by omega))
  | some r => exact p_sitter V Y (ho r rfl)
theorem sitC_lt {r p : Nat} (hs : sitC S r = some p) : p < cP S ∧ cS S p = some r := by
  obtain ⟨h1, h2, h3⟩ := fnd_lt hs
  exact ⟨by omega, by simpa using h3⟩
theorem sitO_lt {o : Option Nat} {p : Nat} (hs : sitO S o = some p) : p < cP S := by
  cases o with
  | none => cases hs
  | some r => exact (sitC_lt hs).1
/-! rooms in which those of a set sit -/
def seatsC (S : CS) (set : Nat) : Nat := fld (fun t p => if set.testBit p then insO t (cS S p) else t) (cP S) 0 0
theorem l_seatsOf (V : HV h a S) (Y : VS S) {set : Nat} (hs : set < 256) : ∀ m i, i + m = cP S → ∀ n, m < n → ∀ t, t < 256 → F_X3_seatsOf_4 n a (nI set) (nI t) (nI i) h = some (nI (fld (fun t p => if set.testBit p then insO t (cS S p) else t) m i t), h) ∧ fld (fun t p => if set.testBit p then insO t (cS S p) else t) m i t < 256 := by
  have hP := Y.p6
  intro m
  induction m with
  | zero =>
    intro i hi n hn t ht
    obtain ⟨n, rfl⟩ := sx hn
    refine ⟨?_, ht⟩
    show f_X3_seatsOf_b4 _ _ _ _ _ _ = _
    unfold f_X3_seatsOf_b4
    rw [V.pers, bs, if_pos (nI_le (by omega) (by omega))]
    rfl
  | succ m ih =>
    intro i hi n hn t ht
    obtain ⟨n, rfl⟩ := sx hn
    have hip : i < cP S := by omega
    have hL : (if set.testBit i then insO t (cS S i) else t) < 256 := by
      by_cases hb : set.testBit i = true
      · rw [if_pos hb]; exact insO_lt ht (fun k hk => Y.seat hip hk)
      · rw [if_neg hb]; exact ht
    obtain ⟨e1, e2⟩ := ih (i + 1) (by omega) n (by omega) _ hL
    refine ⟨?_, e2⟩
    show f_X3_seatsOf_b4 _ _ _ _ _ _ = _
    unfold f_X3_seatsOf_b4 f_X3_seatsOf_b33 fld
    rw [← e1, V.pers, bs, if_neg (nI_ge hip (by omega)), p_holds hs (by omega), bs]
    by_cases hb : set.testBit i = true
    · rw [if_neg (by rw [hb]; exact b1n), V.r2, bs, V.seat Y hip, bs, p_withO ht (fun k hk => Y.seat hip hk), bs, if_pos hb, nI_1]
    · rw [if_pos (by rw [Bool.not_eq_true _ |>.mp hb]; rfl), if_neg hb, nI_1]
theorem p_seatsOf (V : HV h a S) (Y : VS S) {set : Nat} (hs : set < 256) : f_X3_seatsOf a (nI set) h = some (nI (seatsC S set), h) := by
  have hP := Y.p6
  unfold f_X3_seatsOf f_X3_seatsOf_e
  rw [V.chk]
  exact (l_seatsOf V Y hs (cP S) 0 (by omega) FU (fu_lt (by omega)) 0 (by omega)).1
theorem seatsC_lt (Y : VS S) {set : Nat} : seatsC S set < 256 := by
  have : ∀ m i t, i + m = cP S → t < 256 → fld (fun t p => if set.testBit p then insO t (cS S p) else t) m i t < 256 := by
    intro m
    induction m with
    | zero => intro i t _ ht; exact ht
    | succ m ih =>
      intro i t hi ht
      unfold fld
      refine ih (i + 1) _ (by omega) ?_
      by_cases hb : set.testBit i = true
      · rw [if_pos hb]; exact insO_lt ht (fun k hk => Y.seat (by omega) hk)
      · rw [if_neg hb]; exact ht
  exact this (cP S) 0 0 (by omega) (by omega)
def emptyC (S : CS) : Nat := adn (2 ^ cN S - 1) (seatsC S (2 ^ cP S - 1))
theorem p_emptyRooms (V : HV h a S) (Y : VS S) : f_X3_emptyRooms a h = some (nI (emptyC S), h) := by
  have hP := Y.p6
  have hN := Y.n8
  unfold f_X3_emptyRooms f_X3_emptyRooms_e
  rw [V.chk, V.rooms, bs, p_firstOnes (by omega), bs, V.pers, bs, p_firstOnes (by omega), bs, p_seatsOf V Y (m_full_lt _ (by omega)), bs]
  show some (nI (2 ^ cN S - 1) &&& (nI (seatsC S (2 ^ cP S - 1)) ^^^ (-1)), h) = _
  rw [m_adn (seatsC_lt Y)]
  rfl
/-! likes -/
theorem p_liking (V : HV h a S) (Y : VS S) {p : Nat} (hp : p < cP S) (x : Int32) : f_X3_liking a (nI p) x h = some (enc (if x < 0 then none else (cL S p)[x.toNatClampNeg]?), h) := by
  have hP := Y.p6
  have hl := Y.len hp
  unfold f_X3_liking f_X3_liking_e
  rw [V.chk]
  by_cases h0 : x < 0
  · rw [if_pos h0, if_pos h0]; rfl
  · rw [if_neg h0, if_neg h0, V.r3, bs, V.amt Y hp, bs]
    obtain ⟨j, hj, rfl⟩ := nI_of h0
    rw [nI_clamp hj]
    by_cases hk : j < (cL S p).length
    · have hr : (cL S p)[j]? = some ((cL S p)[j]) := List.getElem?_eq_getElem hk
      rw [if_neg (nI_ge hk (by omega)), V.r4, bs, V.lik Y hp hr, bs, hr]
      rfl
    · rw [if_pos (nI_le (by omega) (by omega)), List.getElem?_eq_none (by omega)]
      rfl
def idx (r : Nat) (l : List Nat) : Option Nat := match l with
  | [] => none
  | x :: t => if x = r then some 0 else (idx r t).map (· + 1)
theorem enc_lt (r : Nat) : ∀ k, some r = some k → k < r + 1 := fun k hk => by cases hk; omega
theorem l_likingPlace (V : HV h a S) (Y : VS S) {p : Nat} (hp : p < cP S) {r : Nat} (hr : r < 2 ^ 31) : ∀ (l : List Nat) i, (cL S p).drop i = l → i ≤ (cL S p).length → ∀ n, l.length < n → F_X3_likingPlace_12 n a (nI p) (nI r) (nI (cL S p).length) (nI i) h = some (enc ((idx r l).map (i + ·)), h) := by
  have hP := Y.p6
  have hl := Y.len hp
  intro l
  induction l with
  | nil =>
    intro i hi hi2 n hn
    obtain ⟨n, rfl⟩ := sx hn
    have : (cL S p).length ≤ i := List.drop_eq_nil_iff.mp hi
    show f_X3_likingPlace_b12 _ _ _ _ _ _ _ = _
    unfold f_X3_likingPlace_b12
    rw [if_pos (nI_le this (by omega))]; rfl
  | cons x t ih =>
    intro i hi hi2 n hn
    obtain ⟨n, rfl⟩ := sx hn
    obtain ⟨d1, d2, d3⟩ := drop_cons hi
    show f_X3_likingPlace_b12 _ _ _ _ _ _ _ = _
    unfold f_X3_likingPlace_b12 idx
    rw [if_neg (nI_ge d3 (by omega)), V.r4, bs, V.lik Y hp d1, bs]
    have hx := Y.like hp d1
    by_cases hq : x = r
    · rw [if_pos (by rw [hq]), if_pos hq]; rfl
    · rw [if_neg (fun q => hq ((nI_eq (by omega) hr).mp q)), if_neg hq, nI_1, ih (i + 1) d2 (by omega) n (by simp at hn; omega), Option.map_map]
      rw [show ((fun x => i + x) ∘ fun x => x + 1) = (fun x => i + 1 + x) from funext fun k => by show i + (k + 1) = i + 1 + k; omega]
theorem p_likingPlace (V : HV h a S) (Y : VS S) {p : Nat} (hp : p < cP S) {r : Nat} (hr : r < 2 ^ 31) : f_X3_likingPlace a (nI p) (nI r) h = some (enc (idx r (cL S p)), h) := by
  have hl := Y.len hp
  unfold f_X3_likingPlace f_X3_likingPlace_e
  rw [V.chk, V.r3, bs, V.amt Y hp, bs]
  refine (l_likingPlace V Y hp hr (cL S p) 0 rfl (by omega) FU (fu_lt (by omega))).trans ?_
  simp
theorem l_placeOf (V : HV h a S) (Y : VS S) {p : Nat} (hp : p < 2 ^ 31) : ∀ (l : List Nat) i, (cO S).drop i = l → i ≤ cP S → ∀ n, l.length < n → F_X3_placeOf_2 n a (nI p) (nI i) h = some (enc ((idx p l).map (i + ·)), h) := by
  have hP := Y.p6
  have hO := Y.2.2.2.2.2.1
  intro l
  induction l with
  | nil =>
    intro i hi hi2 n hn
    obtain ⟨n, rfl⟩ := sx hn
    have : (cO S).length ≤ i := List.drop_eq_nil_iff.mp hi
    show f_X3_placeOf_b2 _ _ _ _ _ = _
    unfold f_X3_placeOf_b2
    rw [V.pers, bs, if_pos (nI_le (by omega) (by omega))]; rfl
  | cons x t ih =>
    intro i hi hi2 n hn
    obtain ⟨n, rfl⟩ := sx hn
    obtain ⟨d1, d2, d3⟩ := drop_cons hi
    show f_X3_placeOf_b2 _ _ _ _ _ = _
    unfold f_X3_placeOf_b2 idx
    rw [V.pers, bs, if_neg (nI_ge (show i < cP S by omega) (by omega)), V.r5, bs, V.ord Y d1, bs]
    have hx := Y.ord d1
    by_cases hq : x = p
    · rw [if_pos (by rw [hq]), if_pos hq]; rfl
    · rw [if_neg (fun q => hq ((nI_eq (by omega) hp).mp q)), if_neg hq, nI_1, ih (i + 1) d2 (by omega) n (by simp at hn; omega), Option.map_map]
      rw [show ((fun x => i + x) ∘ fun x => x + 1) = (fun x => i + 1 + x) from funext fun k => by show i + (k + 1) = i + 1 + k; omega]
theorem p_placeOf (V : HV h a S) (Y : VS S) {p : Nat} (hp : p < 2 ^ 31) : f_X3_placeOf a (nI p) h = some (enc (idx p (cO S)), h) := by
  have hP := Y.p6
  have hO := Y.2.2.2.2.2.1
  unfold f_X3_placeOf f_X3_placeOf_e
  rw [V.chk]
  refine (l_placeOf V Y hp (cO S) 0 rfl (by omega) FU (fu_lt (by omega))).trans ?_
  simp
theorem l_firstOf (V : HV h a S) (Y : VS S) {s : Nat} (hs : s < 256) : ∀ (l : List Nat) i, (cO S).drop i = l → i ≤ cP S → ∀ n, l.length < n → F_X3_firstOf_2 n a (nI s) (nI i) h = some (enc (l.find? (fun q => s.testBit q)), h) := by
  have hP := Y.p6
  have hO := Y.2.2.2.2.2.1
  intro l
  induction l with
  | nil =>
    intro i hi hi2 n hn
    obtain ⟨n, rfl⟩ := sx hn
    have : (cO S).length ≤ i := List.drop_eq_nil_iff.mp hi
    show f_X3_firstOf_b2 _ _ _ _ _ = _
    unfold f_X3_firstOf_b2
    rw [V.pers, bs, if_pos (nI_le (by omega) (by omega))]; rfl
  | cons x t ih =>
    intro i hi hi2 n hn
    obtain ⟨n, rfl⟩ := sx hn
    obtain ⟨d1, d2, d3⟩ := drop_cons hi
    have hx := Y.ord d1
    show f_X3_firstOf_b2 _ _ _ _ _ = _
    unfold f_X3_firstOf_b2
    rw [V.pers, bs, if_neg (nI_ge (show i < cP S by omega) (by omega)), V.r5, bs, V.ord Y d1, bs, p_holds hs (by omega), bs]
    by_cases hb : s.testBit x = true
    · rw [if_neg (by rw [hb]; exact b1n), List.find?_cons_of_pos hb]; rfl
    · rw [if_pos (by rw [Bool.not_eq_true _ |>.mp hb]; rfl), List.find?_cons_of_neg hb, nI_1]
      exact ih (i + 1) d2 (by omega) n (by simp at hn; omega)
def firstC (S : CS) (s : Nat) : Option Nat := (cO S).find? (fun q => s.testBit q)
theorem p_firstOf (V : HV h a S) (Y : VS S) {s : Nat} (hs : s < 256) : f_X3_firstOf a (nI s) h = some (enc (firstC S s), h) := by
  have hP := Y.p6
  have hO := Y.2.2.2.2.2.1
  unfold f_X3_firstOf f_X3_firstOf_e
  rw [V.chk]
  exact l_firstOf V Y hs (cO S) 0 rfl (by omega) FU (fu_lt (by omega))
/-! what a person would have, the first most -/
def wants (seat : Option Nat) : List Nat → List Nat
  | [] => seat.toList
  | r :: t => if seat = some r then [r] else r :: wants seat t
def bestL (set : Nat) (l : List Nat) : Option Nat := l.find? (fun r => set.testBit r)
def wantsC (S : CS) (p : Nat) : List Nat := wants (cS S p) (cL S p)
def bestC (S : CS) (p set : Nat) : Option Nat := bestL set (wantsC S p)
theorem l_best (V : HV h a S) (Y : VS S) {p : Nat} (hp : p < cP S) {s : Nat} (hs : s < 256) : ∀ (l : List Nat) i, (cL S p).drop i = l → i ≤ (cL S p).length → ∀ n, l.length < n → F_X3_best_22 n a (nI p) (nI s) (enc (cS S p)) (nI (cL S p).length) (nI i) h = some (enc (bestL s (wants (cS S p) l)), h) := by
  have hP := Y.p6
  have hl := Y.len hp
  intro l
  induction l with
  | nil =>
    intro i hi hi2 n hn
    obtain ⟨n, rfl⟩ := sx hn
    have : (cL S p).length ≤ i := List.drop_eq_nil_iff.mp hi
    show f_X3_best_b22 _ _ _ _ _ _ _ _ = _
    unfold f_X3_best_b22
    rw [if_pos (nI_le this (by omega)), p_holdsO hs (fun k hk => Y.seat hp hk), bs]
    unfold wants bestL hasO
    cases hc : cS S p with
    | none => rw [if_pos (by rfl)]; rfl
    | some q =>
      by_cases hb : s.testBit q = true
      · rw [if_neg (by show ¬ bI (s.testBit q) = 0; rw [hb]; exact b1n)]
        show some (enc (some q), h) = some (enc ([q].find? _), h)
        rw [List.find?_cons_of_pos hb]
      · rw [if_pos (by show bI (s.testBit q) = 0; rw [Bool.not_eq_true _ |>.mp hb]; rfl)]
        show some (-1, h) = some (enc ([q].find? _), h)
        rw [List.find?_cons_of_neg hb]; rfl
  | cons x t ih =>
    intro i hi hi2 n hn
    obtain ⟨n, rfl⟩ := sx hn
    obtain ⟨d1, d2, d3⟩ := drop_cons hi
    have hx := Y.like hp d1
    show f_X3_best_b22 _ _ _ _ _ _ _ _ = _
    unfold f_X3_best_b22 wants
    rw [if_neg (nI_ge d3 (by omega)), V.r4, bs, V.lik Y hp d1, bs, p_holds hs hx, bs]
    have hk := enc_nI (o := cS S p) (r := x) (fun k hk => Y.seat hp hk) (by omega)
    by_cases hb : s.testBit x = true
    · rw [if_neg (by rw [hb]; exact b1n)]
      by_cases hq : cS S p = some x
      · rw [if_pos hq]; unfold bestL; rw [List.find?_cons_of_pos hb]; rfl
      · rw [if_neg hq]; unfold bestL; rw [List.find?_cons_of_pos hb]; rfl
    · rw [if_pos (by rw [Bool.not_eq_true _ |>.mp hb]; rfl)]
      by_cases hq : cS S p = some x
      · rw [if_pos (hk.mpr hq).symm, if_pos hq]; unfold bestL; rw [List.find?_cons_of_neg hb]; rfl
      · rw [if_neg (fun q => hq (hk.mp q.symm)), if_neg hq, nI_1]
        have e := ih (i + 1) d2 (by omega) n (by simp at hn; omega)
        unfold bestL at e ⊢
        rw [List.find?_cons_of_neg hb]
        exact e
theorem p_best (V : HV h a S) (Y : VS S) {p : Nat} (hp : p < cP S) {s : Nat} (hs : s < 256) : f_X3_best a (nI p) (nI s) h = some (enc (bestC S p s), h) := by
  have hl := Y.len hp
  unfold f_X3_best f_X3_best_e
  rw [V.chk, V.r2, bs, V.seat Y hp, bs, V.r3, bs, V.amt Y hp, bs]
  exact l_best V Y hp hs (cL S p) 0 rfl (by omega) FU (fu_lt (by omega))
/-- how many rooms are wanted more: all, if it is not wanted -/
def rankL (o : Option Nat) : List Nat → Nat
  | [] => 0
  | x :: t => if o = some x then 0 else rankL o t + 1
def rankC (S : CS) (p : Nat) (o : Option Nat) : Nat := rankL o (wantsC S p)
theorem l_rank (V : HV h a S) (Y : VS S) {p : Nat} (hp : p < cP S) {o : Option Nat} (ho : ∀ k, o = some k → k < 8) : ∀ (l : List Nat) i, (cL S p).drop i = l → i ≤ (cL S p).length → ∀ n, l.length < n → F_X3_rank_22 n a (nI p) (enc o) (enc (cS S p)) (nI (cL S p).length) (nI i) h = some (nI (i + rankL o (wants (cS S p) l)), h) := by
  have hP := Y.p6
  have hl := Y.len hp
  intro l
  induction l with
  | nil =>
    intro i hi hi2 n hn
    obtain ⟨n, rfl⟩ := sx hn
    have : (cL S p).length ≤ i := List.drop_eq_nil_iff.mp hi
    have hii : i = (cL S p).length := by omega
    show f_X3_rank_b22 _ _ _ _ _ _ _ _ = _
    unfold f_X3_rank_b22 wants
    rw [if_pos (nI_le this (by omega)), ← hii]
    cases hc : cS S p with
    | none => rw [if_pos (by rfl)]; rfl
    | some q =>
      have hq8 := Y.seat hp hc
      rw [if_neg (show ¬ enc (some q) = -1 from nI_neg1 (by omega))]
      have hk := enc_nI (o := o) (r := q) ho (by omega)
      by_cases hq : o = some q
      · rw [if_pos (show enc (some q) = enc o by rw [hq])]
        show _ = some (nI (i + rankL o [q]), h)
        unfold rankL
        rw [if_pos hq]; rfl
      · rw [if_neg (fun z => hq (hk.mp z.symm))]
        show some (nI i + 1, h) = some (nI (i + rankL o [q]), h)
        unfold rankL
        rw [if_neg hq, nI_1]; rfl
  | cons x t ih =>
    intro i hi hi2 n hn
    obtain ⟨n, rfl⟩ := sx hn
    obtain ⟨d1, d2, d3⟩ := drop_cons hi
    have hx := Y.like hp d1
    show f_X3_rank_b22 _ _ _ _ _ _ _ _ = _
    unfold f_X3_rank_b22 wants
    rw [if_neg (nI_ge d3 (by omega)), V.r4, bs, V.lik Y hp d1, bs]
    have hk := enc_nI (o := cS S p) (r := x) (fun k hk => Y.seat hp hk) (by omega)
    have hk2 := enc_nI (o := o) (r := x) ho (by omega)
    by_cases ho2 : o = some x
    · rw [if_pos (show nI x = enc o from (hk2.mpr ho2).symm)]
      by_cases hq : cS S p = some x
      · rw [if_pos hq]; unfold rankL; rw [if_pos ho2]; rfl
      · rw [if_neg hq]; unfold rankL; rw [if_pos ho2]; rfl
    · rw [if_neg (fun q => ho2 (hk2.mp q.symm))]
      by_cases hq : cS S p = some x
      · rw [if_pos (hk.mpr hq).symm, if_pos hq, nI_1]; unfold rankL; rw [if_neg ho2]; rfl
      · rw [if_neg (fun q => hq (hk.mp q.symm)), if_neg hq, nI_1]
        have e := ih (i + 1) d2 (by omega) n (by simp at hn; omega)
        rw [e]
        show _ = some (nI (i + rankL o (x :: wants (cS S p) t)), h)
        rw [show rankL o (x :: wants (cS S p) t) = rankL o (wants (cS S p) t) + 1 by rw [rankL, if_neg ho2]]
        congr 3
        omega
theorem p_rank (V : HV h a S) (Y : VS S) {p : Nat} (hp : p < cP S) {o : Option Nat} (ho : ∀ k, o = some k → k < 8) : f_X3_rank a (nI p) (enc o) h = some (nI (rankC S p o), h) := by
  have hl := Y.len hp
  unfold f_X3_rank f_X3_rank_e
  rw [V.chk, V.r2, bs, V.seat Y hp, bs, V.r3, bs, V.amt Y hp, bs]
  refine (l_rank V Y hp ho (cL S p) 0 rfl (by omega) FU (fu_lt (by omega))).trans ?_
  rw [Nat.zero_add]
  rfl
end HVR2
