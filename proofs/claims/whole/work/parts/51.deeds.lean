/-! the reference's deeds on its long row -/
section MDD
variable {F : Nat → Int32} {S : CS} {x : Nat}
theorem setA_self (A : AT) (j : Nat) : setA A j (A j) = A := funext fun i => by
  by_cases hj : i = j
  · rw [hj, setA_s]
  · rw [setA_n A _ hj]
theorem RV.lk {w w' : Nat → Int32} (R : RV w x S) (Y : VS S) {p : Nat} {l : List Nat} (hp : p < cP S) (h1 : w' (x + 48 + p) = nI l.length) (h3 : RWl w' (x + 8 * p) l) (h4 : ∀ j, (j < x + 8 * p ∨ x + 8 * p + 8 ≤ j) → j ≠ x + 48 + p → w' j = w j) : RV w' x (setLk S p l) := by
  have hP := Y.p6
  refine ⟨fun q hq => ?_, fun q hq => ?_, fun q hq k y hk => ?_, fun k y hk => ?_⟩
  · rw [h4 _ (by omega) (by omega)]; exact R.1 q hq
  · by_cases hqp : q = p
    · subst hqp; rw [h1, setLk_at]
    · rw [h4 _ (by omega) (by omega), setLk_ne S l hqp]; exact R.2.1 q hq
  · by_cases hqp : q = p
    · subst hqp
      rw [setLk_at] at hk
      exact h3 k y hk
    · rw [setLk_ne S l hqp] at hk
      have hl := Y.len hq
      have := (List.getElem?_eq_some_iff.mp hk).1
      have hq6 : q < 6 := Nat.lt_of_lt_of_le hq hP
      rw [h4 _ (by omega) (by omega)]
      exact R.2.2.1 q hq k y hk
  · have hk : (cO S)[k]? = some y := hk
    rw [h4 _ (by omega) (by omega)]; exact R.2.2.2 k y hk
theorem l_strikeOut (hx : x ≤ 1541) {p L : Nat} (hp : p < 6) (hL : L ≤ 8) : ∀ m i, i + m = L → 1 ≤ i → ∀ n, m < n → ∀ (h : HP) (A : AT), MM h F A → A 0 (x + 48 + p) = nI L → ∃ h', F_X9_strikeOut_21 n 142 (nI x) (nI p) (nI i) h = some h' ∧ MM h' F (setA A 0 (upd (shL (A 0) (x + 8 * p + (i - 1)) (x + 8 * p + (L - 1))) (x + 48 + p) (nI (L - 1)))) ∧ Fr h h' 142 12 := by
  intro m
  induction m with
  | zero =>
    intro i hi h1i n hn h A M hA
    obtain ⟨n, rfl⟩ := sx hn
    obtain ⟨h1, e1, M1, X1⟩ := M.ast 0 (by omega) (show x + 48 + p < 1608 by omega) (nI (L - 1))
    refine ⟨h1, ?_, by rw [shL_0 _ (by omega)]; exact M1, X1⟩
    show f_X9_strikeOut_b21 _ _ _ _ _ _ = _
    unfold f_X9_strikeOut_b21 f_X9_strikeOut_b88
    rw [M.r 0 rfl, bs, ix48, M.ald 0 (by omega) (show x + 48 + p < 1608 by omega), bs, hA, if_pos (nI_le (by omega) (by omega)), bs, M.ald 0 (by omega) (show x + 48 + p < 1608 by omega), bs, hA, show nI L - 1 = nI (L - 1) from pk_sub (b := 1) (by omega)]
    show (ast h (143 + 0) _ _).bind _ = _
    rw [e1, bs]
  | succ m ih =>
    intro i hi h1i n hn h A M hA
    obtain ⟨n, rfl⟩ := sx hn
    obtain ⟨i, rfl⟩ : ∃ j, i = j + 1 := ⟨i - 1, by omega⟩
    obtain ⟨h1, e1, M1, X1⟩ := M.ast 0 (by omega) (show x + 8 * p + i < 1608 by omega) (A 0 (x + 8 * p + i + 1))
    obtain ⟨h2, e2, M2, X2⟩ := ih (i + 1 + 1) (by omega) (by omega) n (by omega) h1 _ M1 (by rw [setA_s, un (by omega)]; exact hA)
    rw [setA_set, setA_s, Nat.add_sub_cancel, show x + 8 * p + (i + 1) = x + 8 * p + i + 1 by omega, shL_s _ (by omega)] at M2
    refine ⟨h2, ?_, by rw [Nat.add_sub_cancel]; exact M2, X1.trans X2⟩
    show f_X9_strikeOut_b21 _ _ _ _ _ _ = _
    unfold f_X9_strikeOut_b21
    rw [M.r 0 rfl, bs, ix48, M.ald 0 (by omega) (show x + 48 + p < 1608 by omega), bs, hA, if_neg (nI_ge (by omega) (by omega)), bs, bs, ix8, M.ald 0 (by omega) (show x + 8 * p + (i + 1) < 1608 by omega), bs, ← Nat.add_assoc, nI_pred]
    show (ast h (143 + 0) _ _).bind _ = _
    rw [e1, bs, nI_1, e2]
theorem p_strikeOut {h : HP} {A : AT} (M : MM h F A) (R : RV (A 0) x S) (Y : VS S) (hx : x ≤ 1541) {p : Nat} (hp : p < cP S) {r : Nat} (hr : r < 2 ^ 31) : ∃ h' g, f_X9_strikeOut 142 (nI x) (nI p) (nI r) h = some h' ∧ MM h' F (setA A 0 g) ∧ Fr h h' 142 12 ∧ RV g x (setLk S p (dropC r (cL S p))) ∧ ∀ j, (j < x ∨ x + 54 ≤ j) → g j = A 0 j := by
  have hP := Y.p6
  have hl := Y.len hp
  unfold f_X9_strikeOut f_X9_strikeOut_e f_X9_strikeOut_b88 dropC
  rw [M.chk, p_placeOfLike M R Y hx hp hr, bs]
  cases hi : idx r (cL S p) with
  | none =>
    refine ⟨h, A 0, if_pos (by rfl), by rw [setA_self]; exact M, Fr.rfl, ?_, fun _ _ => rfl⟩
    show RV (A 0) x (setLk S p (cL S p))
    rw [setLk_self]; exact R
  | some k =>
    have hk := (List.getElem?_eq_some_iff.mp (idx_some hi)).1
    obtain ⟨h', e, M', X⟩ := l_strikeOut hx (p := p) (L := (cL S p).length) (by omega) hl ((cL S p).length - (k + 1)) (k + 1) (by omega) (by omega) FU (fu_lt (by omega)) h A M (R.2.1 p hp)
    refine ⟨h', _, ?_, M', X, ?_, fun j hj => ?_⟩
    · rw [if_neg (show ¬ enc (some k) = -1 from nI_neg1 (by omega))]
      show F_X9_strikeOut_21 FU 142 (nI x) (nI p) (nI k + 1) h = _
      rw [nI_1, e]
    · refine R.lk Y hp ?_ ?_ (fun j h1 h2 => ?_)
      · rw [us]; show nI _ = nI ((cL S p).eraseIdx k).length; rw [List.length_eraseIdx, if_pos hk]
      · intro j y hj
        have hj : ((cL S p).eraseIdx k)[j]? = some y := hj
        have hjl := (List.getElem?_eq_some_iff.mp hj).1
        rw [List.length_eraseIdx, if_pos hk] at hjl
        rw [un (by omega)]
        exact cl_drop (R.2.2.1 p hp) hk j y hj
      · rw [un h2]
        exact if_neg (by omega)
    · rw [un (by omega)]
      exact if_neg (by omega)
theorem l_putIn (hx : x ≤ 1541) {p t L : Nat} (hp : p < 6) {r : Int32} : ∀ m i, t + m = i → i < 8 → ∀ n, m < n → ∀ (h : HP) (A : AT), MM h F A → A 0 (x + 48 + p) = nI L → ∃ h', F_X9_putIn_40 n 142 (nI x) (nI p) r (nI t) (nI i) h = some h' ∧ MM h' F (setA A 0 (upd (insR (A 0) (x + 8 * p + t) (x + 8 * p + i) r) (x + 48 + p) (nI (L + 1)))) ∧ Fr h h' 142 12 := by
  intro m
  induction m with
  | zero =>
    intro i hi h8 n hn h A M hA
    obtain ⟨n, rfl⟩ := sx hn
    have hti : t = i := by omega
    obtain ⟨h1, e1, M1, X1⟩ := M.ast 0 (by omega) (show x + 8 * p + t < 1608 by omega) r
    obtain ⟨h2, e2, M2, X2⟩ := M1.ast 0 (by omega) (show x + 48 + p < 1608 by omega) (nI (L + 1))
    rw [setA_set, setA_s] at M2
    refine ⟨h2, ?_, by rw [← hti, insR_0]; exact M2, X1.trans X2⟩
    show f_X9_putIn_b40 _ _ _ _ _ _ _ _ = _
    unfold f_X9_putIn_b40
    rw [if_pos (nI_le (by omega) (by omega)), M.r 0 rfl, bs, ix8]
    show (ast h (143 + 0) _ _).bind _ = _
    rw [e1, bs, M1.r 0 rfl, bs, ix48, M1.ald 0 (by omega) (show x + 48 + p < 1608 by omega), bs, setA_s, un (by omega), hA, nI_1]
    show (ast h1 (143 + 0) _ _).bind _ = _
    rw [e2, bs]
  | succ m ih =>
    intro i hi h8 n hn h A M hA
    obtain ⟨n, rfl⟩ := sx hn
    obtain ⟨i, rfl⟩ : ∃ j, i = j + 1 := ⟨i - 1, by omega⟩
    obtain ⟨h1, e1, M1, X1⟩ := M.ast 0 (by omega) (show x + 8 * p + (i + 1) < 1608 by omega) (A 0 (x + 8 * p + i))
    obtain ⟨h2, e2, M2, X2⟩ := ih i (by omega) (by omega) n (by omega) h1 _ M1 (by rw [setA_s, un (by omega)]; exact hA)
    rw [setA_set, setA_s, ← Nat.add_assoc, insR_s _ r (by omega)] at M2
    refine ⟨h2, ?_, by rw [← Nat.add_assoc]; exact M2, X1.trans X2⟩
    show f_X9_putIn_b40 _ _ _ _ _ _ _ _ = _
    unfold f_X9_putIn_b40
    rw [if_neg (nI_ge (by omega) (by omega)), M.r 0 rfl, bs, bs, ix8, ← Nat.add_assoc, nI_pred, M.ald 0 (by omega) (show x + 8 * p + i < 1608 by omega), bs, Nat.add_assoc]
    show (ast h (143 + 0) _ _).bind _ = _
    rw [e1, bs, pk_m1, e2]
theorem p_putIn {h : HP} {A : AT} (M : MM h F A) (R : RV (A 0) x S) (Y : VS S) (hx : x ≤ 1541) {p : Nat} (hp : p < cP S) {r : Nat} (hr : r < cN S) {k : Nat} (hk : k < 8) : ∃ h' g, f_X9_putIn 142 (nI x) (nI p) (nI r) (nI k) h = some h' ∧ MM h' F (setA A 0 g) ∧ Fr h h' 142 12 ∧ RV g x (setLk S p (likeC (cL S p) r k)) ∧ ∀ j, (j < x ∨ x + 54 ≤ j) → g j = A 0 j := by
  have hP := Y.p6
  have hN := Y.n8
  obtain ⟨h1, g1, e1, M1, X1, R1, k1⟩ := p_strikeOut M R Y hx hp (r := r) (by omega)
  have Y1 := Y.drop hp r
  have hl := drop_len Y hp hr
  have hw : g1 (x + 48 + p) = nI (dropC r (cL S p)).length := by
    have := R1.2.1 p hp
    rwa [setLk_at] at this
  obtain ⟨h2, e2, M2, X2⟩ := l_putIn (F := F) hx (p := p) (t := min k (dropC r (cL S p)).length) (L := (dropC r (cL S p)).length) (r := nI r) (by omega) ((dropC r (cL S p)).length - min k (dropC r (cL S p)).length) (dropC r (cL S p)).length (by omega) hl FU (fu_lt (by omega)) h1 _ M1 (by rw [setA_s]; exact hw)
  rw [setA_set, setA_s] at M2
  have hmin : f_X9_putIn 142 (nI x) (nI p) (nI r) (nI k) h = F_X9_putIn_40 FU 142 (nI x) (nI p) (nI r) (nI (min k (dropC r (cL S p)).length)) (nI (dropC r (cL S p)).length) h1 := by
    unfold f_X9_putIn f_X9_putIn_e f_X9_putIn_b34
    rw [M.chk, e1, bs, M1.r 0 rfl, bs, ix48, M1.ald 0 (by omega) (show x + 48 + p < 1608 by omega), bs, setA_s, hw]
    by_cases hq : (dropC r (cL S p)).length ≤ k
    · rw [if_pos (nI_le hq (by omega)), Nat.min_eq_right hq]
    · rw [if_neg (nI_ge (by omega) (by omega)), Nat.min_eq_left (by omega)]
  refine ⟨h2, _, hmin.trans e2, M2, X1.trans X2, ?_, fun j hj => ?_⟩
  · have rr := R1.lk Y1 (p := p) (l := likeC (cL S p) r k) hp (w' := upd (insR g1 (x + 8 * p + min k (dropC r (cL S p)).length) (x + 8 * p + (dropC r (cL S p)).length) (nI r)) (x + 48 + p) (nI ((dropC r (cL S p)).length + 1))) (by
      rw [us]
      unfold likeC
      rw [insC_len (Nat.min_le_right _ _)]) (fun j y hj => by
        have hjl := (List.getElem?_eq_some_iff.mp hj).1
        unfold likeC at hjl
        rw [insC_len (Nat.min_le_right _ _)] at hjl
        rw [un (by omega)]
        refine cl_ins (fun z w hz => ?_) (Nat.min_le_right _ _) j y hj
        have := R1.2.2.1 p hp z w (by rw [setLk_at]; exact hz)
        exact this) (fun j h1 h2 => by
        rw [un h2]
        unfold insR
        rw [if_neg (by omega), if_neg (by omega)])
    rw [setLk_set] at rr
    exact rr
  · rw [un (by omega)]
    unfold insR
    rw [if_neg (by omega), if_neg (by omega)]
    exact k1 j hj
/-! lots -/
theorem l_placeInLots {h : HP} {A : AT} (M : MM h F A) (R : RV (A 0) 0 S) (Y : VS S) {p : Nat} (hp : p < 2 ^ 31) : ∀ (l : List Nat) i k, (cO S).drop i = l → i ≤ cP S → idx p l = some k → ∀ n, k < n → F_X9_placeInLots_2 n 142 (nI p) (nI i) h = some (nI (i + k), h) := by
  have hP := Y.p6
  have hO := Y.2.2.2.2.2.1
  intro l
  induction l with
  | nil => intro i k hi hi2 hk; cases hk
  | cons y t ih =>
    intro i k hi hi2 hk n hn
    obtain ⟨n, rfl⟩ := sx hn
    obtain ⟨d1, d2, d3⟩ := drop_cons hi
    have hy := Y.ord d1
    have hw := R.2.2.2 i y d1
    rw [Nat.zero_add] at hw
    unfold idx at hk
    show f_X9_placeInLots_b2 _ _ _ _ _ = _
    unfold f_X9_placeInLots_b2
    rw [M.r 0 rfl, bs]
    show (ald h (143 + 0) (nI 60 + nI i)).bind _ = _
    rw [nI_add, M.ald 0 (by omega) (show 60 + i < 1608 by omega), bs, hw]
    by_cases hq : y = p
    · rw [if_pos hq] at hk
      cases hk
      rw [if_pos (by rw [hq])]; rfl
    · rw [if_neg hq] at hk
      obtain ⟨k', hk', rfl⟩ := Option.map_eq_some_iff.mp hk
      rw [if_neg (fun z => hq ((nI_eq (by omega) hp).mp z)), nI_1, ih (i + 1) k' d2 (by omega) hk' n (by omega)]
      congr 3; omega
theorem p_placeInLots {h : HP} {A : AT} (M : MM h F A) (R : RV (A 0) 0 S) (Y : VS S) {p k : Nat} (hp : p < cP S) (hk : idx p (cO S) = some k) : f_X9_placeInLots 142 (nI p) h = some (nI k, h) := by
  have hP := Y.p6
  have := (List.getElem?_eq_some_iff.mp (idx_some hk)).1
  have hO := Y.2.2.2.2.2.1
  unfold f_X9_placeInLots f_X9_placeInLots_e
  rw [M.chk]
  refine (l_placeInLots M R Y (by omega) (cO S) 0 k rfl (by omega) hk FU (fu_lt (by omega))).trans ?_
  rw [Nat.zero_add]
theorem l_setLotB {t q : Nat} : ∀ m i, t + m = i → i < 6 → ∀ n, m < n → ∀ (h : HP) (A : AT), MM h F A → ∃ h', F_X9_setLot_37 n 142 (nI q) (nI t) (nI i) h = some h' ∧ MM h' F (setA A 0 (insR (A 0) (60 + t) (60 + i) (nI q))) ∧ Fr h h' 142 12 := by
  intro m
  induction m with
  | zero =>
    intro i hi h8 n hn h A M
    obtain ⟨n, rfl⟩ := sx hn
    have hti : t = i := by omega
    subst hti
    obtain ⟨h1, e1, M1, X1⟩ := M.ast 0 (by omega) (show 60 + t < 1608 by omega) (nI q)
    refine ⟨h1, ?_, by rw [insR_0]; exact M1, X1⟩
    show f_X9_setLot_b37 _ _ _ _ _ _ = _
    unfold f_X9_setLot_b37
    rw [if_pos (nI_le (by omega) (by omega)), M.r 0 rfl, bs]
    show (ast h (143 + 0) (nI 60 + nI t) _).bind _ = _
    rw [nI_add, e1, bs]
  | succ m ih =>
    intro i hi h8 n hn h A M
    obtain ⟨n, rfl⟩ := sx hn
    obtain ⟨i, rfl⟩ : ∃ j, i = j + 1 := ⟨i - 1, by omega⟩
    obtain ⟨h1, e1, M1, X1⟩ := M.ast 0 (by omega) (show 60 + (i + 1) < 1608 by omega) (A 0 (60 + i))
    obtain ⟨h2, e2, M2, X2⟩ := ih i (by omega) (by omega) n (by omega) h1 _ M1
    rw [setA_set, setA_s, ← Nat.add_assoc, insR_s _ (nI q) (by omega)] at M2
    refine ⟨h2, ?_, by rw [← Nat.add_assoc]; exact M2, X1.trans X2⟩
    show f_X9_setLot_b37 _ _ _ _ _ _ = _
    unfold f_X9_setLot_b37
    rw [if_neg (nI_ge (by omega) (by omega)), M.r 0 rfl, bs, bs]
    show (ald h (143 + 0) (nI 60 + nI (i + 1) - 1)).bind _ = _
    rw [nI_add, ← Nat.add_assoc, nI_pred, M.ald 0 (by omega) (show 60 + i < 1608 by omega), bs]
    show (ast h (143 + 0) (nI 60 + nI (i + 1)) _).bind _ = _
    rw [nI_add, e1, bs, pk_m1, e2]
theorem l_setLotA {t q : Nat} (ht : t < 6) : ∀ m i, i + m = t → ∀ n, m < n → ∀ (h : HP) (A : AT), MM h F A → ∃ h', F_X9_setLot_6 n 142 (nI q) (nI t) (nI i) h = some h' ∧ MM h' F (setA A 0 (upd (shL (A 0) (60 + i) (60 + t)) (60 + t) (nI q))) ∧ Fr h h' 142 12 := by
  intro m
  induction m with
  | zero =>
    intro i hi n hn h A M
    obtain ⟨n, rfl⟩ := sx hn
    have hti : i = t := by omega
    subst hti
    obtain ⟨h1, e1, M1, X1⟩ := l_setLotB (F := F) (t := i) (q := q) 0 i (by omega) ht FU (fu_lt (by omega)) h A M
    refine ⟨h1, ?_, by rw [shL_0 _ (by omega), ← insR_0]; exact M1, X1⟩
    show f_X9_setLot_b6 _ _ _ _ _ _ = _
    unfold f_X9_setLot_b6
    rw [if_pos (nI_le (by omega) (by omega)), e1]
  | succ m ih =>
    intro i hi n hn h A M
    obtain ⟨n, rfl⟩ := sx hn
    obtain ⟨h1, e1, M1, X1⟩ := M.ast 0 (by omega) (show 60 + i < 1608 by omega) (A 0 (60 + i + 1))
    obtain ⟨h2, e2, M2, X2⟩ := ih (i + 1) (by omega) n (by omega) h1 _ M1
    rw [setA_set, setA_s, ← Nat.add_assoc, shL_s _ (by omega)] at M2
    refine ⟨h2, ?_, M2, X1.trans X2⟩
    show f_X9_setLot_b6 _ _ _ _ _ _ = _
    unfold f_X9_setLot_b6
    rw [if_neg (nI_ge (by omega) (by omega)), M.r 0 rfl, bs, bs]
    show (ald h (143 + 0) (nI 60 + nI i + 1)).bind _ = _
    rw [nI_add, nI_1, M.ald 0 (by omega) (show 60 + i + 1 < 1608 by omega), bs]
    show (ast h (143 + 0) (nI 60 + nI i) _).bind _ = _
    rw [nI_add, e1, bs, nI_1, e2]
theorem p_setLot {h : HP} {A : AT} (M : MM h F A) (R : RV (A 0) 0 S) (Y : VS S) {p t : Nat} (hp : p < cP S) (ht : t < cP S) : ∃ h' g, f_X9_setLot 142 (nI p) (nI t) h = some h' ∧ MM h' F (setA A 0 g) ∧ Fr h h' 142 12 ∧ RV g 0 (setOd S (movC (cO S) p t)) ∧ ∀ j, (j < 60 ∨ 66 ≤ j) → g j = A 0 j := by
  have hP := Y.p6
  have hO := Y.2.2.2.2.2.1
  obtain ⟨k, hk, hk2⟩ := ord_idx Y hp
  have hr : RWl (fun j => A 0 (60 + j)) 0 (cO S) := fun j y hj => by
    have := R.2.2.2 j y hj
    rw [Nat.zero_add] at this
    rw [Nat.zero_add]; exact this
  have hm := cl_mov (t := t) hr (idx_some hk) (by omega)
  have fin : ∀ g : Nat → Int32, RWl (fun j => g (60 + j)) 0 (insC t p ((cO S).eraseIdx k)) → (∀ j, (j < 60 ∨ 66 ≤ j) → g j = A 0 j) → RV g 0 (setOd S (movC (cO S) p t)) := fun g hg hg2 => by
    unfold movC
    rw [hk]
    refine ⟨fun q hq => ?_, fun q hq => ?_, fun q hq j y hj => ?_, fun j y hj => ?_⟩
    · have hq : q < cP S := hq
      rw [hg2 _ (by omega)]; exact R.1 q hq
    · have hq : q < cP S := hq
      rw [hg2 _ (by omega)]; exact R.2.1 q hq
    · have hq : q < cP S := hq
      have hl := Y.len hq
      have := (List.getElem?_eq_some_iff.mp hj).1
      have this : j < (cL S q).length := this
      rw [hg2 _ (by omega)]; exact R.2.2.1 q hq j y hj
    · have := hg j y hj
      rw [Nat.zero_add] at this
      rw [Nat.zero_add]; exact this
  have pre : f_X9_setLot 142 (nI p) (nI t) h = F_X9_setLot_6 FU 142 (nI p) (nI t) (nI k) h := by
    unfold f_X9_setLot f_X9_setLot_e
    rw [M.chk, p_placeInLots M R Y hp hk, bs]
  by_cases hkt : k ≤ t
  · obtain ⟨h', e, M', X⟩ := l_setLotA (F := F) (t := t) (q := p) (by omega) (t - k) k (by omega) FU (fu_lt (by omega)) h A M
    rw [if_pos hkt] at hm
    have out : ∀ j, (j < 60 ∨ 66 ≤ j) → upd (shL (A 0) (60 + k) (60 + t)) (60 + t) (nI p) j = A 0 j := fun j hj => by
      rw [un (by omega)]; exact if_neg (by omega)
    refine ⟨h', _, pre.trans e, M', X, fin _ (fun j y hj => ?_) out, out⟩
    rw [← hm j y hj, Nat.zero_add]
    show upd (shL (A 0) (60 + k) (60 + t)) (60 + t) (nI p) (60 + j) = _
    unfold upd shL
    (repeat' split) <;> first | rfl | (exfalso; omega) | (congr 1; omega)
  · obtain ⟨h', e, M', X⟩ := l_setLotB (F := F) (t := t) (q := p) (k - t) k (by omega) (by omega) FU (fu_lt (by omega)) h A M
    rw [if_neg hkt] at hm
    have out : ∀ j, (j < 60 ∨ 66 ≤ j) → insR (A 0) (60 + t) (60 + k) (nI p) j = A 0 j := fun j hj => by
      unfold insR; rw [if_neg (by omega), if_neg (by omega)]
    refine ⟨h', _, ?_, M', X, fin _ (fun j y hj => ?_) out, out⟩
    · rw [pre]
      show f_X9_setLot_b6 _ _ _ _ _ _ = _
      unfold f_X9_setLot_b6
      rw [if_pos (nI_le (by omega) (by omega)), e]
    · rw [← hm j y hj, Nat.zero_add]
      show insR (A 0) (60 + t) (60 + k) (nI p) (60 + j) = _
      unfold insR
      (repeat' split) <;> first | rfl | (exfalso; omega) | (congr 1; omega)
end MDD
/-! all move -/
def dec (x : Int32) : Option Nat := if x < 0 then none else some x.toNatClampNeg
theorem dec_enc {o : Option Nat} (ho : ∀ k, o = some k → k < 2 ^ 31) : dec (enc o) = o := by
  cases o with
  | none => rfl
  | some k =>
    show (if nI k < 0 then none else some (nI k).toNatClampNeg) = some k
    rw [if_neg (nI_pos (ho k rfl)), nI_clamp (ho k rfl)]
def oC (S : CS) (p : Nat) : Option Nat := dec (gC S p)
def movedC (S : CS) : CS := (cN S, cP S, oC S, cL S, cO S)
theorem oC_spec {S : CS} (Y : VS S) {p : Nat} (hp : p < cP S) : gC S p = enc (oC S p) ∧ ∀ r, oC S p = some r → r < cN S := by
  obtain ⟨o, o1, o2⟩ := gC_enc Y hp
  have h1 : oC S p = o := by unfold oC; rw [o1]; exact dec_enc (fun k hk => by have := o2 k hk; have := Y.n8; omega)
  rw [h1]; exact ⟨o1, o2⟩
theorem VS.moved {S : CS} (Y : VS S) : VS (movedC S) := by
  refine ⟨Y.1, Y.2.1, fun p hp r hr => (oC_spec Y hp).2 r hr, fun p q hp hq he hn => ?_, Y.2.2.2.2.1, Y.2.2.2.2.2⟩
  rcases Decidable.em (p = q) with z | z
  · exact z
  · have he : oC S p = oC S q := he
    have h1 := gC_inj Y hp hq z (by rw [(oC_spec Y hp).1, (oC_spec Y hq).1, he])
    rw [(oC_spec Y hp).1] at h1
    cases ho : oC S p with
    | none => exact absurd ho hn
    | some r =>
      rw [ho] at h1
      have := (oC_spec Y hp).2 r ho
      have := Y.n8
      exact absurd h1 (nI_neg1 (by omega))
def mvF (S : CS) (n p : Nat) : Nat := if gC S p = enc (cS S p) then n else n + 1
theorem p_seatOfR {h : HP} {a : Nat} {rm ps : Int32} {st am lk od : Nat → Int32} (A : HR h a rm ps st am lk od) {p : Nat} (hp : p < 6) : f_X3_seatOf a (nI p) h = some (st p, h) := by
  unfold f_X3_seatOf f_X3_seatOf_e
  rw [A.chk, A.r2, bs, ia_at A.2.1 hp (by omega), bs]
theorem p_seatR {h : HP} {a : Nat} {rm ps : Int32} {st am lk od : Nat → Int32} (A : HR h a rm ps st am lk od) {p : Nat} (hp : p < 6) (x : Int32) : ∃ h', f_X3_seat a (nI p) x h = some h' ∧ HR h' a rm ps (upd st p x) am lk od ∧ Fr h h' a 5 := by
  obtain ⟨h', e, A', F⟩ := A.pst hp x
  refine ⟨h', ?_, A', F⟩
  unfold f_X3_seat f_X3_seat_e
  rw [A.chk, A.r2, bs, e, bs]
theorem DVo.fr {h h' : HP} {S : CS} {a n : Nat} (D : DVo h S) (X : Fr h h' a n) (ha : a + n ≤ 13 ∨ 19 ≤ a) : DVo h' S := by
  obtain ⟨th, g, r, z, tg, on, ⟨h0, h1, h2, h3, h4, h5⟩, A2⟩ := D
  exact ⟨th, g, r, z, tg, on, ⟨by unfold DO; rw [X _ (by omega)]; exact h0, h1.fr X (by omega), h2.fr X (by omega), h3.fr X (by omega), h4.fr X (by omega), h5.fr X (by omega)⟩, A2⟩
theorem l_moveC {S : CS} (Y : VS S) {rm : Int32} {am lk od : Nat → Int32} : ∀ m i, i + m = cP S → ∀ n, m < n → ∀ (h : HP) (st : Nat → Int32) (c : Nat), C0 h → DVo h S → HR h 3 rm (nI (cP S)) st am lk od → (∀ q, i ≤ q → q < cP S → st q = enc (cS S q)) → (∀ q, q < i → st q = gC S q) → ∃ h' st', F_X8_moveAll_15 n 0 (nI c) (nI i) h = some (nI (fld (mvF S) m i c), h') ∧ HR h' 3 rm (nI (cP S)) st' am lk od ∧ Fr h h' 3 5 ∧ ∀ q, q < cP S → st' q = gC S q := by
  have hP := Y.p6
  intro m
  induction m with
  | zero =>
    intro i hi n hn h st c c0 D A a1 a2
    obtain ⟨n, rfl⟩ := sx hn
    refine ⟨h, st, ?_, A, Fr.rfl, fun q hq => a2 q (by omega)⟩
    show f_X8_moveAll_b15 _ _ _ _ _ = _
    unfold f_X8_moveAll_b15
    rw [c0.r 1 rfl, bs, A.g1, bs, if_pos (nI_le (by omega) (by omega))]
    rfl
  | succ m ih =>
    intro i hi n hn h st c c0 D A a1 a2
    obtain ⟨n, rfl⟩ := sx hn
    have hip : i < cP S := by omega
    have pre : F_X8_moveAll_15 (n + 1) 0 (nI c) (nI i) h = if gC S i = enc (cS S i) then F_X8_moveAll_15 n 0 (nI c) (nI (i + 1)) h else (f_X3_seat 3 (nI i) (gC S i) h).bind fun h8 => F_X8_moveAll_15 n 0 (nI (c + 1)) (nI (i + 1)) h8 := by
      show f_X8_moveAll_b15 _ _ _ _ _ = _
      unfold f_X8_moveAll_b15 f_X8_moveAll_b59
      rw [c0.r 1 rfl, bs, A.g1, bs, if_neg (nI_ge hip (by omega)), c0.r 3 rfl, bs, p_roomOf D Y hip, bs]
      show (gR h 0 8 1).bind _ = _
      rw [c0.r 1 rfl, bs]
      show (f_X3_seatOf 3 (nI i) h).bind _ = _
      rw [p_seatOfR A (by omega), bs, a1 i (by omega) hip, nI_1, nI_1]
      show (if gC S i = enc (cS S i) then _ else (gR h 0 8 1).bind _) = _
      rw [c0.r 1 rfl, bs]
    rw [pre]
    by_cases hq : gC S i = enc (cS S i)
    · rw [if_pos hq]
      have hm : fld (mvF S) (m + 1) i c = fld (mvF S) m (i + 1) c := by show fld (mvF S) m (i + 1) (mvF S c i) = _; unfold mvF; rw [if_pos hq]
      rw [hm]
      exact ih (i + 1) (by omega) n (by omega) h st c c0 D A (fun q h1 h2 => a1 q (by omega) h2) (fun q h1 => by
        by_cases hqi : q = i
        · rw [hqi, a1 i (by omega) hip, hq]
        · exact a2 q (by omega))
    · rw [if_neg hq]
      obtain ⟨h1, e1, A1, X1⟩ := p_seatR A (p := i) (by omega) (gC S i)
      have hm : fld (mvF S) (m + 1) i c = fld (mvF S) m (i + 1) (c + 1) := by show fld (mvF S) m (i + 1) (mvF S c i) = _; unfold mvF; rw [if_neg hq]
      rw [hm, e1, bs]
      obtain ⟨h2, st', e2, A2, X2, g2⟩ := ih (i + 1) (by omega) n (by omega) h1 _ (c + 1) (c0.eq (X1 0 (by omega))) (D.fr X1 (by omega)) A1 (fun q h1 h2 => by rw [un (by omega)]; exact a1 q (by omega) h2) (fun q h1 => by
        by_cases hqi : q = i
        · subst hqi; exact us
        · rw [un hqi]; exact a2 q (by omega))
      exact ⟨h2, st', e2, A2, X1.trans X2, g2⟩
theorem p_moveC {h : HP} {S : CS} (Y : VS S) (c0 : C0 h) (V : HV h 3 S) (D : DX h 13) : ∃ h', f_X8_moveAll 0 h = some (nI (fld (mvF S) (cP S) 0 0), h') ∧ HV h' 3 (movedC S) ∧ DX h' 13 ∧ ∀ k, (k < 3 ∨ (8 ≤ k ∧ k < 13) ∨ 19 ≤ k) → h'[k]? = h[k]? := by
  have hP := Y.p6
  obtain ⟨h1, e1, D1, X1⟩ := p_dealA Y (a := 3) (by omega) V D
  have c1 := c0.eq (X1 0 (by omega))
  obtain ⟨st, am, lk, od, A, r⟩ := (V.fr X1 (by omega)).hr
  obtain ⟨h2, st', e2, A2, X2, g2⟩ := l_moveC Y (cP S) 0 (by omega) FU (fu_lt (by omega)) h1 st 0 c1 D1 A (fun q _ hq => r.1 q hq) (fun q hq => by omega)
  refine ⟨h2, ?_, HR.hv (S := movedC S) A2 ⟨fun p hp => (g2 p hp).trans (oC_spec Y hp).1, r.2.1, r.2.2.1, r.2.2.2⟩, (D1.fr X2 (by omega)).dx, fun k hk => (X2 k (by omega)).trans (X1 k (by omega))⟩
  unfold f_X8_moveAll f_X8_moveAll_e
  rw [c0.chk, c0.r 3 rfl, bs, c0.r 1 rfl, bs, e1, bs]
  exact e2
theorem l_moveM {F : Nat → Int32} {S : CS} (Y : VS S) (f2 : F 2 = nI (cP S)) : ∀ m i, i + m = cP S → ∀ n, m < n → ∀ (h : HP) (A : AT) (c : Nat), MM h F A → (∀ q, q < cP S → A 2 q = gC S q) → (∀ q, i ≤ q → q < cP S → A 0 (54 + q) = enc (cS S q)) → ∃ h' g, F_X9_moveAll_9 n 142 (nI c) (nI i) h = some (nI (fld (mvF S) m i c), h') ∧ MM h' F (setA A 0 g) ∧ Fr h h' 142 12 ∧ (∀ q, i ≤ q → q < cP S → g (54 + q) = gC S q) ∧ ∀ j, (j < 54 + i ∨ 54 + cP S ≤ j) → g j = A 0 j := by
  have hP := Y.p6
  intro m
  induction m with
  | zero =>
    intro i hi n hn h A c M a2 a1
    obtain ⟨n, rfl⟩ := sx hn
    refine ⟨h, A 0, ?_, by rw [setA_self]; exact M, Fr.rfl, fun q h1 h2 => by omega, fun _ _ => rfl⟩
    show f_X9_moveAll_b9 _ _ _ _ _ = _
    unfold f_X9_moveAll_b9
    rw [M.g 2 rfl, bs, f2, if_pos (nI_le (by omega) (by omega))]
    rfl
  | succ m ih =>
    intro i hi n hn h A c M a2 a1
    obtain ⟨n, rfl⟩ := sx hn
    have hip : i < cP S := by omega
    obtain ⟨h1, e1, M1, X1⟩ := M.ast 0 (by omega) (show 54 + i < 1608 by omega) (gC S i)
    obtain ⟨h2, g, e2, M2, X2, g1, g2⟩ := ih (i + 1) (by omega) n (by omega) h1 _ (mvF S c i) M1 (fun q hq => by rw [setA_n _ _ (by omega)]; exact a2 q hq) (fun q h1 h2 => by rw [setA_s, un (by omega)]; exact a1 q (by omega) h2)
    rw [setA_set] at M2
    refine ⟨h2, g, ?_, M2, X1.trans X2, fun q h1 h2 => ?_, fun j hj => ?_⟩
    · rw [show fld (mvF S) (m + 1) i c = fld (mvF S) m (i + 1) (mvF S c i) from rfl, ← e2]
      show f_X9_moveAll_b9 _ _ _ _ _ = _
      unfold f_X9_moveAll_b9 f_X9_moveAll_b41
      rw [M.g 2 rfl, bs, f2, if_neg (nI_ge hip (by omega)), M.r 8 rfl, bs]
      show (ald h (143 + 2) (nI i)).bind _ = _
      rw [M.ald 2 (by omega) (show i < 6 by omega), bs, a2 i hip, M.r 0 rfl, bs, bs]
      show (ald h (143 + 0) (nI 54 + nI i)).bind _ = _
      rw [nI_add, M.ald 0 (by omega) (show 54 + i < 1608 by omega), bs, a1 i (by omega) hip, bs]
      show (if gC S i = enc (cS S i) then (ald h (143 + 2) (nI i)).bind (fun v3 => (ast h (143 + 0) (nI 54 + nI i) v3).bind _) else (ald h (143 + 2) (nI i)).bind (fun v3 => (ast h (143 + 0) (nI 54 + nI i) v3).bind _)) = _
      rw [M.ald 2 (by omega) (show i < 6 by omega), bs, bs, a2 i hip, nI_add, e1, bs, bs, nI_1]
      unfold mvF
      by_cases hq : gC S i = enc (cS S i)
      · rw [if_pos hq, if_pos hq]
        show F_X9_moveAll_9 n 142 (nI c + nI 0) (nI (i + 1)) h1 = _
        rw [nI_add]; rfl
      · rw [if_neg hq, if_neg hq, nI_1]
    · by_cases hqi : q = i
      · subst hqi
        rw [g2 _ (by omega), setA_s, us]
      · exact g1 q (by omega) h2
    · rw [g2 j (by omega), setA_s, un (by omega)]
theorem p_moveM {h : HP} {F : Nat → Int32} {A : AT} {S : CS} (M : MM h F A) (Y : VS S) (R : RV (A 0) 0 S) (f1 : F 1 = nI (cN S)) (f2 : F 2 = nI (cP S)) : ∃ h' F' A', f_X9_moveAll 142 h = some (nI (fld (mvF S) (cP S) 0 0), h') ∧ MM h' F' A' ∧ Fr h h' 142 12 ∧ FS F F' ∧ RV (A' 0) 0 (movedC S) ∧ (∀ j, (j < 54 ∨ 60 ≤ j) → A' 0 j = A 0 j) ∧ A' 1 = A 1 ∧ A' 6 = A 6 ∧ A' 7 = A 7 ∧ A' 8 = A 8 ∧ A' 9 = A 9 := by
  have hP := Y.p6
  obtain ⟨h1, e1, ⟨F', A', M', fs, as, a0, -, -, hg⟩, X1⟩ := p_gaveX (x := 0) M Y (by omega) R f1 f2
  obtain ⟨h2, g, e2, M2, X2, g1, g2⟩ := l_moveM Y (fs.2.1.trans f2) (cP S) 0 (by omega) FU (fu_lt (by omega)) h1 A' 0 M' (fun q hq => (hg q hq).1) (fun q _ hq => by
    rw [a0]
    have := R.1 q hq
    rwa [Nat.zero_add] at this)
  have gg : ∀ j, (j < 54 ∨ 60 ≤ j) → g j = A 0 j := fun j hj => (g2 j (by omega)).trans (a0 j)
  refine ⟨h2, F', _, ?_, M2, X1.trans X2, fs, ?_, fun j hj => by rw [setA_s]; exact gg j hj, (setA_n _ _ (by omega)).trans as.2.1, (setA_n _ _ (by omega)).trans as.2.2.1, (setA_n _ _ (by omega)).trans as.2.2.2.1, (setA_n _ _ (by omega)).trans as.2.2.2.2.1, (setA_n _ _ (by omega)).trans as.2.2.2.2.2⟩
  · unfold f_X9_moveAll f_X9_moveAll_e
    rw [M.chk]
    show (f_X9_giveOut 142 (nI 0) h).bind _ = _
    rw [e1, bs]
    exact e2
  · rw [setA_s]
    refine ⟨fun p hp => ?_, fun p hp => ?_, fun p hp k y hk => ?_, fun k y hk => ?_⟩
    · have hp : p < cP S := hp
      rw [show 0 + 54 + p = 54 + p by omega, g1 p (by omega) hp]; exact (oC_spec Y hp).1
    · have hp : p < cP S := hp
      rw [gg _ (by omega)]; exact R.2.1 p hp
    · have hp : p < cP S := hp
      have hk : (cL S p)[k]? = some y := hk
      have := Y.len hp
      have := (List.getElem?_eq_some_iff.mp hk).1
      rw [gg _ (by omega)]; exact R.2.2.1 p hp k y hk
    · rw [gg _ (by omega)]; exact R.2.2.2 k y hk
