/-! READING THE TEXT -/
def RV3 (w : Nat → Int32) (x : Nat) (S : CS) : Prop := (∀ p, p < cP S → w (x + 54 + p) = enc (cS S p)) ∧ (∀ p, p < cP S → w (x + 48 + p) = nI (cL S p).length) ∧ (∀ p, p < cP S → RWl w (x + 8 * p) (cL S p)) ∧ True
section MOD33
variable {h : HP} {F : Nat → Int32} {A : AT} {S : CS} {x : Nat}
theorem l_sitterIn3 (M : MM h F A) (R : RV3 (A 0) x S) (Y : VS S) (hx : x ≤ 1541) {r : Nat} (hr : r < 8) : ∀ m i, i + m = cP S → ∀ n, m < n → F_X9_sitterIn_3 n 142 (nI x) (nI (cP S)) (nI r) (nI i) h = some (enc (fnd (fun p => cS S p == some r) m i), h) := by
  have hP := Y.p6
  intro m
  induction m with
  | zero =>
    intro i hi n hn
    obtain ⟨n, rfl⟩ := sx hn
    show f_X9_sitterIn_b3 _ _ _ _ _ _ _ = _
    unfold f_X9_sitterIn_b3
    rw [if_pos (nI_le (by omega) (by omega))]
    rfl
  | succ m ih =>
    intro i hi n hn
    obtain ⟨n, rfl⟩ := sx hn
    have hip : i < cP S := by omega
    show f_X9_sitterIn_b3 _ _ _ _ _ _ _ = _
    unfold f_X9_sitterIn_b3 fnd
    rw [if_neg (nI_ge hip (by omega)), M.r 0 rfl, bs, show nI x + 54 + nI i = nI (x + 54 + i) by rw [show (54 : Int32) = nI 54 from rfl, nI_add, nI_add], M.ald 0 (by omega) (show x + 54 + i < 1608 by omega), bs, R.1 i hip]
    have hk := enc_nI (o := cS S i) (r := r) (fun k hk => Y.seat hip hk) (by omega)
    by_cases hq : cS S i = some r
    · rw [if_pos (hk.mpr hq), if_pos (by rw [hq]; simp)]
      rfl
    · rw [if_neg (fun q => hq (hk.mp q)), if_neg (by simpa using hq), nI_1]
      exact ih (i + 1) (by omega) n (by omega)
theorem p_sitterIn3 (M : MM h F A) (R : RV3 (A 0) x S) (Y : VS S) (hx : x ≤ 1541) {r : Nat} (hr : r < 8) : f_X9_sitterIn 142 (nI x) (nI (cP S)) (nI r) h = some (enc (sitC S r), h) := by
  have hP := Y.p6
  unfold f_X9_sitterIn f_X9_sitterIn_e
  rw [M.chk]
  exact l_sitterIn3 M R Y hx hr (cP S) 0 (by omega) FU (fu_lt (by omega))
theorem l_placeOfLike3 (M : MM h F A) (R : RV3 (A 0) x S) (Y : VS S) (hx : x ≤ 1541) {p : Nat} (hp : p < cP S) {r : Nat} (hr : r < 2 ^ 31) : ∀ (l : List Nat) i, (cL S p).drop i = l → i ≤ (cL S p).length → ∀ n, l.length < n → F_X9_placeOfLike_3 n 142 (nI x) (nI p) (nI r) (nI i) h = some (enc ((idx r l).map (i + ·)), h) := by
  have hP := Y.p6
  have hl := Y.len hp
  intro l
  induction l with
  | nil =>
    intro i hi hi2 n hn
    obtain ⟨n, rfl⟩ := sx hn
    have : (cL S p).length ≤ i := List.drop_eq_nil_iff.mp hi
    show f_X9_placeOfLike_b3 _ _ _ _ _ _ _ = _
    unfold f_X9_placeOfLike_b3
    rw [M.r 0 rfl, bs, ix48, M.ald 0 (by omega) (show x + 48 + p < 1608 by omega), bs, R.2.1 p hp, if_pos (nI_le this (by omega))]; rfl
  | cons y t ih =>
    intro i hi hi2 n hn
    obtain ⟨n, rfl⟩ := sx hn
    obtain ⟨d1, d2, d3⟩ := drop_cons hi
    have hy := Y.like hp d1
    show f_X9_placeOfLike_b3 _ _ _ _ _ _ _ = _
    unfold f_X9_placeOfLike_b3 idx
    rw [M.r 0 rfl, bs, ix48, M.ald 0 (by omega) (show x + 48 + p < 1608 by omega), bs, R.2.1 p hp, if_neg (nI_ge d3 (by omega)), bs, ix8, M.ald 0 (by omega) (show x + 8 * p + i < 1608 by omega), bs, R.2.2.1 p hp i y d1]
    by_cases hq : y = r
    · rw [if_pos (by rw [hq]), if_pos hq]; rfl
    · rw [if_neg (fun q => hq ((nI_eq (by omega) hr).mp q)), if_neg hq, nI_1, ih (i + 1) d2 (by omega) n (by simp at hn; omega), Option.map_map]
      rw [show ((fun x => i + x) ∘ fun x => x + 1) = (fun x => i + 1 + x) from funext fun k => by show i + (k + 1) = i + 1 + k; omega]
theorem p_placeOfLike3 (M : MM h F A) (R : RV3 (A 0) x S) (Y : VS S) (hx : x ≤ 1541) {p : Nat} (hp : p < cP S) {r : Nat} (hr : r < 2 ^ 31) : f_X9_placeOfLike 142 (nI x) (nI p) (nI r) h = some (enc (idx r (cL S p)), h) := by
  have hl := Y.len hp
  unfold f_X9_placeOfLike f_X9_placeOfLike_e
  rw [M.chk]
  refine (l_placeOfLike3 M R Y hx hp hr (cL S p) 0 rfl (by omega) FU (fu_lt (by omega))).trans ?_
  simp
end MOD33
def skB (T : Nat → Int32) : Nat → Nat → Nat
  | 0, i => i
  | m + 1, i => if T i = 32 then skB T m (i + 1) else i
def nx (T : Nat → Int32) (L i : Nat) : Nat := skB T (L - i) i
theorem skB_le {T : Nat → Int32} : ∀ m i, i ≤ skB T m i ∧ skB T m i ≤ i + m ∧ (skB T m i < i + m → T (skB T m i) ≠ 32) := by
  intro m
  induction m with
  | zero => intro i; exact ⟨Nat.le_refl _, Nat.le_refl _, fun h => absurd h (Nat.lt_irrefl _)⟩
  | succ m ih =>
    intro i
    unfold skB
    by_cases h : T i = 32
    · rw [if_pos h]
      obtain ⟨a, b, c⟩ := ih (i + 1)
      exact ⟨by omega, by omega, fun z => c (by omega)⟩
    · rw [if_neg h]
      exact ⟨Nat.le_refl _, by omega, fun _ => h⟩
theorem nx_le {T : Nat → Int32} {L i : Nat} (hi : i ≤ L) : i ≤ nx T L i ∧ nx T L i ≤ L ∧ (nx T L i < L → T (nx T L i) ≠ 32) := by
  obtain ⟨a, b, c⟩ := skB_le (T := T) (L - i) i
  unfold nx
  exact ⟨a, by omega, fun z => c (by omega)⟩
theorem nx_nx {T : Nat → Int32} {L i : Nat} (hi : i ≤ L) : nx T L (nx T L i) = nx T L i := by
  obtain ⟨a, b, c⟩ := nx_le (T := T) hi
  generalize nx T L i = j at a b c ⊢
  unfold nx
  cases hm : L - j with
  | zero => rfl
  | succ m =>
    unfold skB
    rw [if_neg (c (by omega))]
def dig (x : Int32) : Bool := decide (¬ x < 48 ∧ ¬ (57 : Int32) < x)
def num (T : Nat → Int32) : Nat → Nat → Int32 → Nat → Int32 × Nat × Nat
  | 0, i, v, k => (v, i, k)
  | m + 1, i, v, k => if dig (T i) then num T m (i + 1) (if k < 3 then v * 10 + T i - 48 else v) (k + 1) else (v, i, k)
theorem num_le {T : Nat → Int32} : ∀ m i v k, i ≤ (num T m i v k).2.1 ∧ (num T m i v k).2.1 ≤ i + m ∧ (num T m i v k).2.2 = k + ((num T m i v k).2.1 - i) := by
  intro m
  induction m with
  | zero => intro i v k; exact ⟨Nat.le_refl _, Nat.le_refl _, by show k = k + (i - i); omega⟩
  | succ m ih =>
    intro i v k
    unfold num
    split
    · obtain ⟨a, b, c⟩ := ih (i + 1) (if k < 3 then v * 10 + T i - 48 else v) (k + 1)
      exact ⟨by omega, by omega, by omega⟩
    · exact ⟨Nat.le_refl _, by show i ≤ i + (m + 1); omega, by show k = k + (i - i); omega⟩
theorem num_0 {T : Nat → Int32} {m i : Nat} {v : Int32} : (num T m i v 0).2.2 = 0 ↔ ¬ (0 < m ∧ dig (T i) = true) := by
  cases m with
  | zero => exact ⟨fun _ z => absurd z.1 (Nat.lt_irrefl _), fun _ => rfl⟩
  | succ m =>
    unfold num
    by_cases hd : dig (T i) = true
    · rw [if_pos hd]
      obtain ⟨a, b, c⟩ := num_le (T := T) m (i + 1) (if 0 < 3 then v * 10 + T i - 48 else v) (0 + 1)
      constructor
      · intro h; omega
      · intro h; exact absurd ⟨by omega, hd⟩ h
    · rw [if_neg hd]
      exact ⟨fun _ z => hd z.2, fun _ => rfl⟩
/-- a number: where it is a fault, which and where; else it and where it ends -/
def numP (T : Nat → Int32) (L : Nat) (lo hi : Int32) (i : Nat) : (Nat × Nat) ⊕ (Int32 × Nat) :=
  if (num T (L - nx T L i) (nx T L i) 0 0).2.2 = 0 then .inl (1, nx T L i)
  else if 3 < (num T (L - nx T L i) (nx T L i) 0 0).2.2 then .inl (2, nx T L i)
  else if ¬ (num T (L - nx T L i) (nx T L i) 0 0).1 < lo ∧ ¬ hi < (num T (L - nx T L i) (nx T L i) 0 0).1 then .inr ((num T (L - nx T L i) (nx T L i) 0 0).1, (num T (L - nx T L i) (nx T L i) 0 0).2.1)
  else .inl (2, nx T L i)
/-! the class's reader -/
def KC (h0 h : HP) (L : Nat) (T : Nat → Int32) (fa fl : Int32) (i : Nat) (nm : Int32) : Prop := OB h 1 7 [.inl (nI L), .inl fa, .inl fl, .inl (nI i), .inl nm, .inr (some 2)] ∧ IA h 2 240 T ∧ ∀ j, (j = 0 ∨ (3 ≤ j ∧ j < 8) ∨ 13 ≤ j) → h[j]? = h0[j]?
section RDC
variable {h0 h h' : HP} {L : Nat} {T : Nat → Int32} {fa fl nm : Int32} {i : Nat} {D : CS}
theorem KC.wp (K : KC h0 h L T fa fl i nm) (i' : Nat) : ∃ h', pI h 1 7 3 (nI i') = some h' ∧ KC h0 h' L T fa fl i' nm ∧ Fr h h' 1 1 := by
  obtain ⟨k1, k2, k3⟩ := K
  obtain ⟨h', e, o, X⟩ := k1.w 3 (nI i') (gs := [.inl (nI L), .inl fa, .inl fl, .inl (nI i'), .inl nm, .inr (some 2)]) rfl (Nat.le_of_ble_eq_true rfl)
  exact ⟨h', e, ⟨o, k2.eq (X _ (by omega)), fun j hj => (X j (by omega)).trans (k3 j hj)⟩, X⟩
theorem KC.wn (K : KC h0 h L T fa fl i nm) (x : Int32) : ∃ h', pI h 1 7 4 x = some h' ∧ KC h0 h' L T fa fl i x ∧ Fr h h' 1 1 := by
  obtain ⟨k1, k2, k3⟩ := K
  obtain ⟨h', e, o, X⟩ := k1.w 4 x (gs := [.inl (nI L), .inl fa, .inl fl, .inl (nI i), .inl x, .inr (some 2)]) rfl (Nat.le_of_ble_eq_true rfl)
  exact ⟨h', e, ⟨o, k2.eq (X _ (by omega)), fun j hj => (X j (by omega)).trans (k3 j hj)⟩, X⟩
theorem KC.fail0 (K : KC h0 h L T fa 0 i nm) (c w : Int32) : ∃ h', f_X7_fail 1 c w h = some h' ∧ KC h0 h' L T w c i nm ∧ Fr h h' 1 1 := by
  obtain ⟨k1, k2, k3⟩ := K
  obtain ⟨h1, e1, o1, X1⟩ := k1.w 2 c (gs := [.inl (nI L), .inl fa, .inl c, .inl (nI i), .inl nm, .inr (some 2)]) rfl (Nat.le_of_ble_eq_true rfl)
  obtain ⟨h2, e2, o2, X2⟩ := o1.w 1 w (gs := [.inl (nI L), .inl w, .inl c, .inl (nI i), .inl nm, .inr (some 2)]) rfl (Nat.le_of_ble_eq_true rfl)
  have X := X1.trans X2
  refine ⟨h2, ?_, ⟨o2, k2.eq (X _ (by omega)), fun j hj => (X j (by omega)).trans (k3 j hj)⟩, X⟩
  unfold f_X7_fail f_X7_fail_e f_X7_fail_b17
  rw [k1.chk, k1.g 2 rfl, bs, if_pos rfl, e1, bs, e2, bs]
theorem KC.fail1 (K : KC h0 h L T fa fl i nm) (hf : ¬ fl = 0) (c w : Int32) : f_X7_fail 1 c w h = some h := by
  unfold f_X7_fail f_X7_fail_e f_X7_fail_b17
  rw [K.1.chk, K.1.g 2 rfl, bs, if_neg hf]
theorem KC.hou (K : KC h0 h L T fa fl i nm) (X : Fr h h' 8 5) : KC h0 h' L T fa fl i nm := ⟨K.1.eq (X _ (by omega)), K.2.1.eq (X _ (by omega)), fun j hj => (X j (by omega)).trans (K.2.2 j hj)⟩
theorem l_peek (hL : L ≤ 240) : ∀ m i, i + m = L → ∀ n, m < n → ∀ h, KC h0 h L T fa fl i nm → ∃ h', F_X7_peek_0 n 1 h = some (if skB T m i < L then T (skB T m i) else -1, h') ∧ KC h0 h' L T fa fl (skB T m i) nm ∧ Fr h h' 1 1 := by
  intro m
  induction m with
  | zero =>
    intro i hi n hn h K
    obtain ⟨n, rfl⟩ := sx hn
    refine ⟨h, ?_, K, Fr.rfl⟩
    show f_X7_peek_b0 _ _ _ = some (if i < L then T i else -1, h)
    unfold f_X7_peek_b0 f_X7_peek_b67
    rw [K.1.g 3 rfl, bs, if_neg (nI_pos (by omega)), bs, K.1.g 0 rfl, bs, if_pos (nI_le (by omega) (by omega)), if_neg (by omega)]
  | succ m ih =>
    intro i hi n hn h K
    obtain ⟨n, rfl⟩ := sx hn
    have pre : F_X7_peek_0 (n + 1) 1 h = if T i = 32 then (pI h 1 7 3 (nI (i + 1))).bind fun h11 => F_X7_peek_0 n 1 h11 else some (T i, h) := by
      show f_X7_peek_b0 _ _ _ = _
      unfold f_X7_peek_b0
      rw [K.1.g 3 rfl, bs, if_neg (nI_pos (by omega)), bs, K.1.g 0 rfl, bs, if_neg (nI_ge (by omega) (by omega)), bs, K.1.r 5 rfl, bs, ia_len K.2.1, bs, if_neg (nI_ge (by omega) (by omega)), bs, bs, ia_ald K.2.1 (by omega) (by omega), bs, bs, nI_1, bs, bs, ia_ald K.2.1 (by omega) (by omega), bs]
    rw [pre]
    unfold skB
    by_cases ht : T i = 32
    · rw [if_pos ht, if_pos ht]
      obtain ⟨h1, e1, K1, X1⟩ := K.wp (i + 1)
      obtain ⟨h2, e2, K2, X2⟩ := ih (i + 1) (by omega) n (by omega) h1 K1
      exact ⟨h2, by rw [e1, bs, e2], K2, X1.trans X2⟩
    · rw [if_neg ht, if_neg ht]
      exact ⟨h, by rw [if_pos (by omega)], K, Fr.rfl⟩
theorem p_peek (hL : L ≤ 240) (hi : i ≤ L) (K : KC h0 h L T fa fl i nm) : ∃ h', f_X7_peek 1 h = some (if nx T L i < L then T (nx T L i) else -1, h') ∧ KC h0 h' L T fa fl (nx T L i) nm ∧ Fr h h' 1 1 := by
  obtain ⟨h', e, K', X⟩ := l_peek hL (L - i) i (by omega) FU (fu_lt (by omega)) h K
  refine ⟨h', ?_, K', X⟩
  unfold f_X7_peek
  rw [K.1.chk]
  exact e
theorem p_isFigure (x : Int32) (h : HP) : f_X7_isFigure x h = some (bI (dig x), h) := by
  unfold f_X7_isFigure f_X7_isFigure_e f_X7_isFigure_b16 f_X7_isFigure_b17 dig
  by_cases h1 : x < 48
  · rw [if_pos h1]
    simp [h1, bI]
  · rw [if_neg h1]
    by_cases h2 : (57 : Int32) < x
    · rw [if_pos h2]
      simp [h2, bI]
    · rw [if_neg h2]
      simp [h1, h2, bI]
theorem l_num (hL : L ≤ 240) : ∀ m i, i + m = L → ∀ n, m < n → ∀ h v k, k ≤ i → KC h0 h L T fa fl i nm → ∃ h', F_X7_readNumber_17 n 1 v (nI k) h = f_X7_readNumber_b86 1 (num T m i v k).1 (nI (num T m i v k).2.2) h' ∧ KC h0 h' L T fa fl (num T m i v k).2.1 nm ∧ Fr h h' 1 1 := by
  intro m
  induction m with
  | zero =>
    intro i hi n hn h v k hk K
    obtain ⟨n, rfl⟩ := sx hn
    refine ⟨h, ?_, K, Fr.rfl⟩
    show f_X7_readNumber_b17 _ _ _ _ _ = _
    unfold f_X7_readNumber_b17
    rw [K.1.g 3 rfl, bs, K.1.g 0 rfl, bs, if_pos (nI_le (by omega) (by omega))]
    rfl
  | succ m ih =>
    intro i hi n hn h v k hk K
    obtain ⟨n, rfl⟩ := sx hn
    have pre : F_X7_readNumber_17 (n + 1) 1 v (nI k) h = if bI (dig (T i)) = 0 then f_X7_readNumber_b86 1 v (nI k) h else if (3 : Int32) < nI (k + 1) then (pI h 1 7 3 (nI (i + 1))).bind fun h2 => F_X7_readNumber_17 n 1 v (nI (k + 1)) h2 else (pI h 1 7 3 (nI (i + 1))).bind fun h2 => F_X7_readNumber_17 n 1 (v * 10 + T i - 48) (nI (k + 1)) h2 := by
      show f_X7_readNumber_b17 _ _ _ _ _ = _
      unfold f_X7_readNumber_b17 f_X7_readNumber_b73
      rw [K.1.g 3 rfl, bs, K.1.g 0 rfl, bs, if_neg (nI_ge (by omega) (by omega)), K.1.r 5 rfl, bs, bs, ia_at K.2.1 (by omega) (by omega), bs]
      show (f_X7_isFigure (T i) h).bind _ = _
      rw [p_isFigure, bs, nI_1]
      show (if bI (dig (T i)) = 0 then f_X7_readNumber_b86 1 v (nI k) h else if (3 : Int32) < nI (k + 1) then (gI h 1 7 3).bind _ else (gR h 1 7 5).bind fun r7 => (gI h 1 7 3).bind fun v8 => (f_X8_at r7 v8 h).bind fun q9 => (gI q9.2 1 7 3).bind _) = _
      rw [K.1.g 3 rfl, bs, nI_1, K.1.r 5 rfl, bs, bs, ia_at K.2.1 (by omega) (by omega), bs]
      show (if bI (dig (T i)) = 0 then f_X7_readNumber_b86 1 v (nI k) h else if (3 : Int32) < nI (k + 1) then _ else (gI h 1 7 3).bind _) = _
      rw [K.1.g 3 rfl, bs, nI_1]
    rw [pre]
    unfold num
    cases hd : dig (T i) with
    | false =>
      rw [if_pos (by rfl), if_neg (by decide)]
      exact ⟨h, rfl, K, Fr.rfl⟩
    | true =>
      rw [if_neg b1n, if_pos rfl]
      obtain ⟨h1, e1, K1, X1⟩ := K.wp (i + 1)
      by_cases hk3 : k < 3
      · rw [if_neg (show ¬ (3 : Int32) < nI (k + 1) from nI_nlt (a := 3) (by omega) (by omega)), if_pos hk3, e1, bs]
        obtain ⟨h2, e2, K2, X2⟩ := ih (i + 1) (by omega) n (by omega) h1 (v * 10 + T i - 48) (k + 1) (by omega) K1
        exact ⟨h2, e2, K2, X1.trans X2⟩
      · rw [if_pos (show (3 : Int32) < nI (k + 1) from nI_lt (a := 3) (by omega) (by omega)), if_neg hk3, e1, bs]
        obtain ⟨h2, e2, K2, X2⟩ := ih (i + 1) (by omega) n (by omega) h1 v (k + 1) (by omega) K1
        exact ⟨h2, e2, K2, X1.trans X2⟩
/-- what the class's number leaves behind -/
def CN (h0 h' : HP) (L : Nat) (T : Nat → Int32) (i : Nat) : Prop := KC h0 h' L T (if (num T (L - nx T L i) (nx T L i) 0 0).2.2 = 0 ∨ 3 < (num T (L - nx T L i) (nx T L i) 0 0).2.2 then nI (nx T L i) else -1) (if (num T (L - nx T L i) (nx T L i) 0 0).2.2 = 0 then 1 else if 3 < (num T (L - nx T L i) (nx T L i) 0 0).2.2 then 2 else 0) (num T (L - nx T L i) (nx T L i) 0 0).2.1 (nI (nx T L i))
theorem p_readNumber (hL : L ≤ 240) (hi : i ≤ L) (K : KC h0 h L T (-1) 0 i nm) : ∃ h', f_X7_readNumber 1 h = some ((num T (L - nx T L i) (nx T L i) 0 0).1, h') ∧ CN h0 h' L T i ∧ Fr h h' 1 1 := by
  obtain ⟨h1, e1, K1, X1⟩ := p_peek hL hi K
  obtain ⟨a, b, c⟩ := nx_le (T := T) hi
  obtain ⟨h2, e2, K2, X2⟩ := K1.wn (nI (nx T L i))
  obtain ⟨h3, e3, K3, X3⟩ := l_num hL (L - nx T L i) (nx T L i) (by omega) FU (fu_lt (by omega)) h2 0 0 (by omega) K2
  obtain ⟨n1, n2, n3⟩ := num_le (T := T) (L - nx T L i) (nx T L i) 0 0
  unfold CN
  have X := (X1.trans X2).trans X3
  have pre : f_X7_readNumber 1 h = f_X7_readNumber_b86 1 (num T (L - nx T L i) (nx T L i) 0 0).1 (nI (num T (L - nx T L i) (nx T L i) 0 0).2.2) h3 := by
    unfold f_X7_readNumber f_X7_readNumber_e
    rw [K.1.chk, e1, bs]
    show (gI h1 1 7 3).bind _ = _
    rw [K1.1.g 3 rfl, bs]
    show (pI h1 1 7 4 (nI (nx T L i))).bind _ = _
    rw [e2, bs]
    exact e3
  rw [pre]
  generalize num T (L - nx T L i) (nx T L i) 0 0 = z at K3 n1 n2 n3 ⊢
  unfold f_X7_readNumber_b86 f_X7_readNumber_b116
  by_cases h0 : z.2.2 = 0
  · obtain ⟨h4, e4, K4, X4⟩ := K3.fail0 1 (nI (nx T L i))
    refine ⟨h4, ?_, ?_, X.trans X4⟩
    · rw [if_pos (by rw [h0]; rfl), K3.1.g 4 rfl, bs, e4, bs]
    · rw [if_pos (Or.inl h0), if_pos h0]; exact K4
  · rw [if_neg (nI_ne0 (by omega) (by omega)), if_neg h0]
    by_cases g3 : 3 < z.2.2
    · obtain ⟨h4, e4, K4, X4⟩ := K3.fail0 2 (nI (nx T L i))
      refine ⟨h4, ?_, ?_, X.trans X4⟩
      · rw [if_neg (show ¬ nI z.2.2 ≤ (3 : Int32) from nI_ge (a := 3) g3 (by omega)), K3.1.g 4 rfl, bs, e4, bs]
      · rw [if_pos (Or.inr g3), if_pos g3]; exact K4
    · refine ⟨h3, ?_, ?_, X⟩
      · rw [if_pos (show nI z.2.2 ≤ (3 : Int32) from nI_le (b := 3) (by omega) (by omega))]
      · rw [if_neg (by omega), if_neg g3]; exact K3
/-- a number in its bounds, or a fault: as the class holds it -/
def CNP (h0 h' : HP) (L : Nat) (T : Nat → Int32) (x : Int32) (f : Nat) : (Nat × Nat) ⊕ (Int32 × Nat) → Prop
  | .inl e => ∃ i nm, KC h0 h' L T (nI e.2) (nI e.1) i nm
  | .inr z => x = z.1 ∧ KC h0 h' L T (-1) 0 z.2 (nI f)
/-- the bounds are looked at behind a number -/
theorem CN.test {lo hi : Int32} (K : CN h0 h L T i) (hi9 : i ≤ L) (hL : L ≤ 240) : ∃ h', (if ¬ (num T (L - nx T L i) (nx T L i) 0 0).1 < lo ∧ ¬ hi < (num T (L - nx T L i) (nx T L i) 0 0).1 then some h else (gI h 1 7 4).bind fun v => f_X7_fail 1 2 v h) = some h' ∧ CNP h0 h' L T (num T (L - nx T L i) (nx T L i) 0 0).1 (nx T L i) (numP T L lo hi i) ∧ Fr h h' 1 1 := by
  unfold CN at K
  unfold numP
  generalize num T (L - nx T L i) (nx T L i) 0 0 = z at K ⊢
  by_cases h0 : z.2.2 = 0
  · rw [if_pos (Or.inl h0), if_pos h0] at K
    rw [if_pos h0]
    refine ⟨h, ?_, ⟨_, _, K⟩, Fr.rfl⟩
    split
    · rfl
    · rw [K.1.g 4 rfl, bs, K.fail1 (by decide)]
  · by_cases h3 : 3 < z.2.2
    · rw [if_pos (Or.inr h3), if_neg h0, if_pos h3] at K
      rw [if_neg h0, if_pos h3]
      refine ⟨h, ?_, ⟨_, _, K⟩, Fr.rfl⟩
      split
      · rfl
      · rw [K.1.g 4 rfl, bs, K.fail1 (by decide)]
    · rw [if_neg (by omega), if_neg h0, if_neg h3] at K
      rw [if_neg h0, if_neg h3]
      by_cases hb : ¬ z.1 < lo ∧ ¬ hi < z.1
      · rw [if_pos hb, if_pos hb]
        exact ⟨h, rfl, ⟨rfl, K⟩, Fr.rfl⟩
      · rw [if_neg hb, if_neg hb]
        obtain ⟨h4, e4, K4, X4⟩ := K.fail0 2 (nI (nx T L i))
        exact ⟨h4, by rw [K.1.g 4 rfl, bs, e4], ⟨_, _, K4⟩, X4⟩
theorem p_readRoom (hL : L ≤ 240) (hi : i ≤ L) (K : KC h0 h L T (-1) 0 i nm) (V : HV h 8 D) (Y : VS D) : ∃ x h', f_X7_readRoom 1 8 h = some (x, h') ∧ CNP h0 h' L T x (nx T L i) (numP T L 0 (nI (cN D) - 1) i) ∧ Fr h h' 1 1 := by
  have hN := Y.n8
  obtain ⟨h1, e1, K1, X1⟩ := p_readNumber hL hi K
  have V1 := V.fr X1 (by omega)
  obtain ⟨t, et, ht⟩ := p_hasRoom V1 Y (num T (L - nx T L i) (nx T L i) 0 0).1
  obtain ⟨h2, e2, K2, X2⟩ := K1.test (lo := 0) (hi := nI (cN D) - 1) hi hL
  refine ⟨_, h2, ?_, K2, X1.trans X2⟩
  unfold f_X7_readRoom f_X7_readRoom_e f_X7_readRoom_b22
  rw [K.1.chk, e1, bs]
  show (f_X3_hasRoom 8 (num T (L - nx T L i) (nx T L i) 0 0).1 h1).bind _ = _
  rw [et, bs]
  have hb : (¬ (num T (L - nx T L i) (nx T L i) 0 0).1 < 0 ∧ ¬ nI (cN D) - 1 < (num T (L - nx T L i) (nx T L i) 0 0).1) ↔ t = true := by rw [ht]; exact in_iff (by omega)
  cases t with
  | true =>
    rw [if_pos (hb.mpr rfl)] at e2
    cases e2
    rw [if_neg b1n]
  | false =>
    rw [if_neg (fun z => by have := hb.mp z; cases this)] at e2
    rw [if_pos (by rfl)]
    show (gI h1 1 7 4).bind _ = _
    obtain ⟨v, ev, e2⟩ := ob e2
    rw [ev, bs]
    show (f_X7_fail 1 2 v h1).bind _ = _
    rw [e2, bs]
end RDC
