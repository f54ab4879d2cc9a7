/-! a house is changed -/
def setSeat (S : CS) (p : Nat) (o : Option Nat) : CS := (cN S, cP S, fun q => if q = p then o else cS S q, cL S, cO S)
def setLk (S : CS) (p : Nat) (l : List Nat) : CS := (cN S, cP S, cS S, fun q => if q = p then l else cL S q, cO S)
def setOd (S : CS) (l : List Nat) : CS := (cN S, cP S, cS S, cL S, l)
theorem setLk_self (S : CS) (p : Nat) : setLk S p (cL S p) = S := by
  unfold setLk
  have : (fun q => if q = p then cL S p else cL S q) = cL S := by
    funext q
    by_cases hq : q = p
    · rw [if_pos hq, hq]
    · rw [if_neg hq]
  rw [this]
theorem setLk_at (S : CS) (p : Nat) (l : List Nat) : cL (setLk S p l) p = l := if_pos rfl
theorem setLk_ne (S : CS) {p q : Nat} (l : List Nat) (h : q ≠ p) : cL (setLk S p l) q = cL S q := if_neg h
theorem setLk_set (S : CS) (p : Nat) (l m : List Nat) : setLk (setLk S p l) p m = setLk S p m := by
  unfold setLk
  have : (fun q => if q = p then m else cL (cN S, cP S, cS S, fun q => if q = p then l else cL S q, cO S) q) = fun q => if q = p then m else cL S q := by
    funext q
    by_cases hq : q = p
    · rw [if_pos hq, if_pos hq]
    · rw [if_neg hq, if_neg hq]; exact if_neg hq
  rw [this]
theorem us {f : Nat → Int32} {k : Nat} {x : Int32} : upd f k x k = x := if_pos rfl
theorem un {f : Nat → Int32} {k j : Nat} {x : Int32} (h : j ≠ k) : upd f k x j = f j := if_neg h
section HMU
variable {h : HP} {a : Nat} {S : CS}
theorem Rep.seat {st am lk od : Nat → Int32} (r : Rep S st am lk od) (p : Nat) (o : Option Nat) : Rep (setSeat S p o) (upd st p (enc o)) am lk od := by
  refine ⟨fun q hq => ?_, r.2.1, r.2.2.1, r.2.2.2⟩
  by_cases hqp : q = p
  · subst hqp
    rw [us]
    show enc o = enc (if q = q then o else cS S q)
    rw [if_pos rfl]
  · rw [un hqp, r.1 q hq]
    show enc (cS S q) = enc (if q = p then o else cS S q)
    rw [if_neg hqp]
theorem p_seat (V : HV h a S) (Y : VS S) {p : Nat} (hp : p < cP S) (o : Option Nat) : ∃ h', f_X3_seat a (nI p) (enc o) h = some h' ∧ HV h' a (setSeat S p o) ∧ Fr h h' a 5 := by
  have := Y.p6
  obtain ⟨st, am, lk, od, A, r⟩ := V.hr
  obtain ⟨h', e, A', F⟩ := A.pst (k := p) (by omega) (enc o)
  refine ⟨h', ?_, HR.hv (S := setSeat S p o) A' (r.seat p o), F⟩
  unfold f_X3_seat f_X3_seat_e
  rw [A.chk, A.r2, bs, e, bs]
theorem Rep.lk {st am lk od am' lk' : Nat → Int32} (r : Rep S st am lk od) (Y : VS S) {p : Nat} {l : List Nat} (h1 : am' p = nI l.length) (h2 : ∀ q, q ≠ p → am' q = am q) (h3 : RWl lk' (8 * p) l) (h4 : ∀ j, (j < 8 * p ∨ 8 * p + 8 ≤ j) → lk' j = lk j) : Rep (setLk S p l) st am' lk' od := by
  refine ⟨r.1, fun q hq => ?_, fun q hq k x hk => ?_, r.2.2.2⟩
  · by_cases hqp : q = p
    · subst hqp; rw [h1, setLk_at]
    · rw [h2 q hqp, setLk_ne S l hqp]; exact r.2.1 q hq
  · by_cases hqp : q = p
    · subst hqp
      rw [setLk_at] at hk
      exact h3 k x hk
    · rw [setLk_ne S l hqp] at hk
      have hl := Y.len hq
      have := (List.getElem?_eq_some_iff.mp hk).1
      rw [h4 _ (by omega)]
      exact r.2.2.1 q hq k x hk
theorem Rep.row {st am lk od : Nat → Int32} (r : Rep S st am lk od) {p : Nat} (hp : p < cP S) : RWl lk (8 * p) (cL S p) := r.2.2.1 p hp
theorem p_clearLikings (V : HV h a S) (Y : VS S) {p : Nat} (hp : p < cP S) : ∃ h', f_X3_clearLikings a (nI p) h = some h' ∧ HV h' a (setLk S p []) ∧ Fr h h' a 5 := by
  have := Y.p6
  obtain ⟨st, am, lk, od, A, r⟩ := V.hr
  obtain ⟨h', e, A', F⟩ := A.pam (k := p) (by omega) 0
  refine ⟨h', ?_, HR.hv (S := setLk S p []) A' (r.lk Y us (fun q hq => un hq) (fun j x hj => by simp at hj) (fun _ _ => rfl)), F⟩
  unfold f_X3_clearLikings f_X3_clearLikings_e
  rw [A.chk, A.r3, bs, e, bs]
theorem mul8 (p : Nat) : nI p * 8 = nI (8 * p) := by rw [show (8 : Int32) = nI 8 from rfl, pk_mul, Nat.mul_comm]
theorem p_addLiking (V : HV h a S) (Y : VS S) {p : Nat} (hp : p < cP S) (hl : (cL S p).length < 8) (x : Nat) : ∃ h', f_X3_addLiking a (nI p) (nI x) h = some h' ∧ HV h' a (setLk S p (cL S p ++ [x])) ∧ Fr h h' a 5 := by
  have := Y.p6
  obtain ⟨st, am, lk, od, A, r⟩ := V.hr
  obtain ⟨h1, e1, A1, F1⟩ := A.plk (k := 8 * p + (cL S p).length) (by omega) (nI x)
  obtain ⟨h2, e2, A2, F2⟩ := A1.pam (k := p) (by omega) (nI ((cL S p).length + 1))
  refine ⟨h2, ?_, HR.hv (S := setLk S p (cL S p ++ [x])) A2 (r.lk Y ?_ (fun q hq => un hq) (fun j y hj => ?_) (fun j hj => un (by omega))), F1.trans F2⟩
  · unfold f_X3_addLiking f_X3_addLiking_e
    rw [A.chk, A.r3, bs, V.amt Y hp, bs, if_neg (nI_pos (by omega)), if_neg (show ¬ (8 : Int32) ≤ nI (cL S p).length from nI_ge (b := 8) hl (by omega)), A.r4, bs, nI8, e1, bs, A1.r3, bs]
    show (f_X8_put (a + 2) (nI p) (nI (cL S p).length + 1) h1).bind _ = _
    rw [nI_1, e2, bs]
    rfl
  · rw [us]; simp
  · by_cases hj2 : j < (cL S p).length
    · rw [List.getElem?_append_left hj2] at hj
      rw [un (by omega)]
      exact r.row hp j y hj
    · rw [List.getElem?_append_right (by omega)] at hj
      have hz := (List.getElem?_eq_some_iff.mp hj).1
      simp at hz
      have hjj : j = (cL S p).length := by omega
      rw [hjj, Nat.sub_self] at hj
      cases hj
      rw [hjj, us]
theorem l_dropLiking {rm ps : Int32} {st am od : Nat → Int32} {p last : Nat} (hp : p < 6) (hl : last < 8) : ∀ m i, i + m = last → ∀ n, m < n → ∀ (h : HP) (lk : Nat → Int32), HR h a rm ps st am lk od → ∃ h', F_X3_dropLiking_34 n a (nI p) (nI (8 * p)) (nI last) (nI i) h = some h' ∧ HR h' a rm ps st (upd am p (nI last)) (shL lk (8 * p + i) (8 * p + last)) od ∧ Fr h h' a 5 := by
  intro m
  induction m with
  | zero =>
    intro i hi n hn h lk A
    obtain ⟨n, rfl⟩ := sx hn
    obtain ⟨h1, e1, A1, F1⟩ := A.pam hp (nI last)
    refine ⟨h1, ?_, by rw [shL_0 lk (by omega)]; exact A1, F1⟩
    show f_X3_dropLiking_b34 _ _ _ _ _ _ _ = _
    unfold f_X3_dropLiking_b34
    rw [if_pos (nI_le (by omega) (by omega)), A.r3, bs, e1, bs]
  | succ m ih =>
    intro i hi n hn h lk A
    obtain ⟨n, rfl⟩ := sx hn
    obtain ⟨h1, e1, A1, F1⟩ := A.plk (k := 8 * p + i) (by omega) (lk (8 * p + i + 1))
    obtain ⟨h2, e2, A2, F2⟩ := ih (i + 1) (by omega) n (by omega) h1 _ A1
    refine ⟨h2, ?_, by rw [← shL_s lk (by omega)]; exact A2, F1.trans F2⟩
    show f_X3_dropLiking_b34 _ _ _ _ _ _ _ = _
    unfold f_X3_dropLiking_b34
    rw [if_neg (nI_ge (by omega) (by omega)), A.r4, bs, bs, nI_add, nI_1, ia_at A.2.2.2.1 (by omega) (by omega), bs, e1, bs, nI_1, e2]
theorem p_dropLiking (V : HV h a S) (Y : VS S) {p : Nat} (hp : p < cP S) {x : Nat} (hx : x < 2 ^ 31) : ∃ h', f_X3_dropLiking a (nI p) (nI x) h = some h' ∧ HV h' a (setLk S p (dropC x (cL S p))) ∧ Fr h h' a 5 := by
  have := Y.p6
  have hl := Y.len hp
  obtain ⟨st, am, lk, od, A, r⟩ := V.hr
  unfold f_X3_dropLiking f_X3_dropLiking_e dropC
  rw [A.chk, p_likingPlace V Y hp hx, bs]
  cases hi : idx x (cL S p) with
  | none =>
    refine ⟨h, ?_, ?_, Fr.rfl⟩
    · rw [if_pos (by rfl)]
    · show HV h a (setLk S p (cL S p))
      rw [setLk_self]; exact V
  | some k =>
    have hk := (List.getElem?_eq_some_iff.mp (idx_some hi)).1
    rw [if_neg (show ¬ enc (some k) = -1 from nI_neg1 (by omega)), A.r3, bs, V.amt Y hp, bs]
    obtain ⟨h', e, A', F⟩ := l_dropLiking (a := a) (p := p) (last := (cL S p).length - 1) (by omega) (by omega) ((cL S p).length - 1 - k) k (by omega) FU (fu_lt (by omega)) h lk A
    refine ⟨h', ?_, HR.hv (S := setLk S p ((cL S p).eraseIdx k)) A' (r.lk Y ?_ (fun q hq => un hq) (cl_drop (r.row hp) hk) (fun j hj => if_neg (by omega))), F⟩
    · rw [mul8]
      show F_X3_dropLiking_34 FU a (nI p) (nI (8 * p)) (nI (cL S p).length - 1) (nI k) h = _
      rw [show nI (cL S p).length - 1 = nI ((cL S p).length - 1) from pk_sub (b := 1) (by omega), e]
    · rw [us, List.length_eraseIdx, if_pos hk]
theorem l_putLiking {rm ps : Int32} {st am od : Nat → Int32} {p t x : Nat} (hp : p < 6) : ∀ m i, t + m = i → i < 8 → ∀ n, m < n → ∀ (h : HP) (lk : Nat → Int32), HR h a rm ps st am lk od → ∃ h', F_X3_putLiking_40 n a (nI x) (nI (8 * p)) (nI t) (nI i) h = some h' ∧ HR h' a rm ps st am (insR lk (8 * p + t) (8 * p + i) (nI x)) od ∧ Fr h h' a 5 := by
  intro m
  induction m with
  | zero =>
    intro i hi h8 n hn h lk A
    obtain ⟨n, rfl⟩ := sx hn
    obtain ⟨h1, e1, A1, F1⟩ := A.plk (k := 8 * p + t) (by omega) (nI x)
    have hti : t = i := by omega
    refine ⟨h1, ?_, by rw [← hti, insR_0]; exact A1, F1⟩
    show f_X3_putLiking_b40 _ _ _ _ _ _ _ = _
    unfold f_X3_putLiking_b40
    rw [if_pos (nI_le (by omega) (by omega)), A.r4, bs, nI_add, e1, bs]
  | succ m ih =>
    intro i hi h8 n hn h lk A
    obtain ⟨n, rfl⟩ := sx hn
    obtain ⟨i, rfl⟩ : ∃ j, i = j + 1 := ⟨i - 1, by omega⟩
    obtain ⟨h1, e1, A1, F1⟩ := A.plk (k := 8 * p + (i + 1)) (by omega) (lk (8 * p + i))
    obtain ⟨h2, e2, A2, F2⟩ := ih i (by omega) (by omega) n (by omega) h1 _ A1
    refine ⟨h2, ?_, ?_, F1.trans F2⟩
    · show f_X3_putLiking_b40 _ _ _ _ _ _ _ = _
      unfold f_X3_putLiking_b40
      rw [if_neg (nI_ge (by omega) (by omega)), A.r4, bs, bs, nI_add, ← Nat.add_assoc, nI_pred, ia_at A.2.2.2.1 (by omega) (by omega), bs, Nat.add_assoc, e1, bs, pk_m1, e2]
    · rw [← Nat.add_assoc, ← insR_s lk (nI x) (by omega)]
      exact A2
/-- a room becomes the k-th that he likes -/
def likeC (l : List Nat) (x k : Nat) : List Nat := insC (min k (dropC x l).length) x (dropC x l)
theorem VS.lk (Y : VS S) {p : Nat} {l : List Nat} (h1 : l.Nodup) (h2 : ∀ r ∈ l, r < cN S) : VS (setLk S p l) := by
  refine ⟨Y.1, Y.2.1, Y.2.2.1, Y.2.2.2.1, fun q hq => ?_, Y.2.2.2.2.2⟩
  by_cases hqp : q = p
  · subst hqp; rw [setLk_at]; exact ⟨h1, h2⟩
  · rw [setLk_ne S l hqp]; exact Y.2.2.2.2.1 q hq
theorem VS.drop (Y : VS S) {p : Nat} (hp : p < cP S) (x : Nat) : VS (setLk S p (dropC x (cL S p))) := Y.lk (dropC_nodup (Y.2.2.2.2.1 p hp).1) (fun r hr => (Y.2.2.2.2.1 p hp).2 r (dropC_mem hr))
theorem drop_len (Y : VS S) {p x : Nat} (hp : p < cP S) (hx : x < cN S) : (dropC x (cL S p)).length < 8 := by
  have h1 := nodup_len (cN S) (x :: dropC x (cL S p)) (List.nodup_cons.mpr ⟨dropC_not (Y.2.2.2.2.1 p hp).1, dropC_nodup (Y.2.2.2.2.1 p hp).1⟩) (fun r hr => by
    rcases List.mem_cons.mp hr with h | h
    · rw [h]; exact hx
    · exact (Y.2.2.2.2.1 p hp).2 r (dropC_mem h))
  have := Y.n8
  simp at h1
  omega
theorem VS.likeC (Y : VS S) {p x : Nat} (hp : p < cP S) (hx : x < cN S) (k : Nat) : VS (setLk S p (likeC (cL S p) x k)) := Y.lk (insC_nodup (dropC_nodup (Y.2.2.2.2.1 p hp).1) (dropC_not (Y.2.2.2.2.1 p hp).1)) (fun r hr => by
    rcases insC_mem hr with h | h
    · rw [h]; exact hx
    · exact (Y.2.2.2.2.1 p hp).2 r (dropC_mem h))
theorem p_putLiking (V : HV h a S) (Y : VS S) {p : Nat} (hp : p < cP S) {x : Nat} (hx : x < cN S) {k : Nat} (hk : k < 8) : ∃ h', f_X3_putLiking a (nI p) (nI x) (nI k) h = some h' ∧ HV h' a (setLk S p (likeC (cL S p) x k)) ∧ Fr h h' a 5 := by
  have hP := Y.p6
  have hN := Y.n8
  obtain ⟨h1, e1, V1, F1⟩ := p_dropLiking V Y hp (x := x) (by omega)
  have Y1 := Y.drop hp x
  have hl := drop_len Y hp hx
  have hLe : cL (setLk S p (dropC x (cL S p))) p = dropC x (cL S p) := setLk_at _ _ _
  obtain ⟨h2, e2, V2, F2⟩ := p_addLiking V1 Y1 (p := p) hp (by rw [hLe]; exact hl) x
  rw [hLe, setLk_set] at V2
  obtain ⟨st, am, lk, od, A2, r2⟩ := V2.hr
  have hmin : (if nI (dropC x (cL S p)).length < nI k then nI (dropC x (cL S p)).length else nI k) = nI (min k (dropC x (cL S p)).length) := by
    by_cases hq : (dropC x (cL S p)).length < k
    · rw [if_pos (nI_lt hq (by omega)), Nat.min_eq_right (by omega)]
    · rw [if_neg (nI_nlt (by omega) (by omega)), Nat.min_eq_left (by omega)]
  obtain ⟨h3, e3, A3, F3⟩ := l_putLiking (a := a) (p := p) (t := min k (dropC x (cL S p)).length) (x := x) (by omega) ((dropC x (cL S p)).length - min k (dropC x (cL S p)).length) (dropC x (cL S p)).length (by omega) hl FU (fu_lt (by omega)) h2 lk A2
  have hrow : RWl lk (8 * p) (dropC x (cL S p)) := fun j y hj => r2.2.2.1 p hp j y (by
    have hjl := (List.getElem?_eq_some_iff.mp hj).1
    rw [setLk_at, List.getElem?_append_left hjl]; exact hj)
  refine ⟨h3, ?_, ?_, (F1.trans F2).trans F3⟩
  · unfold f_X3_putLiking f_X3_putLiking_e
    rw [V.chk, e1, bs, V1.r3, bs, V1.amt Y1 (p := p) hp, bs, hLe, e2, bs, hmin, mul8]
    exact e3
  · have YS : VS (setLk S p (dropC x (cL S p) ++ [x])) := Y.lk (by
      refine List.nodup_append.mpr ⟨dropC_nodup (Y.2.2.2.2.1 p hp).1, by simp, fun y hy z hz => ?_⟩
      simp at hz
      subst hz
      exact fun q => dropC_not (Y.2.2.2.2.1 p hp).1 (q ▸ hy)) (fun r hr => by
      rcases List.mem_append.mp hr with h | h
      · exact (Y.2.2.2.2.1 p hp).2 r (dropC_mem h)
      · simp at h; rw [h]; exact hx)
    have rr := r2.lk YS (p := p) (l := likeC (cL S p) x k) (am' := am) (lk' := insR lk (8 * p + min k (dropC x (cL S p)).length) (8 * p + (dropC x (cL S p)).length) (nI x)) (by
      rw [r2.2.1 p hp, setLk_at]
      unfold likeC
      rw [insC_len (Nat.min_le_right _ _)]
      simp) (fun _ _ => rfl) (cl_ins hrow (Nat.min_le_right _ _)) (fun j hj => by
        unfold insR
        rw [if_neg (by omega), if_neg (by omega)])
    rw [setLk_set] at rr
    exact HR.hv (S := setLk S p (likeC (cL S p) x k)) A3 rr
end HMU
