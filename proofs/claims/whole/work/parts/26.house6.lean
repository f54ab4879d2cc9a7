section HM2
variable {h : HP} {a : Nat} {S : CS}
theorem ord_mem (Y : VS S) {p : Nat} (hp : p < cP S) : p ∈ cO S := by
  rcases Decidable.em (p ∈ cO S) with q | q
  · exact q
  · have := nodup_len (cP S) (p :: cO S) (List.nodup_cons.mpr ⟨q, Y.2.2.2.2.2.2.1⟩) (fun r hr => by
      rcases List.mem_cons.mp hr with h | h
      · rw [h]; exact hp
      · exact Y.2.2.2.2.2.2.2 r h)
    have := Y.2.2.2.2.2.1
    simp at *
    omega
theorem ord_idx (Y : VS S) {p : Nat} (hp : p < cP S) : ∃ k, idx p (cO S) = some k ∧ k < cP S := by
  cases hi : idx p (cO S) with
  | none => exact absurd (ord_mem Y hp) (idx_none.mp hi)
  | some k =>
    have := (List.getElem?_eq_some_iff.mp (idx_some hi)).1
    have := Y.2.2.2.2.2.1
    exact ⟨k, rfl, by omega⟩
theorem l_toPlaceB {rm ps : Int32} {st am lk : Nat → Int32} {t x : Nat} : ∀ m i, t + m = i → i < 6 → ∀ n, m < n → ∀ (h : HP) (od : Nat → Int32), HR h a rm ps st am lk od → ∃ h', F_X3_toPlace_44 n a (nI x) (nI t) (nI i) h = some h' ∧ HR h' a rm ps st am lk (insR od t i (nI x)) ∧ Fr h h' a 5 := by
  intro m
  induction m with
  | zero =>
    intro i hi h8 n hn h od A
    obtain ⟨n, rfl⟩ := sx hn
    obtain ⟨h1, e1, A1, F1⟩ := A.pod (k := t) (by omega) (nI x)
    have hti : t = i := by omega
    refine ⟨h1, ?_, by rw [← hti, insR_0]; exact A1, F1⟩
    show f_X3_toPlace_b44 _ _ _ _ _ _ = _
    unfold f_X3_toPlace_b44
    rw [if_pos (nI_le (by omega) (by omega)), A.r5, bs, e1, bs]
  | succ m ih =>
    intro i hi h8 n hn h od A
    obtain ⟨n, rfl⟩ := sx hn
    obtain ⟨i, rfl⟩ : ∃ j, i = j + 1 := ⟨i - 1, by omega⟩
    obtain ⟨h1, e1, A1, F1⟩ := A.pod (k := i + 1) (by omega) (od i)
    obtain ⟨h2, e2, A2, F2⟩ := ih i (by omega) (by omega) n (by omega) h1 _ A1
    refine ⟨h2, ?_, ?_, F1.trans F2⟩
    · show f_X3_toPlace_b44 _ _ _ _ _ _ = _
      unfold f_X3_toPlace_b44
      rw [if_neg (nI_ge (by omega) (by omega)), A.r5, bs, bs, nI_pred, ia_at A.2.2.2.2 (by omega) (by omega), bs, e1, bs, pk_m1, e2]
    · rw [← insR_s od (nI x) (by omega)]
      exact A2
/-- where the second stretch begins at or ahead of the place: it writes alone -/
theorem l_toPlaceC {rm ps : Int32} {st am lk : Nat → Int32} {t x i : Nat} (hit : i ≤ t) (ht : t < 6) (h : HP) (od : Nat → Int32) (A : HR h a rm ps st am lk od) : ∃ h', F_X3_toPlace_44 FU a (nI x) (nI t) (nI i) h = some h' ∧ HR h' a rm ps st am lk (upd od t (nI x)) ∧ Fr h h' a 5 := by
  obtain ⟨h1, e1, A1, F1⟩ := A.pod (k := t) (by omega) (nI x)
  refine ⟨h1, ?_, A1, F1⟩
  show f_X3_toPlace_b44 _ _ _ _ _ _ = _
  unfold f_X3_toPlace_b44
  rw [if_pos (nI_le (by omega) (by omega)), A.r5, bs, e1, bs]
theorem l_toPlaceA {rm ps : Int32} {st am lk : Nat → Int32} {t x k : Nat} (ht : t < 6) (hkt : k ≤ t) : ∀ m i, i + m = t → ∀ n, m < n → ∀ (h : HP) (od : Nat → Int32), HR h a rm ps st am lk od → ∃ h', F_X3_toPlace_9 n a (nI x) (nI t) (nI k) (nI i) h = some h' ∧ HR h' a rm ps st am lk (upd (shL od i t) t (nI x)) ∧ Fr h h' a 5 := by
  intro m
  induction m with
  | zero =>
    intro i hi n hn h od A
    obtain ⟨n, rfl⟩ := sx hn
    obtain ⟨h1, e1, A1, F1⟩ := l_toPlaceC (x := x) hkt ht h od A
    refine ⟨h1, ?_, by rw [shL_0 od (by omega)]; exact A1, F1⟩
    show f_X3_toPlace_b9 _ _ _ _ _ _ _ = _
    unfold f_X3_toPlace_b9
    rw [if_pos (nI_le (by omega) (by omega)), e1]
  | succ m ih =>
    intro i hi n hn h od A
    obtain ⟨n, rfl⟩ := sx hn
    obtain ⟨h1, e1, A1, F1⟩ := A.pod (k := i) (by omega) (od (i + 1))
    obtain ⟨h2, e2, A2, F2⟩ := ih (i + 1) (by omega) n (by omega) h1 _ A1
    refine ⟨h2, ?_, by rw [← shL_s od (by omega)]; exact A2, F1.trans F2⟩
    show f_X3_toPlace_b9 _ _ _ _ _ _ _ = _
    unfold f_X3_toPlace_b9
    rw [if_neg (nI_ge (by omega) (by omega)), A.r5, bs, bs, nI_1, ia_at A.2.2.2.2 (by omega) (by omega), bs, e1, bs, e2]
def movC (l : List Nat) (p t : Nat) : List Nat := match idx p l with
  | none => l
  | some k => insC t p (l.eraseIdx k)
theorem movC_perm {l : List Nat} {p t : Nat} : (movC l p t).Perm l := by
  unfold movC
  cases hi : idx p l with
  | none => exact List.Perm.refl _
  | some k =>
    have hk := idx_some hi
    have hkl := (List.getElem?_eq_some_iff.mp hk).1
    have hp : p = l[k] := by rw [List.getElem?_eq_getElem hkl] at hk; exact (Option.some.inj hk).symm
    have h1 : (insC t p (l.eraseIdx k)).Perm (p :: l.eraseIdx k) := by
      unfold insC
      refine List.perm_middle.trans ?_
      rw [List.take_append_drop]
    refine h1.trans ?_
    rw [hp]
    have hd : l.take k ++ l[k] :: l.drop (k + 1) = l := by rw [← List.drop_eq_getElem_cons hkl, List.take_append_drop]
    rw [List.eraseIdx_eq_take_drop_succ]
    refine (List.perm_middle (a := l[k]) (l₁ := l.take k) (l₂ := l.drop (k + 1))).symm.trans ?_
    rw [hd]
theorem VS.od (Y : VS S) {l : List Nat} (hl : l.Perm (cO S)) : VS (setOd S l) := ⟨Y.1, Y.2.1, Y.2.2.1, Y.2.2.2.1, Y.2.2.2.2.1, hl.length_eq.trans Y.2.2.2.2.2.1, hl.nodup_iff.mpr Y.2.2.2.2.2.2.1, fun q hq => Y.2.2.2.2.2.2.2 q (hl.mem_iff.mp hq)⟩
theorem p_toPlace (V : HV h a S) (Y : VS S) {p t : Nat} (hp : p < cP S) (ht : t < cP S) : ∃ h', f_X3_toPlace a (nI p) (nI t) h = some h' ∧ HV h' a (setOd S (movC (cO S) p t)) ∧ Fr h h' a 5 := by
  have hP := Y.p6
  have hO := Y.2.2.2.2.2.1
  obtain ⟨st, am, lk, od, A, r⟩ := V.hr
  obtain ⟨k, hk, hk2⟩ := ord_idx Y hp
  have hr : RWl od 0 (cO S) := fun j x hj => by rw [Nat.zero_add]; exact r.2.2.2 j x hj
  have hm := cl_mov (t := t) hr (idx_some hk) (by omega)
  unfold f_X3_toPlace f_X3_toPlace_e movC
  rw [A.chk, p_placeOf V Y (by omega), bs, hk]
  have fin : ∀ (od' : Nat → Int32) (h' : HP), RWl od' 0 (insC t p ((cO S).eraseIdx k)) → HR h' a (nI (cN S)) (nI (cP S)) st am lk od' → HV h' a (setOd S (insC t p ((cO S).eraseIdx k))) := fun od' h' hq A' => HR.hv (S := setOd S _) A' ⟨r.1, r.2.1, r.2.2.1, fun j x hj => by have := hq j x hj; rwa [Nat.zero_add] at this⟩
  by_cases hkt : k ≤ t
  · obtain ⟨h', e, A', F⟩ := l_toPlaceA (a := a) (t := t) (x := p) (k := k) (by omega) hkt (t - k) k (by omega) FU (fu_lt (by omega)) h od A
    rw [if_pos hkt] at hm
    exact ⟨h', e, fin _ _ hm A', F⟩
  · obtain ⟨h', e, A', F⟩ := l_toPlaceB (a := a) (t := t) (x := p) (k - t) k (by omega) (by omega) FU (fu_lt (by omega)) h od A
    rw [if_neg hkt] at hm
    refine ⟨h', ?_, fin _ _ hm A', F⟩
    show f_X3_toPlace_b9 _ _ _ _ _ _ _ = _
    unfold f_X3_toPlace_b9
    rw [if_pos (show nI t ≤ enc (some k) from nI_le (by omega) (by omega))]
    exact e
/-! the start of a reading -/
def cs0 : CS := (0, 0, fun _ => none, fun _ => [], [])
theorem p_clear (V : HX h a) : ∃ h', f_X3_clear a h = some h' ∧ HV h' a cs0 ∧ Fr h h' a 5 := by
  obtain ⟨rm, ps, st, am, lk, od, A⟩ := V
  obtain ⟨h1, e1, A1, F1⟩ := A.p0 0
  obtain ⟨h2, e2, A2, F2⟩ := A1.p1 0
  refine ⟨h2, ?_, HR.hv (S := cs0) A2 ⟨fun p hp => absurd hp (Nat.not_lt_zero _), fun p hp => absurd hp (Nat.not_lt_zero _), fun p hp => absurd hp (Nat.not_lt_zero _), fun k q hk => by have hk : ([] : List Nat)[k]? = some q := hk; simp at hk⟩, F1.trans F2⟩
  unfold f_X3_clear f_X3_clear_e
  rw [A.chk, e1, bs, e2, bs]
def addP (S : CS) : CS := (cN S, cP S + 1, fun q => if q = cP S then none else cS S q, fun q => if q = cP S then [] else cL S q, cO S ++ [cP S])
theorem VS.add (Y : VS S) (hP : cP S < 6) : VS (addP S) := by
  refine ⟨Y.1, hP, fun p hp r hr => ?_, fun p q hp hq hpq hn => ?_, fun p hp => ?_, ?_, ?_, fun q hq => ?_⟩
  · have hp : p < cP S + 1 := hp
    by_cases hpe : p = cP S
    · have : cS (addP S) p = none := if_pos hpe
      rw [this] at hr; cases hr
    · have : cS (addP S) p = cS S p := if_neg hpe
      rw [this] at hr
      exact Y.2.2.1 p (by omega) r hr
  · have hp : p < cP S + 1 := hp
    have hq : q < cP S + 1 := hq
    by_cases hpe : p = cP S
    · exact absurd (show cS (addP S) p = none from if_pos hpe) hn
    · have h1 : cS (addP S) p = cS S p := if_neg hpe
      by_cases hqe : q = cP S
      · have h2 : cS (addP S) q = none := if_pos hqe
        exact absurd (hpq.trans h2) hn
      · have h2 : cS (addP S) q = cS S q := if_neg hqe
        rw [h1, h2] at hpq
        rw [h1] at hn
        exact Y.2.2.2.1 p q (by omega) (by omega) hpq hn
  · have hp : p < cP S + 1 := hp
    by_cases hpe : p = cP S
    · have : cL (addP S) p = [] := if_pos hpe
      rw [this]
      exact ⟨List.nodup_nil, fun r hr => by cases hr⟩
    · have : cL (addP S) p = cL S p := if_neg hpe
      rw [this]
      exact Y.2.2.2.2.1 p (by omega)
  · show (cO S ++ [cP S]).length = cP S + 1
    rw [List.length_append, Y.2.2.2.2.2.1]; rfl
  · show (cO S ++ [cP S]).Nodup
    refine List.nodup_append.mpr ⟨Y.2.2.2.2.2.2.1, by simp, fun y hy z hz => ?_⟩
    simp at hz
    have := Y.2.2.2.2.2.2.2 y hy
    omega
  · have hq : q ∈ cO S ++ [cP S] := hq
    rcases List.mem_append.mp hq with h | h
    · exact Nat.lt_succ_of_lt (Y.2.2.2.2.2.2.2 q h)
    · simp at h; rw [h]; exact Nat.lt_succ_self _
theorem p_addPerson (V : HV h a S) (Y : VS S) (hP : cP S < 6) : ∃ h', f_X3_addPerson a h = some (nI (cP S), h') ∧ HV h' a (addP S) ∧ Fr h h' a 5 := by
  obtain ⟨st, am, lk, od, A, r⟩ := V.hr
  obtain ⟨h1, e1, A1, F1⟩ := A.pst hP (-1)
  obtain ⟨h2, e2, A2, F2⟩ := A1.pam hP 0
  obtain ⟨h3, e3, A3, F3⟩ := A2.pod hP (nI (cP S))
  obtain ⟨h4, e4, A4, F4⟩ := A3.p1 (nI (cP S + 1))
  refine ⟨h4, ?_, HR.hv (S := addP S) A4 ⟨fun p hp => ?_, fun p hp => ?_, fun p hp k x hk => ?_, fun k q hk => ?_⟩, ((F1.trans F2).trans F3).trans F4⟩
  · unfold f_X3_addPerson f_X3_addPerson_e
    rw [A.chk, A.g1, bs, A.r2, bs, e1, bs, A1.r3, bs, e2, bs, A2.r5, bs, e3, bs, nI_1, if_neg (show ¬ (6 : Int32) < nI (cP S + 1) from nI_nlt (a := 6) (by omega) (by omega)), e4, bs]
  · have hp : p < cP S + 1 := hp
    by_cases hpe : p = cP S
    · rw [hpe, us]; show -1 = enc (if cP S = cP S then none else _); rw [if_pos rfl]; rfl
    · rw [un hpe, r.1 p (by omega)]; show _ = enc (if p = cP S then none else cS S p); rw [if_neg hpe]
  · have hp : p < cP S + 1 := hp
    by_cases hpe : p = cP S
    · rw [hpe, us]; show (0 : Int32) = nI (if cP S = cP S then [] else cL S (cP S)).length; rw [if_pos rfl]; rfl
    · rw [un hpe, r.2.1 p (by omega)]; show _ = nI (if p = cP S then [] else cL S p).length; rw [if_neg hpe]
  · have hp : p < cP S + 1 := hp
    by_cases hpe : p = cP S
    · have : cL (addP S) p = [] := if_pos hpe
      rw [this] at hk; simp at hk
    · have : cL (addP S) p = cL S p := if_neg hpe
      rw [this] at hk
      exact r.2.2.1 p (by omega) k x hk
  · have hk : (cO S ++ [cP S])[k]? = some q := hk
    have hO := Y.2.2.2.2.2.1
    by_cases hk2 : k < cP S
    · rw [List.getElem?_append_left (by omega)] at hk
      rw [un (by omega)]
      exact r.2.2.2 k q hk
    · rw [List.getElem?_append_right (by omega)] at hk
      have hz := (List.getElem?_eq_some_iff.mp hk).1
      simp at hz
      have hkk : k = cP S := by omega
      rw [hO, hkk, Nat.sub_self] at hk
      cases hk
      rw [hkk, us]
end HM2
