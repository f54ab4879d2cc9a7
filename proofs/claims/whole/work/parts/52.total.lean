/-! the whole state on each side: S now, ps the past, k the seed -/
def CX9 (h0 h : HP) (S : CS) (ps : List CS) (k : Nat) : Prop := C0 h ∧ HV h 3 S ∧ HX h 8 ∧ DX h 13 ∧ BX h ∧ PC h ps ∧ OB h 128 2 [.inl (nI k)] ∧ ∀ j, (j = 1 ∨ j = 2 ∨ (123 ≤ j ∧ j ≠ 128)) → h[j]? = h0[j]?
def MF (F : Nat → Int32) (A : AT) (S : CS) (ps : List CS) (k : Nat) : Prop := F 1 = nI (cN S) ∧ F 2 = nI (cP S) ∧ RV (A 0) 0 S ∧ PMd F A ps ∧ A 0 66 = nI k
def ME0 (F0 F : Nat → Int32) (A0 A : AT) : Prop := (F 4 = F0 4 ∧ F 6 = F0 6 ∧ F 7 = F0 7 ∧ F 15 = F0 15 ∧ F 18 = F0 18) ∧ (∀ j, 1407 ≤ j → j < 1541 → A 0 j = A0 0 j) ∧ A 1 = A0 1 ∧ A 6 = A0 6 ∧ A 7 = A0 7 ∧ A 8 = A0 8 ∧ A 9 = A0 9
def MC (h0 : HP) (F0 : Nat → Int32) (A0 : AT) (h : HP) (F : Nat → Int32) (A : AT) (S : CS) (ps : List CS) (k : Nat) : Prop := MM h F A ∧ MF F A S ps k ∧ ME0 F0 F A0 A ∧ ∀ j, j < 142 → h[j]? = h0[j]?
def TV (S : CS) (ps : List CS) (k : Nat) : Prop := VS S ∧ PV S ps ∧ k < 2 ^ 31
section TOT
variable {h0 h h' : HP} {F0 F : Nat → Int32} {A0 A : AT} {S S0 S' : CS} {ps : List CS} {k : Nat}
theorem INV.opn (I : INV h F A S) : ∃ ps k, CX9 h h S ps k ∧ MF F A S ps k ∧ TV S ps k := by
  obtain ⟨i1, i2, i3, i4, i5, i6, i7, i8, i9, i10, i11, i12, i13, i14⟩ := I
  obtain ⟨ps, p1, p2, p3⟩ := i11.split
  obtain ⟨s, d1, d2, d3⟩ := i13
  obtain ⟨k, hk, rfl⟩ := nI_of d3
  exact ⟨ps, k, ⟨i1, i3, i7, i8, i9, p1, d1, fun _ _ => rfl⟩, ⟨i4, i5, i6, p2, d2⟩, i2, p3, hk⟩
theorem CX9.mm (C : CX9 h0 h S ps k) (M : MM h0 F A) : MM h F A := by
  have c := C.2.2.2.2.2.2.2
  exact ⟨by rw [c 142 (by omega)]; exact M.1, fun j hj => (M.2 j hj).eq (c _ (by omega))⟩
theorem MC.start (M : MM h F A) (f : MF F A S ps k) : MC h F A h F A S ps k := ⟨M, f, ⟨⟨rfl, rfl, rfl, rfl, rfl⟩, fun _ _ _ => rfl, rfl, rfl, rfl, rfl, rfl⟩, fun _ _ => rfl⟩
theorem close_all {h1 h2 : HP} (I : INV h F0 A0 S0) (C : CX9 h h1 S ps k) (G : MC h1 F0 A0 h2 F A S ps k) (T : TV S ps k) (n : cN S = cN S0) (p : cP S = cP S0) : Inv h2 := by
  obtain ⟨i1, i2, i3, i4, i5, i6, i7, i8, i9, i10, i11, i12, i13, i14⟩ := I
  obtain ⟨c1, c2, c3, c4, c5, c6, c7, c8⟩ := C
  obtain ⟨M, ⟨f1, f2, f3, f4, f5⟩, ⟨⟨e4, e6, e7, e15, e18⟩, a0, a1, a6, a7, a8, a9⟩, hh⟩ := G
  obtain ⟨Y, P, hk⟩ := T
  have he : ∀ j, j < 142 → (j = 1 ∨ j = 2 ∨ (123 ≤ j ∧ j ≠ 128)) → h2[j]? = h[j]? := fun j h1 h2 => (hh j h1).trans (c8 j h2)
  refine ⟨F, A, S, M, c1.eq (hh _ (by omega)), Y, c2.eq (fun j _ _ => hh j (by omega)), f1, f2, f3, c3.eq (fun j _ _ => hh j (by omega)), c4.eq (fun j _ _ => hh j (by omega)), c5.mv (hh _ (by omega)) (hh _ (by omega)), i10.mv (he _ (by omega) (by omega)) (he _ (by omega) (by omega)) e6 e7 a1, (PAi.join c6 f4 P).mv (fun j _ _ => hh j (by omega)) rfl (fun _ _ _ => rfl) rfl rfl, i12.mv (fun j h1 h2 => he j (by omega) (by omega)) e15 e18 a6 a7 a8 a9 p, ⟨nI k, c7.eq (hh _ (by omega)), f5, nI_pos hk⟩, i14.mv (fun j h1 h2 => he j (by omega) (by omega)) e4 a0 n p⟩
theorem PV.push (P : PV S ps) (Y : VS S) : PV S (pushL ps S) := by
  have hle := P.1
  unfold pushL
  have key : ∀ qs : List CS, qs.length < 20 → (∀ (i : Nat) q, qs[i]? = some q → VS q ∧ cN q = cN S ∧ cP q = cP S) → PV S (qs ++ [S]) := by
    intro qs hl hq
    refine ⟨by simp; omega, fun i q hi => ?_⟩
    by_cases h1 : i < qs.length
    · rw [List.getElem?_append_left h1] at hi
      exact hq i q hi
    · rw [List.getElem?_append_right (by omega)] at hi
      have hz := (List.getElem?_eq_some_iff.mp hi).1
      simp at hz
      rw [show i - qs.length = 0 by omega] at hi
      cases hi
      exact ⟨Y, rfl, rfl⟩
  by_cases hl : ps.length = 20
  · rw [if_pos hl]
    exact key _ (by rw [List.length_drop]; omega) (fun i q hi => by
      rw [List.getElem?_drop] at hi
      exact P.2 _ q hi)
  · rw [if_neg hl]
    exact key _ (by omega) P.2
theorem PV.to (P : PV S ps) (n : cN S' = cN S) (p : cP S' = cP S) : PV S' ps := ⟨P.1, fun i q hq => ⟨(P.2 i q hq).1, (P.2 i q hq).2.1.trans n.symm, (P.2 i q hq).2.2.trans p.symm⟩⟩
/-! the class's deeds -/
theorem CX9.psh (C : CX9 h0 h S ps k) (Y : VS S) : ∃ h', f_X6_push 21 3 h = some h' ∧ CX9 h0 h' S (pushL ps S) k := by
  obtain ⟨c1, c2, c3, c4, c5, c6, c7, c8⟩ := C
  obtain ⟨h', e, P, X⟩ := p_push c6 c2 Y
  exact ⟨h', e, c1.eq (X _ (by omega)), c2.fr X (by omega), c3.fr X (by omega), c4.eq (fun j _ _ => X j (by omega)), c5.mv (X _ (by omega)) (X _ (by omega)), P, c7.eq (X _ (by omega)), fun j hj => (X j (by omega)).trans (c8 j hj)⟩
theorem CX9.hou (C : CX9 h0 h S ps k) (X : Fr h h' 3 5) (V : HV h' 3 S') : CX9 h0 h' S' ps k := by
  obtain ⟨c1, c2, c3, c4, c5, c6, c7, c8⟩ := C
  exact ⟨c1.eq (X _ (by omega)), V, c3.fr X (by omega), c4.eq (fun j _ _ => X j (by omega)), c5.mv (X _ (by omega)) (X _ (by omega)), c6.fr X (by omega), c7.eq (X _ (by omega)), fun j hj => (X j (by omega)).trans (c8 j hj)⟩
theorem CX9.dlt (C : CX9 h0 h S ps k) (Y : VS S) : ∃ h', f_X8_dealt 0 h = some (some 13, h') ∧ DVo h' S ∧ CX9 h0 h' S ps k := by
  obtain ⟨c1, c2, c3, c4, c5, c6, c7, c8⟩ := C
  obtain ⟨h', e, D, X⟩ := p_dealA Y (a := 3) (by omega) c2 c4
  have c' : C0 h' := c1.eq (X 0 (by omega))
  refine ⟨h', ?_, D, c', c2.fr X (by omega), c3.fr X (by omega), D.dx, c5.mv (X _ (by omega)) (X _ (by omega)), c6.fr X (by omega), c7.eq (X _ (by omega)), fun j hj => (X j (by omega)).trans (c8 j hj)⟩
  unfold f_X8_dealt f_X8_dealt_e
  rw [c1.chk, c1.r 3 rfl, bs, c1.r 1 rfl, bs, e, bs, c'.r 3 rfl, bs]
theorem CX9.mov (C : CX9 h0 h S ps k) (Y : VS S) : ∃ h', f_X8_moveAll 0 h = some (nI (fld (mvF S) (cP S) 0 0), h') ∧ CX9 h0 h' (movedC S) ps k := by
  obtain ⟨c1, c2, c3, c4, c5, c6, c7, c8⟩ := C
  obtain ⟨h', e, V, D, X⟩ := p_moveC Y c1 c2 c4
  refine ⟨h', e, c1.eq (X _ (by omega)), V, c3.eq (fun j _ _ => X j (by omega)), D, c5.mv (X _ (by omega)) (X _ (by omega)), ?_, c7.eq (X _ (by omega)), fun j hj => (X j (by omega)).trans (c8 j hj)⟩
  have X' : Fr h h' 0 19 := fun j hj => X j (by omega)
  exact c6.fr X' (by omega)
theorem step_ex : ∃ f : Nat → Nat, ∀ k, f k = (k * 1103515245 + 12345) % 2147483648 := ⟨fun k => (k * 1103515245 + 12345) % 2147483648, fun _ => rfl⟩
/-- the next seed (chosen, so that nobody tries to reckon it out) -/
noncomputable def stepS : Nat → Nat := Classical.choose step_ex
theorem stepS_eq (k : Nat) : stepS k = (k * 1103515245 + 12345) % 2147483648 := Classical.choose_spec step_ex k
theorem stepS_lt (k : Nat) : stepS k < 2 ^ 31 := by rw [stepS_eq]; exact Nat.mod_lt _ (by decide)
theorem step_eq {k : Nat} (hk : k < 2 ^ 31) : Int64.toInt32 ((((Int32.toInt64 (nI k)) * 1103515245) + 12345) - (((Int32.toInt64 (nI k)) * 1103515245) + 12345) / 2147483648 * 2147483648) = nI (stepS k) := by
  have e1 : ((Int32.toInt64 (nI k)) * 1103515245) + 12345 = lN (k * 1103515245 + 12345) := by
    rw [nI_l hk, show (1103515245 : Int64) = lN 1103515245 from rfl, lN_mul, show (12345 : Int64) = lN 12345 from rfl, lN_add]
  rw [e1, show (2147483648 : Int64) = lN 2147483648 from rfl, pk_lRem (by omega) (by decide) (by decide), lN_i, stepS_eq]
noncomputable def dr (k n : Nat) : Nat := stepS k / 65536 % n
theorem dr_eq {k n : Nat} (hn : 0 < n) (hn2 : n < 2 ^ 31) : nI (stepS k) / 65536 - nI (stepS k) / 65536 / nI n * nI n = nI (dr k n) := by
  have h1 := stepS_lt k
  have h2 : stepS k / 65536 < 2 ^ 31 := Nat.lt_of_le_of_lt (Nat.div_le_self _ _) h1
  rw [show nI (stepS k) / 65536 = nI (stepS k / 65536) from pk_div (d := 65536) h1 (by decide) (by decide), pk_rem h2 hn hn2]
  rfl
theorem dr_lt {k n : Nat} (hn : 0 < n) : dr k n < n := Nat.mod_lt _ hn
theorem CX9.drw (C : CX9 h0 h S ps k) (hk : k < 2 ^ 31) {n : Nat} (hn : 0 < n) (hn2 : n < 2 ^ 31) : ∃ h', f_X2_draw 128 (nI n) h = some (nI (dr k n), h') ∧ CX9 h0 h' S ps (stepS k) := by
  obtain ⟨c1, c2, c3, c4, c5, c6, c7, c8⟩ := C
  obtain ⟨h', e, o, X⟩ := c7.w 0 (nI (stepS k)) (gs := [.inl (nI (stepS k))]) rfl (Nat.le_of_ble_eq_true rfl)
  refine ⟨h', ?_, c1.eq (X _ (by omega)), c2.fr X (by omega), c3.fr X (by omega), c4.eq (fun j _ _ => X j (by omega)), c5.mv (X _ (by omega)) (X _ (by omega)), c6.fr X (by omega), o, fun j hj => (X j (by omega)).trans (c8 j hj)⟩
  unfold f_X2_draw f_X2_draw_e f_X2_draw_b39
  rw [c7.chk, c7.g 0 rfl, bs, step_eq hk, e, bs, if_neg (nI_nle hn hn2), o.g 0 rfl, bs, if_neg (nI_ne0 hn hn2), dr_eq hn hn2]
/-! the reference's deeds -/
theorem MC.rem (G : MC h0 F0 A0 h F A S ps k) (Y : VS S) (P : PV S ps) : ∃ h' F' A', f_X9_remember 142 h = some h' ∧ MC h0 F0 A0 h' F' A' S (pushL ps S) k ∧ (∀ j, j ≠ 0 → A' j = A j) := by
  obtain ⟨M, ⟨f1, f2, f3, f4, f5⟩, ⟨⟨e4, e6, e7, e15, e18⟩, a0, a1, a6, a7, a8, a9⟩, hh⟩ := G
  obtain ⟨h', g, e, M', X, g1, g2⟩ := p_remember M f4 P f3 Y
  refine ⟨h', _, _, e, ⟨M', ⟨f1, f2, ?_, ⟨us, ?_⟩, ?_⟩, ⟨⟨e4, e6, e7, e15, e18⟩, ?_, ?_, ?_, ?_, ?_, ?_⟩, fun j hj => (X j (by omega)).trans (hh j hj)⟩, fun j hj => setA_n _ _ hj⟩
  · rw [setA_s]; exact f3.eq Y (fun j h1 h2 => g2 j (by omega))
  · rw [setA_s]; exact g1
  · rw [setA_s, g2 _ (by omega)]; exact f5
  · intro j h1 h2; rw [setA_s, g2 _ (by omega)]; exact a0 j h1 h2
  · rw [setA_n _ _ (by omega)]; exact a1
  · rw [setA_n _ _ (by omega)]; exact a6
  · rw [setA_n _ _ (by omega)]; exact a7
  · rw [setA_n _ _ (by omega)]; exact a8
  · rw [setA_n _ _ (by omega)]; exact a9
/-- the row of now has changed -/
theorem MC.row (G : MC h0 F0 A0 h F A S ps k) {g : Nat → Int32} (P : PV S ps) (M' : MM h' F (setA A 0 g)) (X : Fr h h' 142 12) (R : RV g 0 S') (n : cN S' = cN S) (p : cP S' = cP S) (hg : ∀ j, 66 ≤ j → g j = A 0 j) : MC h0 F0 A0 h' F (setA A 0 g) S' ps k := by
  obtain ⟨M, ⟨f1, f2, f3, f4, f5⟩, ⟨⟨e4, e6, e7, e15, e18⟩, a0, a1, a6, a7, a8, a9⟩, hh⟩ := G
  refine ⟨M', ⟨f1.trans (by rw [n]), f2.trans (by rw [p]), ?_, ⟨f4.1, fun i q hq => ?_⟩, ?_⟩, ⟨⟨e4, e6, e7, e15, e18⟩, ?_, ?_, ?_, ?_, ?_, ?_⟩, fun j hj => (X j (by omega)).trans (hh j hj)⟩
  · rw [setA_s]; exact R
  · rw [setA_s]; exact (f4.2 i q hq).eq (P.2 i q hq).1 (fun j h1 h2 => hg j (by omega))
  · rw [setA_s, hg _ (by omega)]; exact f5
  · intro j h1 h2; rw [setA_s, hg _ (by omega)]; exact a0 j h1 h2
  · rw [setA_n _ _ (by omega)]; exact a1
  · rw [setA_n _ _ (by omega)]; exact a6
  · rw [setA_n _ _ (by omega)]; exact a7
  · rw [setA_n _ _ (by omega)]; exact a8
  · rw [setA_n _ _ (by omega)]; exact a9
theorem MC.stk (G : MC h0 F0 A0 h F A S ps k) (Y : VS S) (P : PV S ps) {p r : Nat} (hp : p < cP S) (hr : r < 2 ^ 31) : ∃ h' A', f_X9_strikeOut 142 0 (nI p) (nI r) h = some h' ∧ MC h0 F0 A0 h' F A' (setLk S p (dropC r (cL S p))) ps k := by
  obtain ⟨h', g, e, M', X, R, hg⟩ := p_strikeOut (x := 0) G.1 G.2.1.2.2.1 Y (by omega) hp hr
  exact ⟨h', _, e, G.row P M' X R rfl rfl (fun j hj => hg j (by omega))⟩
theorem MC.put (G : MC h0 F0 A0 h F A S ps k) (Y : VS S) (P : PV S ps) {p r c : Nat} (hp : p < cP S) (hr : r < cN S) (hc : c < 8) : ∃ h' A', f_X9_putIn 142 0 (nI p) (nI r) (nI c) h = some h' ∧ MC h0 F0 A0 h' F A' (setLk S p (likeC (cL S p) r c)) ps k := by
  obtain ⟨h', g, e, M', X, R, hg⟩ := p_putIn (x := 0) G.1 G.2.1.2.2.1 Y (by omega) hp hr hc
  exact ⟨h', _, e, G.row P M' X R rfl rfl (fun j hj => hg j (by omega))⟩
theorem MC.lot (G : MC h0 F0 A0 h F A S ps k) (Y : VS S) (P : PV S ps) {p t : Nat} (hp : p < cP S) (ht : t < cP S) : ∃ h' A', f_X9_setLot 142 (nI p) (nI t) h = some h' ∧ MC h0 F0 A0 h' F A' (setOd S (movC (cO S) p t)) ps k := by
  obtain ⟨h', g, e, M', X, R, hg⟩ := p_setLot G.1 G.2.1.2.2.1 Y hp ht
  exact ⟨h', _, e, G.row P M' X R rfl rfl (fun j hj => hg j (by omega))⟩
theorem FS.me {F1 : Nat → Int32} (E : ME0 F0 F A0 A) (f : FS F F1) {A1 : AT} (a0 : ∀ j, 1407 ≤ j → j < 1541 → A1 0 j = A 0 j) (a1 : A1 1 = A 1) (a6 : A1 6 = A 6) (a7 : A1 7 = A 7) (a8 : A1 8 = A 8) (a9 : A1 9 = A 9) : ME0 F0 F1 A0 A1 := by
  obtain ⟨⟨e4, e6, e7, e15, e18⟩, b0, b1, b6, b7, b8, b9⟩ := E
  obtain ⟨g1, g2, g3, g4, g6, g7, g15, g18⟩ := f
  exact ⟨⟨g4.trans e4, g6.trans e6, g7.trans e7, g15.trans e15, g18.trans e18⟩, fun j h1 h2 => (a0 j h1 h2).trans (b0 j h1 h2), a1.trans b1, a6.trans b6, a7.trans b7, a8.trans b8, a9.trans b9⟩
theorem MC.mov (G : MC h0 F0 A0 h F A S ps k) (Y : VS S) (P : PV S ps) : ∃ h' F' A', f_X9_moveAll 142 h = some (nI (fld (mvF S) (cP S) 0 0), h') ∧ MC h0 F0 A0 h' F' A' (movedC S) ps k := by
  obtain ⟨M, ⟨f1, f2, f3, f4, f5⟩, E, hh⟩ := G
  obtain ⟨h', F', A', e, M', X, fs, R, b0, b1, b6, b7, b8, b9⟩ := p_moveM M Y f3 f1 f2
  exact ⟨h', F', A', e, M', ⟨fs.1.trans f1, fs.2.1.trans f2, R, ⟨fs.2.2.1.trans f4.1, fun i q hq => (f4.2 i q hq).eq (P.2 i q hq).1 (fun j h1 h2 => b0 j (by omega))⟩, (b0 _ (by omega)).trans f5⟩, fs.me E (fun j h1 h2 => b0 j (by omega)) b1 b6 b7 b8 b9, fun j hj => (X j (by omega)).trans (hh j hj)⟩
theorem MC.gav (G : MC h0 F0 A0 h F A S ps k) (Y : VS S) (P : PV S ps) : ∃ h' F' A', f_X9_giveOut 142 0 h = some h' ∧ MC h0 F0 A0 h' F' A' S ps k ∧ (∀ p, p < cP S → A' 2 p = gC S p ∧ A' 3 p = rC S p ∧ A' 4 p = zC S p) ∧ F' 11 = nI (outC S).1 := by
  obtain ⟨M, ⟨f1, f2, f3, f4, f5⟩, E, hh⟩ := G
  obtain ⟨h', e, ⟨F', A', M', fs, as, a0, q11, -, hg⟩, X⟩ := p_gaveX (x := 0) M Y (by omega) f3 f1 f2
  exact ⟨h', F', A', e, ⟨M', ⟨fs.1.trans f1, fs.2.1.trans f2, f3.eq Y (fun j _ _ => a0 j), ⟨fs.2.2.1.trans f4.1, fun i q hq => (f4.2 i q hq).eq (P.2 i q hq).1 (fun j h1 h2 => a0 j)⟩, (a0 _).trans f5⟩, fs.me E (fun j h1 h2 => a0 j) as.2.1 as.2.2.1 as.2.2.2.1 as.2.2.2.2.1 as.2.2.2.2.2, fun j hj => (X j (by omega)).trans (hh j hj)⟩, hg, q11⟩
theorem MC.drw (G : MC h0 F0 A0 h F A S ps k) (Y : VS S) (P : PV S ps) (hk : k < 2 ^ 31) {n : Nat} (hn : 0 < n) (hn2 : n < 2 ^ 31) : ∃ h' A', f_X9_draw 142 (nI n) h = some (nI (dr k n), h') ∧ MC h0 F0 A0 h' F A' S ps (stepS k) := by
  obtain ⟨M, ⟨f1, f2, f3, f4, f5⟩, ⟨⟨e4, e6, e7, e15, e18⟩, a0, a1, a6, a7, a8, a9⟩, hh⟩ := G
  obtain ⟨h', e, M', X⟩ := M.ast 0 (by omega) (show 66 < 1608 by omega) (nI (stepS k))
  refine ⟨h', _, ?_, M', ⟨f1, f2, ?_, ⟨f4.1, fun i q hq => ?_⟩, ?_⟩, ⟨⟨e4, e6, e7, e15, e18⟩, ?_, ?_, ?_, ?_, ?_, ?_⟩, fun j hj => (X j (by omega)).trans (hh j hj)⟩
  · unfold f_X9_draw f_X9_draw_e
    rw [M.chk, M.r 0 rfl, bs]
    show (ald h (143 + 0) (nI 66)).bind _ = _
    rw [M.ald 0 (by omega) (show 66 < 1608 by omega), bs, bs, bs, f5, step_eq hk]
    show (ast h (143 + 0) (nI 66) _).bind _ = _
    rw [e, bs, M'.r 0 rfl, bs]
    show (ald h' (143 + 0) (nI 66)).bind _ = _
    rw [M'.ald 0 (by omega) (show 66 < 1608 by omega), bs, if_neg (nI_ne0 hn hn2), setA_s, us, dr_eq hn hn2]
  · rw [setA_s]; exact f3.eq Y (fun j h1 h2 => un (by omega))
  · rw [setA_s]; exact (f4.2 i q hq).eq (P.2 i q hq).1 (fun j h1 h2 => un (by omega))
  · rw [setA_s, us]
  · intro j h1 h2; rw [setA_s, un (by omega)]; exact a0 j h1 h2
  · rw [setA_n _ _ (by omega)]; exact a1
  · rw [setA_n _ _ (by omega)]; exact a6
  · rw [setA_n _ _ (by omega)]; exact a7
  · rw [setA_n _ _ (by omega)]; exact a8
  · rw [setA_n _ _ (by omega)]; exact a9
theorem MC.many (G : MC h0 F0 A0 h F A S ps k) (Y : VS S) {p : Nat} (hp : p < cP S) : (gR h 142 9 0).bind (fun r => (ald h r (48 + nI p)).bind fun v => some (v, h)) = some (nI (cL S p).length, h) := by
  have hP := Y.p6
  rw [G.1.r 0 rfl, bs]
  show (ald h (143 + 0) (nI 48 + nI p)).bind _ = _
  have := G.2.1.2.2.1.2.1 p hp
  rw [Nat.zero_add] at this
  rw [nI_add, G.1.ald 0 (by omega) (show 48 + p < 1608 by omega), bs, this]
end TOT
/-! the calls -/
theorem s_like : SK3 f_X8_like f_X9_like Inv := by
  intro h x y z hI
  obtain ⟨F, A, S, M, I⟩ := id hI
  have Y := I.2.1
  have hP := Y.p6
  have hN := Y.n8
  obtain ⟨t, e1, e2, ht⟩ := both_person M I x
  obtain ⟨u, d1, d2, hu⟩ := both_room M I y
  have e8 : f_X8_like 0 x y z h = if bI t = 0 then some (-1000000001, h) else if bI u = 0 then some (-1000000001, h) else if z < 0 then some (-1000000002, h) else if z < 8 then (f_X6_push 21 3 h).bind fun h7 => (gR h7 0 8 1).bind fun r8 => (f_X3_putLiking r8 x y z h7).bind fun h9 => (gR h9 0 8 1).bind fun r10 => (f_X3_amount r10 x h9).bind fun q11 => some (q11.1, q11.2) else some (-1000000002, h) := by
    unfold f_X8_like f_X8_like_e f_X8_like_b22 f_X8_like_b35
    rw [I.1.chk, I.1.r 1 rfl, bs, e1, bs]
    show (if bI t = 0 then some (-1000000001, h) else (gR h 0 8 1).bind fun r3 => (f_X3_hasRoom r3 y h).bind _) = _
    rw [I.1.r 1 rfl, bs, d1, bs]
    show (if bI t = 0 then some (-1000000001, h) else if bI u = 0 then some (-1000000001, h) else if z < 0 then some (-1000000002, h) else if z < 8 then (gR h 0 8 5).bind fun r5 => (gR h 0 8 1).bind _ else _) = _
    rw [I.1.r 5 rfl, bs, I.1.r 1 rfl, bs]
  have e9 : ∀ h1 F1 A1, MM h1 F1 A1 → F1 1 = nI (cN S) → F1 2 = nI (cP S) → f_X9_like 142 x y z h1 = if bI t = 0 then some (-1000000001, h1) else if bI u = 0 then some (-1000000001, h1) else if bI (decide (¬ z < 0 ∧ ¬ (7 : Int32) < z)) = 0 then some (-1000000002, h1) else (f_X9_remember 142 h1).bind fun h4 => (f_X9_putIn 142 0 x y z h4).bind fun h5 => (gR h5 142 9 0).bind fun r6 => (ald h5 r6 (48 + x)).bind fun v7 => some (v7, h5) := by
    intro h1 F1 A1 M1 f1 f2
    unfold f_X9_like f_X9_like_e f_X9_like_b16
    rw [M1.chk, e2 h1 F1 A1 M1 f2, bs]
    show (if bI t = 0 then some (-1000000001, h1) else (f_X9_isRoom 142 y h1).bind _) = _
    rw [d2 h1 F1 A1 M1 f1, bs]
    show (if bI t = 0 then some (-1000000001, h1) else if bI u = 0 then some (-1000000001, h1) else (f_X9_in z 0 7 h1).bind _) = _
    rw [p_in, bs]
  cases t with
  | false => exact ⟨-1000000001, h, h, by rw [e8]; rfl, by rw [e9 h F A M I.2.2.2.1 I.2.2.2.2.1]; rfl, hI⟩
  | true =>
    cases u with
    | false => exact ⟨-1000000001, h, h, by rw [e8]; rfl, by rw [e9 h F A M I.2.2.2.1 I.2.2.2.2.1]; rfl, hI⟩
    | true =>
      obtain ⟨p, hp, rfl⟩ := ht.mp rfl
      obtain ⟨r, hr, rfl⟩ := hu.mp rfl
      rw [if_neg b1n, if_neg b1n] at e8
      by_cases hz : ¬ z < 0 ∧ ¬ (7 : Int32) < z
      · obtain ⟨c, hc, rfl⟩ := nI_of2 (M := 7) (n := 7) (by decide) hz.1 (Int32.not_lt.mp hz.2)
        rw [if_neg hz.1, if_pos (show nI c < (8 : Int32) from nI_lt (b := 8) (by omega) (by omega))] at e8
        obtain ⟨ps, k, C, f, T⟩ := I.opn
        obtain ⟨h1, p1, C1⟩ := C.psh Y
        obtain ⟨h2, p2, V2, X2⟩ := p_putLiking C1.2.1 Y hp hr (k := c) (by omega)
        have C2 := C1.hou X2 V2
        have Y2 := Y.likeC hp hr c
        have M2 := C2.mm M
        obtain ⟨h3, F3, A3, p3, G3, -⟩ := (MC.start M2 f).rem Y T.2.1
        obtain ⟨h4, A4, p4, G4⟩ := G3.put Y (T.2.1.push Y) hp hr (c := c) (by omega)
        have pp : f_X3_amount 3 (nI p) h2 = _ := p_amount C2.2.1 Y2 (p := p) hp
        refine ⟨nI (cL (setLk S p (likeC (cL S p) r c)) p).length, h2, h4, ?_, ?_, close_all I C2 G4 ⟨Y2, (T.2.1.push Y).to rfl rfl, T.2.2⟩ rfl rfl⟩
        · rw [e8, p1, bs, C1.1.r 1 rfl, bs, p2, bs, C2.1.r 1 rfl, bs, pp, bs]
        · rw [e9 h2 F A M2 I.2.2.2.1 I.2.2.2.2.1, if_neg b1n, if_neg b1n, if_neg (by rw [decide_eq_true hz]; exact b1n), p3, bs, p4, bs, G4.many Y2 (p := p) hp]
      · refine ⟨-1000000002, h, h, ?_, ?_, hI⟩
        · rw [e8]
          by_cases h0 : z < 0
          · rw [if_pos h0]
          · rw [if_neg h0, if_neg (fun q => hz ⟨h0, fun w => by
              obtain ⟨j, hj, rfl⟩ := nI_of h0
              have w1 := (nI_ltI (a := 7) (by omega) hj).mp w
              have w2 := (nI_ltI (b := 8) hj (by omega)).mp q
              omega⟩)]
        · rw [e9 h F A M I.2.2.2.1 I.2.2.2.2.1, if_neg b1n, if_neg b1n, if_pos (by rw [decide_eq_false hz]; rfl)]
theorem s_strike : SK2 f_X8_strike f_X9_strike Inv := by
  intro h x y hI
  obtain ⟨F, A, S, M, I⟩ := id hI
  have Y := I.2.1
  have hP := Y.p6
  have hN := Y.n8
  obtain ⟨t, e1, e2, ht⟩ := both_person M I x
  obtain ⟨u, d1, d2, hu⟩ := both_room M I y
  have e8 : f_X8_strike 0 x y h = if bI t = 0 then some (-1000000001, h) else if bI u = 0 then some (-1000000001, h) else (f_X3_likingPlace 3 x y h).bind fun q6 => if q6.1 = (-1) then some (-1000000003, q6.2) else (gR q6.2 0 8 5).bind fun r7 => (gR q6.2 0 8 1).bind fun r8 => (f_X6_push r7 r8 q6.2).bind fun h9 => (gR h9 0 8 1).bind fun r10 => (f_X3_dropLiking r10 x y h9).bind fun h11 => (gR h11 0 8 1).bind fun r12 => (f_X3_amount r12 x h11).bind fun q13 => some (q13.1, q13.2) := by
    unfold f_X8_strike f_X8_strike_e f_X8_strike_b22
    rw [I.1.chk, I.1.r 1 rfl, bs, e1, bs]
    show (if bI t = 0 then some (-1000000001, h) else (gR h 0 8 1).bind fun r3 => (f_X3_hasRoom r3 y h).bind _) = _
    rw [I.1.r 1 rfl, bs, d1, bs]
    show (if bI t = 0 then some (-1000000001, h) else if bI u = 0 then some (-1000000001, h) else (gR h 0 8 1).bind _) = _
    rw [I.1.r 1 rfl, bs]
  have e9 : ∀ h1 F1 A1, MM h1 F1 A1 → F1 1 = nI (cN S) → F1 2 = nI (cP S) → f_X9_strike 142 x y h1 = if bI t = 0 then some (-1000000001, h1) else if bI u = 0 then some (-1000000001, h1) else (f_X9_placeOfLike 142 0 x y h1).bind fun q3 => if q3.1 = (-1) then some (-1000000003, q3.2) else (f_X9_remember 142 q3.2).bind fun h4 => (f_X9_strikeOut 142 0 x y h4).bind fun h5 => (gR h5 142 9 0).bind fun r6 => (ald h5 r6 (48 + x)).bind fun v7 => some (v7, h5) := by
    intro h1 F1 A1 M1 f1 f2
    unfold f_X9_strike f_X9_strike_e f_X9_strike_b16
    rw [M1.chk, e2 h1 F1 A1 M1 f2, bs]
    show (if bI t = 0 then some (-1000000001, h1) else (f_X9_isRoom 142 y h1).bind _) = _
    rw [d2 h1 F1 A1 M1 f1, bs]
  cases t with
  | false => exact ⟨-1000000001, h, h, by rw [e8]; rfl, by rw [e9 h F A M I.2.2.2.1 I.2.2.2.2.1]; rfl, hI⟩
  | true =>
    cases u with
    | false => exact ⟨-1000000001, h, h, by rw [e8]; rfl, by rw [e9 h F A M I.2.2.2.1 I.2.2.2.2.1]; rfl, hI⟩
    | true =>
      obtain ⟨p, hp, rfl⟩ := ht.mp rfl
      obtain ⟨r, hr, rfl⟩ := hu.mp rfl
      have lm : ∀ h1 F1 A1, MM h1 F1 A1 → RV (A1 0) 0 S → f_X9_placeOfLike 142 0 (nI p) (nI r) h1 = some (enc (idx r (cL S p)), h1) := fun h1 F1 A1 M1 R1 => p_placeOfLike (x := 0) M1 R1 Y (by omega) hp (by omega)
      rw [if_neg b1n, if_neg b1n, p_likingPlace I.2.2.1 Y hp (by omega), bs] at e8
      cases hi : idx r (cL S p) with
      | none =>
        refine ⟨-1000000003, h, h, ?_, ?_, hI⟩
        · rw [e8, hi]; rfl
        · rw [e9 h F A M I.2.2.2.1 I.2.2.2.2.1, if_neg b1n, if_neg b1n, lm h F A M I.2.2.2.2.2.1, bs, hi]; rfl
      | some c =>
        have hc := (List.getElem?_eq_some_iff.mp (idx_some hi)).1
        have hl := Y.len hp
        rw [hi, if_neg (show ¬ enc (some c) = -1 from nI_neg1 (by omega))] at e8
        obtain ⟨ps, k, C, f, T⟩ := I.opn
        obtain ⟨h1, p1, C1⟩ := C.psh Y
        obtain ⟨h2, p2, V2, X2⟩ := p_dropLiking C1.2.1 Y hp (x := r) (by omega)
        have C2 := C1.hou X2 V2
        have Y2 := Y.drop hp r
        have M2 := C2.mm M
        obtain ⟨h3, F3, A3, p3, G3, -⟩ := (MC.start M2 f).rem Y T.2.1
        obtain ⟨h4, A4, p4, G4⟩ := G3.stk Y (T.2.1.push Y) hp (r := r) (by omega)
        have pp : f_X3_amount 3 (nI p) h2 = _ := p_amount C2.2.1 Y2 (p := p) hp
        refine ⟨nI (cL (setLk S p (dropC r (cL S p))) p).length, h2, h4, ?_, ?_, close_all I C2 G4 ⟨Y2, (T.2.1.push Y).to rfl rfl, T.2.2⟩ rfl rfl⟩
        · rw [e8]
          show (gR h 0 8 5).bind _ = _
          rw [C.1.r 5 rfl, bs]
          show (gR h 0 8 1).bind _ = _
          rw [C.1.r 1 rfl, bs]
          show (f_X6_push 21 3 h).bind _ = _
          rw [p1, bs, C1.1.r 1 rfl, bs, p2, bs, C2.1.r 1 rfl, bs, pp, bs]
        · rw [e9 h2 F A M2 I.2.2.2.1 I.2.2.2.2.1, if_neg b1n, if_neg b1n, lm h2 F A M2 I.2.2.2.2.2.1, bs, hi, if_neg (show ¬ enc (some c) = -1 from nI_neg1 (by omega)), p3, bs, p4, bs, G4.many Y2 (p := p) hp]
