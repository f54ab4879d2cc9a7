/-! WHAT HOLDS BETWEEN THE CALLS -/
def OB (h : HP) (a ci : Nat) (fs : List MV) : Prop := h[a]? = some (.inl (ci, fs))
def QA (h : HP) (a : Nat) (w : Bool) (n : Nat) (f : Nat → Option Nat) : Prop := h[a]? = some (.inr (.inr (w, n, f)))
section OBS
variable {h : HP} {a ci : Nat} {fs : List MV}
theorem OB.chk (O : OB h a ci fs) {α : Type} (x : Option α) : ck h a ci x = x := by unfold OB at O; unfold ck; rw [O]; exact if_pos rfl
theorem OB.g (O : OB h a ci fs) (k : Nat) {x : Int32} (hk : fs[k]? = some (.inl x)) : gI h a ci k = some x := by
  unfold OB at O; unfold gI; rw [O]
  show (if ci = ci then (match fs[k]? with | some (.inl x) => some x | _ => none) else none) = _
  rw [if_pos rfl, hk]
theorem OB.r (O : OB h a ci fs) (k : Nat) {x : Nat} (hk : fs[k]? = some (.inr (some x))) : gR h a ci k = some x := by
  unfold OB at O; unfold gR; rw [O]
  show (if ci = ci then (match fs[k]? with | some (.inr (some x)) => some x | _ => none) else none) = _
  rw [if_pos rfl, hk]
theorem OB.p (O : OB h a ci fs) (k : Nat) (v : MV) (hl : k < fs.length) : pF h a ci k v = some (h.set a (.inl (ci, fs.set k v))) := by
  unfold OB at O; unfold pF; rw [O]
  show (if ci = ci ∧ k < fs.length then some (h.set a (.inl (ci, fs.set k v))) else none) = _
  rw [if_pos ⟨rfl, hl⟩]
theorem OB.set (O : OB h a ci fs) (gs : List MV) : OB (h.set a (.inl (ci, gs))) a ci gs := set_eq O
theorem OB.ne {i : Nat} {e : ME} (O : OB h a ci fs) (hne : i ≠ a) : OB (h.set i e) a ci fs := by unfold OB; rw [set_ne hne]; exact O
theorem OB.eq {h' : HP} (O : OB h a ci fs) (he : h'[a]? = h[a]?) : OB h' a ci fs := by unfold OB; rw [he]; exact O
theorem IA.eq {h' : HP} {n : Nat} {f : Nat → Int32} (O : IA h a n f) (he : h'[a]? = h[a]?) : IA h' a n f := by unfold IA; rw [he]; exact O
theorem QA.eq {h' : HP} {w : Bool} {n : Nat} {f : Nat → Option Nat} (O : QA h a w n f) (he : h'[a]? = h[a]?) : QA h' a w n f := by unfold QA; rw [he]; exact O
theorem HV.eq {h' : HP} {S : CS} (O : HV h a S) (he : ∀ k, a ≤ k → k < a + 5 → h'[k]? = h[k]?) : HV h' a S := by
  obtain ⟨st, am, lk, od, h0, h1, h2, h3, h4, r⟩ := O
  exact ⟨st, am, lk, od, by unfold HO; rw [he a (by omega) (by omega)]; exact h0, h1.eq (he _ (by omega) (by omega)), h2.eq (he _ (by omega) (by omega)), h3.eq (he _ (by omega) (by omega)), h4.eq (he _ (by omega) (by omega)), r⟩
theorem HX.eq {h' : HP} (O : HX h a) (he : ∀ k, a ≤ k → k < a + 5 → h'[k]? = h[k]?) : HX h' a := by
  obtain ⟨rm, ps, st, am, lk, od, h0, h1, h2, h3, h4⟩ := O
  exact ⟨rm, ps, st, am, lk, od, by unfold HO; rw [he a (by omega) (by omega)]; exact h0, h1.eq (he _ (by omega) (by omega)), h2.eq (he _ (by omega) (by omega)), h3.eq (he _ (by omega) (by omega)), h4.eq (he _ (by omega) (by omega))⟩
theorem DX.eq {h' : HP} (O : DX h a) (he : ∀ k, a ≤ k → k < a + 6 → h'[k]? = h[k]?) : DX h' a := by
  obtain ⟨rd, op, th, g1, g2, g3, g4, g5, h0, h1, h2, h3, h4, h5⟩ := O
  exact ⟨rd, op, th, g1, g2, g3, g4, g5, by unfold DO; rw [he a (by omega) (by omega)]; exact h0, h1.eq (he _ (by omega) (by omega)), h2.eq (he _ (by omega) (by omega)), h3.eq (he _ (by omega) (by omega)), h4.eq (he _ (by omega) (by omega)), h5.eq (he _ (by omega) (by omega))⟩
end OBS
theorem RV.eq {w w' : Nat → Int32} {x : Nat} {S : CS} (R : RV w x S) (Y : VS S) (he : ∀ j, x ≤ j → j < x + 66 → w' j = w j) : RV w' x S := by
  have hP := Y.p6
  refine ⟨fun p hp => ?_, fun p hp => ?_, fun p hp k y hk => ?_, fun k y hk => ?_⟩
  · rw [he _ (by omega) (by omega)]; exact R.1 p hp
  · rw [he _ (by omega) (by omega)]; exact R.2.1 p hp
  · have := Y.len hp
    have := (List.getElem?_eq_some_iff.mp hk).1
    rw [he _ (by omega) (by omega)]; exact R.2.2.1 p hp k y hk
  · have := (List.getElem?_eq_some_iff.mp hk).1
    have := Y.2.2.2.2.2.1
    rw [he _ (by omega) (by omega)]; exact R.2.2.2 k y hk
def C0 (h : HP) : Prop := OB h 0 8 [.inr (some 1), .inr (some 3), .inr (some 8), .inr (some 13), .inr (some 19), .inr (some 21), .inr (some 123), .inr (some 128), .inr (some 129)]
def TXi (h : HP) (F : Nat → Int32) (A : AT) : Prop := ∃ (L : Nat) (fa b c d : Int32) (lt : Nat → Int32), L ≤ 240 ∧ OB h 1 7 [.inl (nI L), .inl fa, .inl b, .inl c, .inl d, .inr (some 2)] ∧ IA h 2 240 lt ∧ F 6 = nI L ∧ F 7 = fa ∧ ∀ j, j < L → lt j = A 1 j ∧ ¬ lt j < 0
def BX (h : HP) : Prop := ∃ (b c : Int32) (g : Nat → Int32), OB h 19 0 [.inl b, .inl c, .inr (some 20)] ∧ IA h 20 6 g
def PAi (h : HP) (F : Nat → Int32) (A : AT) (S : CS) : Prop := ∃ (K : Nat) (sg : Nat → Nat) (ps : Nat → CS) (f : Nat → Option Nat), K ≤ 20 ∧ OB h 21 6 [.inl (nI K), .inr (some 22)] ∧ QA h 22 false 20 f ∧ F 3 = nI K ∧ (∀ i, i < 20 → f i = some (23 + 5 * sg i) ∧ sg i < 20 ∧ HX h (23 + 5 * sg i)) ∧ (∀ i j, i < 20 → j < 20 → sg i = sg j → i = j) ∧ ∀ i, i < K → HV h (23 + 5 * sg i) (ps i) ∧ RV (A 0) (67 + 67 * i) (ps i) ∧ VS (ps i) ∧ cN (ps i) = cN S ∧ cP (ps i) = cP S
def NBi (h : HP) (F : Nat → Int32) (A : AT) (S : CS) : Prop := ∃ (q e : Nat) (sr sg ep er : Nat → Int32), q ≤ 6 ∧ e ≤ 20 ∧ OB h 123 5 [.inl (nI q), .inl (nI e), .inr (some 124), .inr (some 125), .inr (some 126), .inr (some 127)] ∧ IA h 124 6 sr ∧ IA h 125 6 sg ∧ IA h 126 20 ep ∧ IA h 127 20 er ∧ F 15 = nI q ∧ F 18 = nI e ∧ (∀ i, i < q → sr i = A 6 i ∧ sg i = A 7 i) ∧ ∀ i, i < e → ep i = A 8 i ∧ er i = A 9 i ∧ ∃ p, p < cP S ∧ ep i = nI p
def DIi (h : HP) (A : AT) : Prop := ∃ s : Int32, OB h 128 2 [.inl s] ∧ A 0 66 = s ∧ ¬ s < 0
def IMG (h : HP) (A : AT) (S : CS) (a x : Nat) (I : CS) (s : Int32) : Prop := HV h a I ∧ RV (A 0) x I ∧ VS I ∧ cN I = cN S ∧ cP I = cP S ∧ A 0 (x + 66) = s ∧ ¬ s < 0
def IMi (h : HP) (F : Nat → Int32) (A : AT) (S : CS) : Prop := ∃ (kb : Nat) (s0 s1 : Int32) (i0 i1 : CS) (f : Nat → Option Nat), QA h 129 true 2 f ∧ f 0 = some 130 ∧ f 1 = some 136 ∧ kb < 4 ∧ F 4 = nI kb ∧ OB h 130 4 [.inl (bI (kb.testBit 0)), .inl s0, .inr (some 131)] ∧ OB h 136 4 [.inl (bI (kb.testBit 1)), .inl s1, .inr (some 137)] ∧ HX h 131 ∧ HX h 137 ∧ (kb.testBit 0 = true → IMG h A S 131 1407 i0 s0) ∧ (kb.testBit 1 = true → IMG h A S 137 1474 i1 s1)
def INV (h : HP) (F : Nat → Int32) (A : AT) (S : CS) : Prop := C0 h ∧ VS S ∧ HV h 3 S ∧ F 1 = nI (cN S) ∧ F 2 = nI (cP S) ∧ RV (A 0) 0 S ∧ HX h 8 ∧ DX h 13 ∧ BX h ∧ TXi h F A ∧ PAi h F A S ∧ NBi h F A S ∧ DIi h A ∧ IMi h F A S
def Inv (h : HP) : Prop := ∃ (F : Nat → Int32) (A : AT) (S : CS), MM h F A ∧ INV h F A S
section MV9
variable {h h' : HP} {F F' : Nat → Int32} {A A' : AT} {S S' : CS}
theorem TXi.mv (T : TXi h F A) (h1 : h'[1]? = h[1]?) (h2 : h'[2]? = h[2]?) (f6 : F' 6 = F 6) (f7 : F' 7 = F 7) (a1 : A' 1 = A 1) : TXi h' F' A' := by
  obtain ⟨L, fa, b, c, d, lt, t1, t2, t3, t4, t5, t6⟩ := T
  exact ⟨L, fa, b, c, d, lt, t1, t2.eq h1, t3.eq h2, f6.trans t4, f7.trans t5, fun j hj => by rw [a1]; exact t6 j hj⟩
theorem BX.mv (B : BX h) (h1 : h'[19]? = h[19]?) (h2 : h'[20]? = h[20]?) : BX h' := by
  obtain ⟨b, c, g, t1, t2⟩ := B
  exact ⟨b, c, g, t1.eq h1, t2.eq h2⟩
theorem PAi.mv (T : PAi h F A S) (he : ∀ k, 21 ≤ k → k < 123 → h'[k]? = h[k]?) (f3 : F' 3 = F 3) (a0 : ∀ j, 67 ≤ j → j < 1407 → A' 0 j = A 0 j) (n : cN S' = cN S) (p : cP S' = cP S) : PAi h' F' A' S' := by
  obtain ⟨K, sg, ps, f, t1, t2, t3, t4, t5, t6, t7⟩ := T
  refine ⟨K, sg, ps, f, t1, t2.eq (he _ (by omega) (by omega)), t3.eq (he _ (by omega) (by omega)), f3.trans t4, fun i hi => ?_, t6, fun i hi => ?_⟩
  · obtain ⟨u1, u2, u3⟩ := t5 i hi
    exact ⟨u1, u2, u3.eq (fun k h1 h2 => he k (by omega) (by omega))⟩
  · obtain ⟨u1, u2, u3, u4, u5⟩ := t7 i hi
    have := (t5 i (by omega)).2.1
    exact ⟨u1.eq (fun k h1 h2 => he k (by omega) (by omega)), u2.eq u3 (fun j h1 h2 => a0 j (by omega) (by omega)), u3, u4.trans n.symm, u5.trans p.symm⟩
theorem NBi.mv (T : NBi h F A S) (he : ∀ k, 123 ≤ k → k < 128 → h'[k]? = h[k]?) (f15 : F' 15 = F 15) (f18 : F' 18 = F 18) (a6 : A' 6 = A 6) (a7 : A' 7 = A 7) (a8 : A' 8 = A 8) (a9 : A' 9 = A 9) (p : cP S' = cP S) : NBi h' F' A' S' := by
  obtain ⟨q, e, sr, sg, ep, er, t1, t2, t3, t4, t5, t6, t7, t8, t9, t10, t11⟩ := T
  refine ⟨q, e, sr, sg, ep, er, t1, t2, t3.eq (he _ (by omega) (by omega)), t4.eq (he _ (by omega) (by omega)), t5.eq (he _ (by omega) (by omega)), t6.eq (he _ (by omega) (by omega)), t7.eq (he _ (by omega) (by omega)), f15.trans t8, f18.trans t9, fun i hi => ?_, fun i hi => ?_⟩
  · rw [a6, a7]; exact t10 i hi
  · rw [a8, a9, p]; exact t11 i hi
theorem DIi.mv (T : DIi h A) (he : h'[128]? = h[128]?) (a0 : A' 0 66 = A 0 66) : DIi h' A' := by
  obtain ⟨s, t1, t2, t3⟩ := T
  exact ⟨s, t1.eq he, a0.trans t2, t3⟩
theorem IMG.mv {a x : Nat} {I : CS} {s : Int32} (T : IMG h A S a x I s) (he : ∀ k, a ≤ k → k < a + 5 → h'[k]? = h[k]?) (a0 : ∀ j, x ≤ j → j < x + 67 → A' 0 j = A 0 j) (n : cN S' = cN S) (p : cP S' = cP S) : IMG h' A' S' a x I s := by
  obtain ⟨u1, u2, u3, u4, u5, u6, u7⟩ := T
  exact ⟨u1.eq he, u2.eq u3 (fun j h1 h2 => a0 j h1 (by omega)), u3, u4.trans n.symm, u5.trans p.symm, (a0 _ (by omega) (by omega)).trans u6, u7⟩
theorem IMi.mv (T : IMi h F A S) (he : ∀ k, 129 ≤ k → k < 142 → h'[k]? = h[k]?) (f4 : F' 4 = F 4) (a0 : ∀ j, 1407 ≤ j → j < 1541 → A' 0 j = A 0 j) (n : cN S' = cN S) (p : cP S' = cP S) : IMi h' F' A' S' := by
  obtain ⟨kb, s0, s1, i0, i1, f, t1, t2, t3, t4, t5, t6, t7, t8, t9, t10, t11⟩ := T
  exact ⟨kb, s0, s1, i0, i1, f, t1.eq (he _ (by omega) (by omega)), t2, t3, t4, f4.trans t5, t6.eq (he _ (by omega) (by omega)), t7.eq (he _ (by omega) (by omega)), t8.eq (fun k h1 h2 => he k (by omega) (by omega)), t9.eq (fun k h1 h2 => he k (by omega) (by omega)), fun z => (t10 z).mv (fun k h1 h2 => he k (by omega) (by omega)) (fun j h1 h2 => a0 j (by omega) (by omega)) n p, fun z => (t11 z).mv (fun k h1 h2 => he k (by omega) (by omega)) (fun j h1 h2 => a0 j (by omega) (by omega)) n p⟩
/-- the class's scratch has changed -/
theorem INV.scr (I : INV h F A S) (he : ∀ k, k < 142 → (k < 8 ∨ 21 ≤ k) → h'[k]? = h[k]?) (h8 : HX h' 8) (h13 : DX h' 13) (h19 : BX h') : INV h' F A S := by
  obtain ⟨i1, i2, i3, i4, i5, i6, i7, i8, i9, i10, i11, i12, i13, i14⟩ := I
  exact ⟨i1.eq (he _ (by omega) (by omega)), i2, i3.eq (fun k h1 h2 => he k (by omega) (by omega)), i4, i5, i6, h8, h13, h19, i10.mv (he _ (by omega) (by omega)) (he _ (by omega) (by omega)) rfl rfl rfl, i11.mv (fun k h1 h2 => he k (by omega) (by omega)) rfl (fun _ _ _ => rfl) rfl rfl, i12.mv (fun k h1 h2 => he k (by omega) (by omega)) rfl rfl rfl rfl rfl rfl rfl, i13.mv (he _ (by omega) (by omega)) rfl, i14.mv (fun k h1 h2 => he k (by omega) (by omega)) rfl (fun _ _ _ => rfl) rfl rfl⟩
theorem INV.deal (I : INV h F A S) (X : Fr h h' 13 6) (D : DX h' 13) : INV h' F A S := I.scr (fun k _ h2 => X k (by omega)) (I.2.2.2.2.2.2.1.eq (fun k h1 h2 => X k (by omega))) D (I.2.2.2.2.2.2.2.2.1.mv (X _ (by omega)) (X _ (by omega)))
/-- the reference's scratch has changed -/
def FS (F F' : Nat → Int32) : Prop := F' 1 = F 1 ∧ F' 2 = F 2 ∧ F' 3 = F 3 ∧ F' 4 = F 4 ∧ F' 6 = F 6 ∧ F' 7 = F 7 ∧ F' 15 = F 15 ∧ F' 18 = F 18
def AS (A A' : AT) : Prop := (∀ j, j < 1541 → A' 0 j = A 0 j) ∧ A' 1 = A 1 ∧ A' 6 = A 6 ∧ A' 7 = A 7 ∧ A' 8 = A 8 ∧ A' 9 = A 9
theorem INV.mdl (I : INV h F A S) (he : ∀ k, k < 142 → h'[k]? = h[k]?) (f : FS F F') (a : AS A A') : INV h' F' A' S := by
  obtain ⟨i1, i2, i3, i4, i5, i6, i7, i8, i9, i10, i11, i12, i13, i14⟩ := I
  obtain ⟨f1, f2, f3, f4, f6, f7, f15, f18⟩ := f
  obtain ⟨a0, a1, a6, a7, a8, a9⟩ := a
  exact ⟨i1.eq (he _ (by omega)), i2, i3.eq (fun k h1 h2 => he k (by omega)), f1.trans i4, f2.trans i5, i6.eq i2 (fun j h1 h2 => a0 j (by omega)), i7.eq (fun k h1 h2 => he k (by omega)), i8.eq (fun k h1 h2 => he k (by omega)), i9.mv (he _ (by omega)) (he _ (by omega)), i10.mv (he _ (by omega)) (he _ (by omega)) f6 f7 a1, i11.mv (fun k h1 h2 => he k (by omega)) f3 (fun j h1 h2 => a0 j (by omega)) rfl rfl, i12.mv (fun k h1 h2 => he k (by omega)) f15 f18 a6 a7 a8 a9 rfl, i13.mv (he _ (by omega)) (a0 _ (by omega)), i14.mv (fun k h1 h2 => he k (by omega)) f4 (fun j h1 h2 => a0 j (by omega)) rfl rfl⟩
theorem FS.rfl : FS F F := ⟨Eq.refl _, Eq.refl _, Eq.refl _, Eq.refl _, Eq.refl _, Eq.refl _, Eq.refl _, Eq.refl _⟩
theorem AS.rfl : AS A A := ⟨fun _ _ => Eq.refl _, Eq.refl _, Eq.refl _, Eq.refl _, Eq.refl _, Eq.refl _⟩
end MV9
