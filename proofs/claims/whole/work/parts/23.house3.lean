/-! writes: what else stays -/
def Fr (h h' : HP) (a n : Nat) : Prop := ∀ k, (k < a ∨ a + n ≤ k) → h'[k]? = h[k]?
theorem Fr.rfl {h : HP} {a n : Nat} : Fr h h a n := fun _ _ => Eq.refl _
theorem Fr.trans {h h1 h2 : HP} {a n : Nat} (x : Fr h h1 a n) (y : Fr h1 h2 a n) : Fr h h2 a n := fun k hk => (y k hk).trans (x k hk)
theorem Fr.set {h : HP} {a n i : Nat} {e : ME} (h1 : a ≤ i) (h2 : i < a + n) : Fr h (h.set i e) a n := fun k hk => List.getElem?_set_ne (by omega)
theorem Fr.wide {h h' : HP} {a n b m : Nat} (x : Fr h h' a n) (h1 : b ≤ a) (h2 : a + n ≤ b + m) : Fr h h' b m := fun k hk => x k (by omega)
theorem set_ne {h : HP} {i k : Nat} {e : ME} (hne : i ≠ k) : (h.set i e)[k]? = h[k]? := List.getElem?_set_ne hne
theorem set_eq {h : HP} {i : Nat} {e x : ME} (hi : h[i]? = some x) : (h.set i e)[i]? = some e := List.getElem?_set_self (List.getElem?_eq_some_iff.mp hi).1
theorem IA.set {h : HP} {a n : Nat} {f : Nat → Int32} (H : IA h a n f) (g : Nat → Int32) : IA (h.set a (.inr (.inl (n, g)))) a n g := set_eq H
theorem IA.ne {h : HP} {a n i : Nat} {f : Nat → Int32} {e : ME} (H : IA h a n f) (hne : i ≠ a) : IA (h.set i e) a n f := by unfold IA; rw [set_ne hne]; exact H
theorem IA.fr {h h' : HP} {a n b m : Nat} {f : Nat → Int32} (H : IA h a n f) (F : Fr h h' b m) (hk : a < b ∨ b + m ≤ a) : IA h' a n f := by unfold IA; rw [F a hk]; exact H
def HR (h : HP) (a : Nat) (rm ps : Int32) (st am lk od : Nat → Int32) : Prop := HO h a rm ps ∧ IA h (a + 1) 6 st ∧ IA h (a + 2) 6 am ∧ IA h (a + 3) 48 lk ∧ IA h (a + 4) 6 od
section HW
variable {h : HP} {a : Nat} {rm ps : Int32} {st am lk od : Nat → Int32}
theorem HO.ne {i : Nat} {e : ME} (H : HO h a rm ps) (hne : i ≠ a) : HO (h.set i e) a rm ps := by unfold HO; rw [set_ne hne]; exact H
theorem HR.fr {h' : HP} {b m : Nat} (H : HR h a rm ps st am lk od) (F : Fr h h' b m) (hk : a + 5 ≤ b ∨ b + m ≤ a) : HR h' a rm ps st am lk od := ⟨by unfold HO; rw [F a (by omega)]; exact H.1, H.2.1.fr F (by omega), H.2.2.1.fr F (by omega), H.2.2.2.1.fr F (by omega), H.2.2.2.2.fr F (by omega)⟩
theorem HR.wst (H : HR h a rm ps st am lk od) (g : Nat → Int32) : HR (h.set (a + 1) (.inr (.inl (6, g)))) a rm ps g am lk od := ⟨H.1.ne (by omega), H.2.1.set g, H.2.2.1.ne (by omega), H.2.2.2.1.ne (by omega), H.2.2.2.2.ne (by omega)⟩
theorem HR.wam (H : HR h a rm ps st am lk od) (g : Nat → Int32) : HR (h.set (a + 2) (.inr (.inl (6, g)))) a rm ps st g lk od := ⟨H.1.ne (by omega), H.2.1.ne (by omega), H.2.2.1.set g, H.2.2.2.1.ne (by omega), H.2.2.2.2.ne (by omega)⟩
theorem HR.wlk (H : HR h a rm ps st am lk od) (g : Nat → Int32) : HR (h.set (a + 3) (.inr (.inl (48, g)))) a rm ps st am g od := ⟨H.1.ne (by omega), H.2.1.ne (by omega), H.2.2.1.ne (by omega), H.2.2.2.1.set g, H.2.2.2.2.ne (by omega)⟩
theorem HR.wod (H : HR h a rm ps st am lk od) (g : Nat → Int32) : HR (h.set (a + 4) (.inr (.inl (6, g)))) a rm ps st am lk g := ⟨H.1.ne (by omega), H.2.1.ne (by omega), H.2.2.1.ne (by omega), H.2.2.2.1.ne (by omega), H.2.2.2.2.set g⟩
theorem HR.o (H : HR h a rm ps st am lk od) (rm' ps' : Int32) : HR (h.set a (.inl (3, [.inl rm', .inl ps', .inr (some (a + 1)), .inr (some (a + 2)), .inr (some (a + 3)), .inr (some (a + 4))]))) a rm' ps' st am lk od := ⟨set_eq H.1, H.2.1.ne (by omega), H.2.2.1.ne (by omega), H.2.2.2.1.ne (by omega), H.2.2.2.2.ne (by omega)⟩
theorem HR.chk (V : HR h a rm ps st am lk od) {α : Type} (x : Option α) : ck h a 3 x = x := by
  have ho := V.1
  unfold HO at ho
  unfold ck; rw [ho]; rfl
theorem HR.g0 (V : HR h a rm ps st am lk od) : gI h a 3 0 = some rm := by
  have ho := V.1
  unfold HO at ho
  unfold gI; rw [ho]; rfl
theorem HR.g1 (V : HR h a rm ps st am lk od) : gI h a 3 1 = some ps := by
  have ho := V.1
  unfold HO at ho
  unfold gI; rw [ho]; rfl
theorem HR.r2 (V : HR h a rm ps st am lk od) : gR h a 3 2 = some (a + 1) := by
  have ho := V.1
  unfold HO at ho
  unfold gR; rw [ho]; rfl
theorem HR.r3 (V : HR h a rm ps st am lk od) : gR h a 3 3 = some (a + 2) := by
  have ho := V.1
  unfold HO at ho
  unfold gR; rw [ho]; rfl
theorem HR.r4 (V : HR h a rm ps st am lk od) : gR h a 3 4 = some (a + 3) := by
  have ho := V.1
  unfold HO at ho
  unfold gR; rw [ho]; rfl
theorem HR.r5 (V : HR h a rm ps st am lk od) : gR h a 3 5 = some (a + 4) := by
  have ho := V.1
  unfold HO at ho
  unfold gR; rw [ho]; rfl
theorem HR.p0 (V : HR h a rm ps st am lk od) (x : Int32) : ∃ h', pI h a 3 0 x = some h' ∧ HR h' a x ps st am lk od ∧ Fr h h' a 5 := by
  refine ⟨_, ?_, V.o x ps, Fr.set (by omega) (by omega)⟩
  have ho := V.1
  unfold HO at ho
  unfold pI pF; rw [ho]; rfl
theorem HR.p1 (V : HR h a rm ps st am lk od) (x : Int32) : ∃ h', pI h a 3 1 x = some h' ∧ HR h' a rm x st am lk od ∧ Fr h h' a 5 := by
  refine ⟨_, ?_, V.o rm x, Fr.set (by omega) (by omega)⟩
  have ho := V.1
  unfold HO at ho
  unfold pI pF; rw [ho]; rfl
theorem HR.pst (V : HR h a rm ps st am lk od) {k : Nat} (hk : k < 6) (x : Int32) : ∃ h', f_X8_put (a + 1) (nI k) x h = some h' ∧ HR h' a rm ps (upd st k x) am lk od ∧ Fr h h' a 5 := ⟨_, ia_put V.2.1 hk (by omega) x, V.wst _, Fr.set (by omega) (by omega)⟩
theorem HR.pam (V : HR h a rm ps st am lk od) {k : Nat} (hk : k < 6) (x : Int32) : ∃ h', f_X8_put (a + 2) (nI k) x h = some h' ∧ HR h' a rm ps st (upd am k x) lk od ∧ Fr h h' a 5 := ⟨_, ia_put V.2.2.1 hk (by omega) x, V.wam _, Fr.set (by omega) (by omega)⟩
theorem HR.plk (V : HR h a rm ps st am lk od) {k : Nat} (hk : k < 48) (x : Int32) : ∃ h', f_X8_put (a + 3) (nI k) x h = some h' ∧ HR h' a rm ps st am (upd lk k x) od ∧ Fr h h' a 5 := ⟨_, ia_put V.2.2.2.1 hk (by omega) x, V.wlk _, Fr.set (by omega) (by omega)⟩
theorem HR.pod (V : HR h a rm ps st am lk od) {k : Nat} (hk : k < 6) (x : Int32) : ∃ h', f_X8_put (a + 4) (nI k) x h = some h' ∧ HR h' a rm ps st am lk (upd od k x) ∧ Fr h h' a 5 := ⟨_, ia_put V.2.2.2.2 hk (by omega) x, V.wod _, Fr.set (by omega) (by omega)⟩
theorem ia_cpy {h : HP} {a a2 n : Nat} {f g : Nat → Int32} (A : IA h a n f) (B : IA h a2 n g) (hn : n < 2 ^ 31) : cpy h a 0 a2 0 (nI n) = some (h.set a2 (.inr (.inl (n, va_cpy f g 0 0 n)))) := by
  unfold cpy
  unfold IA at A B
  rw [A, B]
  show (if _ then none else some (h.set a2 (.inr (.inl (n, va_cpy f g (0 : Int32).toNatClampNeg (0 : Int32).toNatClampNeg (nI n).toNatClampNeg))))) = _
  have h0 : (0 : Int32).toNatClampNeg = 0 := rfl
  rw [h0, nI_clamp hn, if_neg (by
    simp only [not_or]
    exact ⟨by decide, by decide, nI_pos hn, by omega, by omega⟩)]
end HW
theorem p_copyR {h : HP} {a c : Nat} {rm ps rm2 ps2 : Int32} {st am lk od st2 am2 lk2 od2 : Nat → Int32} (A : HR h a rm ps st am lk od) (B : HR h c rm2 ps2 st2 am2 lk2 od2) (hac : a + 5 ≤ c ∨ c + 5 ≤ a) : ∃ h', f_X3_copy a c h = some h' ∧ HR h' a rm2 ps2 (va_cpy st2 st 0 0 6) (va_cpy am2 am 0 0 6) (va_cpy lk2 lk 0 0 48) (va_cpy od2 od 0 0 6) ∧ Fr h h' a 5 := by
  unfold f_X3_copy f_X3_copy_e
  rw [A.chk, B.g0, bs]
  obtain ⟨h1, e1, A1, F1⟩ := A.p0 rm2
  have B1 := B.fr F1 (by omega)
  rw [e1, bs, B1.g1, bs]
  obtain ⟨h2, e2, A2, F2⟩ := A1.p1 ps2
  have B2 := B1.fr F2 (by omega)
  rw [e2, bs, B2.r2, bs, A2.r2, bs, bs, ia_len A2.2.1, bs, ia_cpy B2.2.1 A2.2.1 (by omega), bs]
  have A3 := A2.wst (va_cpy st2 st 0 0 6)
  have F3 : Fr h2 (h2.set (a + 1) (.inr (.inl (6, va_cpy st2 st 0 0 6)))) a 5 := Fr.set (by omega) (by omega)
  have B3 := B2.fr F3 (by omega)
  generalize h2.set (a + 1) (.inr (.inl (6, va_cpy st2 st 0 0 6))) = h3 at A3 F3 B3 ⊢
  rw [B3.r3, bs, A3.r3, bs, bs, ia_len A3.2.2.1, bs, ia_cpy B3.2.2.1 A3.2.2.1 (by omega), bs]
  have A4 := A3.wam (va_cpy am2 am 0 0 6)
  have F4 : Fr h3 (h3.set (a + 2) (.inr (.inl (6, va_cpy am2 am 0 0 6)))) a 5 := Fr.set (by omega) (by omega)
  have B4 := B3.fr F4 (by omega)
  generalize h3.set (a + 2) (.inr (.inl (6, va_cpy am2 am 0 0 6))) = h4 at A4 F4 B4 ⊢
  rw [B4.r4, bs, A4.r4, bs, bs, ia_len A4.2.2.2.1, bs, ia_cpy B4.2.2.2.1 A4.2.2.2.1 (by omega), bs]
  have A5 := A4.wlk (va_cpy lk2 lk 0 0 48)
  have F5 : Fr h4 (h4.set (a + 3) (.inr (.inl (48, va_cpy lk2 lk 0 0 48)))) a 5 := Fr.set (by omega) (by omega)
  have B5 := B4.fr F5 (by omega)
  generalize h4.set (a + 3) (.inr (.inl (48, va_cpy lk2 lk 0 0 48))) = h5 at A5 F5 B5 ⊢
  rw [B5.r5, bs, A5.r5, bs, bs, ia_len A5.2.2.2.2, bs, ia_cpy B5.2.2.2.2 A5.2.2.2.2 (by omega), bs]
  exact ⟨_, rfl, A5.wod _, ((((F1.trans F2).trans F3).trans F4).trans F5).trans (Fr.set (by omega) (by omega))⟩
theorem cpy_at {f g : Nat → Int32} {n j : Nat} (hj : j < n) : va_cpy f g 0 0 n j = f j := by
  unfold va_cpy
  rw [if_pos ⟨Nat.zero_le _, by omega⟩]
  congr 1
  omega
theorem Rep.cpy {S : CS} {st am lk od st2 am2 lk2 od2 : Nat → Int32} (Y : VS S) (r : Rep S st2 am2 lk2 od2) : Rep S (va_cpy st2 st 0 0 6) (va_cpy am2 am 0 0 6) (va_cpy lk2 lk 0 0 48) (va_cpy od2 od 0 0 6) := by
  have hP := Y.p6
  have hO := Y.2.2.2.2.2.1
  refine ⟨fun p hp => ?_, fun p hp => ?_, fun p hp k x hk => ?_, fun k q hk => ?_⟩
  · rw [cpy_at (by omega)]; exact r.1 p hp
  · rw [cpy_at (by omega)]; exact r.2.1 p hp
  · have := Y.len hp
    have := (List.getElem?_eq_some_iff.mp hk).1
    rw [cpy_at (by omega)]; exact r.2.2.1 p hp k x hk
  · have := (List.getElem?_eq_some_iff.mp hk).1
    rw [cpy_at (by omega)]; exact r.2.2.2 k q hk
/-- a house of any contents lies there -/
def HX (h : HP) (a : Nat) : Prop := ∃ rm ps st am lk od, HR h a rm ps st am lk od
theorem HV.hr {h : HP} {a : Nat} {S : CS} (V : HV h a S) : ∃ st am lk od, HR h a (nI (cN S)) (nI (cP S)) st am lk od ∧ Rep S st am lk od := by
  obtain ⟨st, am, lk, od, h0, h1, h2, h3, h4, r⟩ := V
  exact ⟨st, am, lk, od, ⟨h0, h1, h2, h3, h4⟩, r⟩
theorem HR.hv {h : HP} {a : Nat} {S : CS} {st am lk od : Nat → Int32} (A : HR h a (nI (cN S)) (nI (cP S)) st am lk od) (r : Rep S st am lk od) : HV h a S := ⟨st, am, lk, od, A.1, A.2.1, A.2.2.1, A.2.2.2.1, A.2.2.2.2, r⟩
theorem HV.hx {h : HP} {a : Nat} {S : CS} (V : HV h a S) : HX h a := by
  obtain ⟨st, am, lk, od, A, -⟩ := V.hr
  exact ⟨_, _, _, _, _, _, A⟩
theorem HV.fr {h h' : HP} {a b m : Nat} {S : CS} (V : HV h a S) (F : Fr h h' b m) (hk : a + 5 ≤ b ∨ b + m ≤ a) : HV h' a S := by
  obtain ⟨st, am, lk, od, A, r⟩ := V.hr
  exact (A.fr F hk).hv r
theorem HX.fr {h h' : HP} {a b m : Nat} (V : HX h a) (F : Fr h h' b m) (hk : a + 5 ≤ b ∨ b + m ≤ a) : HX h' a := by
  obtain ⟨_, _, _, _, _, _, A⟩ := V
  exact ⟨_, _, _, _, _, _, A.fr F hk⟩
theorem p_copy {h : HP} {a c : Nat} {S : CS} (A : HX h a) (B : HV h c S) (Y : VS S) (hac : a + 5 ≤ c ∨ c + 5 ≤ a) : ∃ h', f_X3_copy a c h = some h' ∧ HV h' a S ∧ Fr h h' a 5 := by
  obtain ⟨rm, ps, st, am, lk, od, A⟩ := A
  obtain ⟨st2, am2, lk2, od2, B, r⟩ := B.hr
  obtain ⟨h', e, A', F⟩ := p_copyR A B hac
  exact ⟨h', e, A'.hv (r.cpy Y), F⟩
