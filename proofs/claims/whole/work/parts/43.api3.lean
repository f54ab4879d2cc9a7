theorem s_write : SK2 f_X8_write f_X9_write Inv := by
  intro h x y hI
  obtain ⟨F, A, S, M, I⟩ := id hI
  obtain ⟨t, e1, e2, ht⟩ := both_person M I x
  obtain ⟨u, d1, d2, hu⟩ := both_roomN M I y
  cases t with
  | false =>
    refine ⟨-1000000001, h, h, ?_, ?_, hI⟩
    · unfold f_X8_write f_X8_write_e
      rw [I.1.chk, I.1.r 1 rfl, bs, e1, bs, if_pos (by rfl)]; rfl
    · unfold f_X9_write f_X9_write_e
      rw [M.chk, e2 h F A M I.2.2.2.2.1, bs, if_pos (by rfl)]; rfl
  | true =>
    obtain ⟨p, hp, rfl⟩ := ht.mp rfl
    cases u with
    | false =>
      refine ⟨-1000000001, h, h, ?_, ?_, hI⟩
      · unfold f_X8_write f_X8_write_e
        rw [I.1.chk, I.1.r 1 rfl, bs, e1, bs, if_neg b1n, I.1.r 1 rfl, bs, d1, bs, if_pos (by rfl)]; rfl
      · unfold f_X9_write f_X9_write_e
        rw [M.chk, e2 h F A M I.2.2.2.2.1, bs, if_neg b1n]
        show (f_X9_isRoomOrNone 142 y h).bind _ = _
        rw [d2 h F A M I.2.2.2.1, bs, if_pos (by rfl)]; rfl
    | true =>
      obtain ⟨q, e, sr, sg, ep, er, t1, t2, t3, t4, t5, t6, t7, t8, t9, t10, t11⟩ := I.2.2.2.2.2.2.2.2.2.2.2.1
      have pre8 : f_X8_write 0 (nI p) y h = (f_X5_addEntry 123 (nI p) y h).bind fun q4 => some (q4.1, q4.2) := by
        unfold f_X8_write f_X8_write_e
        rw [I.1.chk, I.1.r 1 rfl, bs, e1, bs, if_neg b1n, I.1.r 1 rfl, bs, d1, bs, if_neg b1n, I.1.r 6 rfl, bs]
      by_cases he : e < 20
      · obtain ⟨h1, pp, k1, X1⟩ := t6.w he (by omega) (nI p)
        have o1 := t3.eq (X1 123 (by omega))
        have m1 := t7.eq (X1 127 (by omega))
        obtain ⟨h2, pp2, m2, X2⟩ := m1.w he (by omega) y
        have o2 := o1.eq (X2 123 (by omega))
        obtain ⟨h3, p3, o3, X3⟩ := o2.w 1 (nI (e + 1)) (gs := [.inl (nI q), .inl (nI (e + 1)), .inr (some 124), .inr (some 125), .inr (some 126), .inr (some 127)]) rfl (Nat.le_of_ble_eq_true rfl)
        have k3 := (k1.eq (X2 126 (by omega))).eq (X3 126 (by omega))
        have m3 := m2.eq (X3 127 (by omega))
        have l3 := ((t4.eq (X1 124 (by omega))).eq (X2 124 (by omega))).eq (X3 124 (by omega))
        have g3 := ((t5.eq (X1 125 (by omega))).eq (X2 125 (by omega))).eq (X3 125 (by omega))
        have X : Fr h h3 123 5 := ((X1.wide (by omega) (by omega)).trans (X2.wide (by omega) (by omega))).trans (X3.wide (by omega) (by omega))
        have M3 := M.fr X (by omega)
        obtain ⟨h4, p4, M4, X4⟩ := M3.ast 8 (by omega) (show e < 20 by omega) (nI p)
        obtain ⟨h5, p5, M5, X5⟩ := M4.ast 9 (by omega) (show e < 20 by omega) y
        obtain ⟨h6, p6, M6, X6⟩ := M5.p 18 (nI (e + 1)) rfl (by omega)
        have XX := (X4.trans X5).trans X6
        refine ⟨nI (e + 1), h3, h6, ?_, ?_, ⟨_, _, S, M6, ?_⟩⟩
        · rw [pre8]
          unfold f_X5_addEntry f_X5_addEntry_e
          rw [t3.chk, t3.g 1 rfl, bs, if_pos (show nI e < (20 : Int32) from nI_lt (b := 20) he (by omega)), t3.r 4 rfl, bs, bs, pp, bs, o1.r 5 rfl, bs, o1.g 1 rfl, bs, pp2, bs, o2.g 1 rfl, bs, nI_1, p3, bs, o3.g 1 rfl, bs, bs]
        · unfold f_X9_write f_X9_write_e
          rw [M3.chk, e2 h3 F A M3 I.2.2.2.2.1, bs, if_neg b1n]
          show (f_X9_isRoomOrNone 142 y h3).bind _ = _
          rw [d2 h3 F A M3 I.2.2.2.1, bs, if_neg b1n]
          show (gI h3 142 9 18).bind _ = _
          rw [M3.g 18 rfl, bs, t9, if_neg (show ¬ nI e = (20 : Int32) from fun z => by have := (nI_eq (a := e) (b := 20) (by omega) (by omega)).mp z; omega), M3.r 16 rfl, bs, bs]
          show (ast h3 (143 + 8) (nI e) (nI p)).bind _ = _
          rw [p4, bs, M4.r 17 rfl, bs, M4.g 18 rfl, bs, t9]
          show (ast h4 (143 + 9) (nI e) y).bind _ = _
          rw [p5, bs, M5.g 18 rfl, bs, t9, nI_1, p6, bs, M6.g 18 rfl, bs, us]
        · have hE : ∀ k, k < 142 → (k < 123 ∨ 128 ≤ k) → h6[k]? = h[k]? := fun k h1 h2 => (XX k (by omega)).trans (X k (by omega))
          obtain ⟨i1, i2, i3, i4, i5, i6, i7, i8, i9, i10, i11, i12, i13, i14⟩ := I
          refine ⟨i1.eq (hE _ (by omega) (by omega)), i2, i3.eq (fun k h1 h2 => hE k (by omega) (by omega)), i4, i5, i6, i7.eq (fun k h1 h2 => hE k (by omega) (by omega)), i8.eq (fun k h1 h2 => hE k (by omega) (by omega)), i9.mv (hE _ (by omega) (by omega)) (hE _ (by omega) (by omega)), i10.mv (hE _ (by omega) (by omega)) (hE _ (by omega) (by omega)) rfl rfl rfl, i11.mv (fun k h1 h2 => hE k (by omega) (by omega)) rfl (fun _ _ _ => rfl) rfl rfl, ?_, i13.mv (hE _ (by omega) (by omega)) rfl, i14.mv (fun k h1 h2 => hE k (by omega) (by omega)) rfl (fun _ _ _ => rfl) rfl rfl⟩
          refine ⟨q, e + 1, sr, sg, upd ep e (nI p), upd er e y, t1, by omega, o3.eq (XX 123 (by omega)), l3.eq (XX 124 (by omega)), g3.eq (XX 125 (by omega)), k3.eq (XX 126 (by omega)), m3.eq (XX 127 (by omega)), (un (by omega)).trans t8, us, fun i hi => t10 i hi, fun i hi => ?_⟩
          rw [setA_n _ _ (by omega), setA_s, setA_s, setA_n _ _ (by omega)]
          by_cases hie : i = e
          · rw [hie, us, us, us, us]; exact ⟨rfl, rfl, p, hp, rfl⟩
          · rw [un hie, un hie, un hie, un hie]; exact t11 i (by omega)
      · have he20 : e = 20 := by omega
        refine ⟨-1000000004, h, h, ?_, ?_, hI⟩
        · rw [pre8]
          unfold f_X5_addEntry f_X5_addEntry_e
          rw [t3.chk, t3.g 1 rfl, bs, if_neg (show ¬ nI e < (20 : Int32) from nI_nlt (b := 20) (by omega) (by omega)), bs]
        · unfold f_X9_write f_X9_write_e
          rw [M.chk, e2 h F A M I.2.2.2.2.1, bs, if_neg b1n]
          show (f_X9_isRoomOrNone 142 y h).bind _ = _
          rw [d2 h F A M I.2.2.2.1, bs, if_neg b1n]
          show (gI h 142 9 18).bind _ = _
          rw [M.g 18 rfl, bs, t9, if_pos (by rw [he20]; rfl)]
/-! what came out, on both sides -/
def gC (S : CS) (p : Nat) : Int32 := (outC S).2.2.2.1 p
def rC (S : CS) (p : Nat) : Int32 := (outC S).2.2.2.2.1 p
def zC (S : CS) (p : Nat) : Int32 := (outC S).2.2.2.2.2 p
def DVo (h : HP) (S : CS) : Prop := ∃ (th : Int32) (g r z tg on : Nat → Int32), DR h 13 (nI (outC S).1) (nI (outC S).2.2.1) th g r z tg on ∧ ∀ p, p < cP S → g p = gC S p ∧ r p = rC S p ∧ z p = zC S p
def MDo (h : HP) (F : Nat → Int32) (A : AT) (S : CS) : Prop := ∃ (F' : Nat → Int32) (A' : AT), MM h F' A' ∧ FS F F' ∧ AS A A' ∧ (∀ j, A' 0 j = A 0 j) ∧ F' 11 = nI (outC S).1 ∧ F' 26 = nI (outC S).2.2.1 ∧ ∀ p, p < cP S → A' 2 p = gC S p ∧ A' 3 p = rC S p ∧ A' 4 p = zC S p
theorem p_dealA {a : Nat} {h : HP} {S : CS} (Y : VS S) (ha : 13 + 6 ≤ a ∨ a + 5 ≤ 13) (V : HV h a S) (D : DX h 13) : ∃ h', f_X1_deal 13 a h = some h' ∧ DVo h' S ∧ Fr h h' 13 6 := by
  obtain ⟨rd, op, th, got, rds, rgs, tgt, onw, A⟩ := D
  obtain ⟨h', t', o', e, A', X⟩ := p_deal Y ha V A
  refine ⟨h', e, ?_, X⟩
  rw [dealN_eq Y] at A'
  obtain ⟨q1, q2, q3, q4⟩ := out_eq Y got rds rgs
  unfold DV at A'
  rw [q1, q3] at A'
  exact ⟨_, _, _, _, _, _, A', q4⟩
theorem DVo.dx {h : HP} {S : CS} (D : DVo h S) : DX h 13 := by
  obtain ⟨th, g, r, z, tg, on, A, -⟩ := D
  exact ⟨_, _, _, _, _, _, _, _, A⟩
theorem p_dealt {h : HP} {F : Nat → Int32} {A : AT} {S : CS} (I : INV h F A S) : ∃ h', f_X8_dealt 0 h = some (some 13, h') ∧ DVo h' S ∧ Fr h h' 13 6 := by
  obtain ⟨h', e, D, X⟩ := p_dealA I.2.1 (by omega) I.2.2.1 I.2.2.2.2.2.2.2.1
  refine ⟨h', ?_, D, X⟩
  have c' : C0 h' := I.1.eq (X 0 (by omega))
  unfold f_X8_dealt f_X8_dealt_e
  rw [I.1.chk, I.1.r 3 rfl, bs, I.1.r 1 rfl, bs, e, bs, c'.r 3 rfl, bs]
theorem p_gaveX {h : HP} {F : Nat → Int32} {A : AT} {S : CS} {x : Nat} (M : MM h F A) (Y : VS S) (hx : x ≤ 1541) (R : RV (A 0) x S) (f1 : F 1 = nI (cN S)) (f2 : F 2 = nI (cP S)) : ∃ h', f_X9_giveOut 142 (nI x) h = some h' ∧ MDo h' F A S ∧ Fr h h' 142 12 := by
  obtain ⟨h', e, M', X⟩ := p_giveOut Y hx M R f2 f1
  refine ⟨h', e, ?_, X⟩
  obtain ⟨F', A', M', g25, g26, g11, a2, a3, a4, hF, hA⟩ := M'
  obtain ⟨q1, q2, q3, q4⟩ := out_eq Y (A 2) (A 3) (A 4)
  have ha0 : ∀ j, A' 0 j = A 0 j := fun j => by rw [hA 0 (by omega) (by omega) (by omega) (by omega)]
  refine ⟨F', A', M', ⟨hF _ (by omega) (by omega) (by omega), hF _ (by omega) (by omega) (by omega), hF _ (by omega) (by omega) (by omega), hF _ (by omega) (by omega) (by omega), hF _ (by omega) (by omega) (by omega), hF _ (by omega) (by omega) (by omega), hF _ (by omega) (by omega) (by omega), hF _ (by omega) (by omega) (by omega)⟩, ⟨fun j _ => ha0 j, hA _ (by omega) (by omega) (by omega) (by omega), hA _ (by omega) (by omega) (by omega) (by omega), hA _ (by omega) (by omega) (by omega) (by omega), hA _ (by omega) (by omega) (by omega) (by omega), hA _ (by omega) (by omega) (by omega) (by omega)⟩, ha0, g11.trans (by rw [q1]), g26.trans (by rw [q3]), fun p hp => ?_⟩
  obtain ⟨k1, k2, k3⟩ := q4 p hp
  exact ⟨by rw [a2]; exact k1, by rw [a3]; exact k2, by rw [a4]; exact k3⟩
theorem p_gave {h : HP} {F : Nat → Int32} {A : AT} {S : CS} (M : MM h F A) (I : INV h F A S) : ∃ h', f_X9_giveOut 142 0 h = some h' ∧ MDo h' F A S ∧ Fr h h' 142 12 := p_gaveX (x := 0) M I.2.1 (by omega) I.2.2.2.2.2.1 I.2.2.2.1 I.2.2.2.2.1
/-- class dealt, then the reference gave out: it still holds -/
theorem inv_both {h h1 h2 : HP} {F : Nat → Int32} {A : AT} {S : CS} (M : MM h F A) (I : INV h F A S) (D : DVo h1 S) (X1 : Fr h h1 13 6) (G : MDo h2 F A S) (X2 : Fr h1 h2 142 12) : Inv h2 := by
  have I1 := I.deal X1 D.dx
  obtain ⟨F', A', M', fs, as, -⟩ := G
  exact ⟨F', A', S, M', I1.mdl (fun k hk => X2 k (by omega)) fs as⟩
theorem s_room_pre {S : CS} : True := trivial
