/-! the whole text -/
def roomsP (T : Nat → Int32) (L i : Nat) : Out := match numP T L 1 8 i with
  | .inl e => .inl e
  | .inr z => .inr (z.2, (z.1.toNatClampNeg, 0, fun _ => none, fun _ => [], []))
def firstP (T : Nat → Int32) (L : Nat) : Out := if T (nx T L 0) = 114 then bnd (roomsP T L (nx T L 0 + 1)) (semiP T L) else .inl (1, nx T L 0)
def clausesP (T : Nat → Int32) (L : Nat) : Nat → Nat → CS → Out
  | 0, i, D => .inr (i, D)
  | m + 1, i, D => if nx T L i < L then bnd (clauseP T L i D) (clausesP T L m) else .inr (nx T L i, D)
def totalP (T : Nat → Int32) (L : Nat) : Out := if nx T L 0 < L then bnd (firstP T L) (clausesP T L (L + 1)) else .inr (nx T L 0, cs0)
theorem VS0 {n : Nat} (hn : n ≤ 8) : VS (n, 0, fun _ => none, fun _ => [], []) := ⟨hn, by show 0 ≤ 6; omega, fun p hp => absurd hp (Nat.not_lt_zero _), fun p q hp => absurd hp (Nat.not_lt_zero _), fun p hp => absurd hp (Nat.not_lt_zero _), rfl, List.nodup_nil, fun q hq => by cases hq⟩
section TOTP
variable {T : Nat → Int32} {L : Nat}
theorem numP_18 {i : Nat} (hi9 : i ≤ L) {z : Int32 × Nat} (he : numP T L 1 8 i = .inr z) : i < z.2 ∧ z.2 ≤ L ∧ ∃ r, 1 ≤ r ∧ r ≤ 8 ∧ z.1 = nI r := by
  obtain ⟨a, b, c, d⟩ := numP_inr hi9 he
  exact ⟨a, b, (in1 (n := 8) (by omega)).mp ⟨c, d⟩⟩
theorem roomsP_ov {i : Nat} (hi : i ≤ L) : OV L (roomsP T L i) ∧ ∀ z, roomsP T L i = .inr z → i < z.1 ∧ 1 ≤ cN z.2 := by
  unfold roomsP
  cases hn : numP T L 1 8 i with
  | inl e => exact ⟨numP_inl hi hn, fun z hz => by cases hz⟩
  | inr z =>
    obtain ⟨z1, z2, r, hr1, hr8, hz⟩ := numP_18 hi hn
    have hc : z.1.toNatClampNeg = r := by rw [hz]; exact nI_clamp (by omega)
    refine ⟨⟨z2, VS0 (by rw [hc]; exact hr8), rfl⟩, fun y hy => ?_⟩
    cases hy
    exact ⟨z1, by show 1 ≤ z.1.toNatClampNeg; omega⟩
theorem firstP_ov (hj : nx T L 0 < L) : OV L (firstP T L) ∧ ∀ z, firstP T L = .inr z → 0 < z.1 ∧ 1 ≤ cN z.2 := by
  obtain ⟨a, b, c⟩ := nx_le (T := T) (L := L) (i := 0) (by omega)
  unfold firstP
  by_cases h4 : T (nx T L 0) = 114
  · rw [if_pos h4]
    obtain ⟨o1, o2⟩ := roomsP_ov (T := T) (L := L) (i := nx T L 0 + 1) (by omega)
    generalize roomsP T L (nx T L 0 + 1) = o at o1 o2 ⊢
    cases o with
    | inl e => exact ⟨o1, fun z hz => by cases hz⟩
    | inr z =>
      obtain ⟨s1, s2⟩ := semiP_ov (T := T) (i := z.1) (D := z.2) o1
      obtain ⟨q1, q2⟩ := o2 z rfl
      refine ⟨s1, fun y hy => ?_⟩
      obtain ⟨t1, t2⟩ := s2 y hy
      exact ⟨by omega, by rw [t2]; exact q2⟩
  · rw [if_neg h4]
    exact ⟨⟨by show 1 ≤ 1; omega, by show 1 ≤ 4; omega, b⟩, fun z hz => by cases hz⟩
theorem clausesP_ov : ∀ m i D, DVL L i D → OV L (clausesP T L m i D) := by
  intro m
  induction m with
  | zero => intro i D V; exact V
  | succ m ih =>
    intro i D V
    obtain ⟨a, b, c⟩ := nx_le (T := T) V.1
    unfold clausesP
    by_cases hj : nx T L i < L
    · rw [if_pos hj]
      obtain ⟨o1, o2⟩ := clauseP_ov V hj
      generalize clauseP T L i D = o at o1 o2 ⊢
      cases o with
      | inl e => exact o1
      | inr z => exact ih z.1 z.2 o1
    · rw [if_neg hj]; exact ⟨b, V.2⟩
theorem totalP_ov : OV L (totalP T L) := by
  obtain ⟨a, b, c⟩ := nx_le (T := T) (L := L) (i := 0) (by omega)
  unfold totalP
  by_cases hj : nx T L 0 < L
  · rw [if_pos hj]
    obtain ⟨o1, o2⟩ := firstP_ov hj
    generalize firstP T L = o at o1 o2 ⊢
    cases o with
    | inl e => exact o1
    | inr z => exact clausesP_ov _ _ _ o1
  · rw [if_neg hj]; exact ⟨b, VS0 (by omega), rfl⟩
theorem clauseP_nx {i : Nat} {D : CS} (hi : i ≤ L) : clauseP T L (nx T L i) D = clauseP T L i D := by
  unfold clauseP
  rw [nx_nx hi]
end TOTP
/-! the class -/
section TOTC
variable {h0 h : HP} {T : Nat → Int32} {L : Nat} {nm : Int32}
theorem p_readRooms (hL : L ≤ 240) (hj : nx T L 0 < L) (K : KC h0 h L T (-1) 0 (nx T L 0) nm) (V : HV h 8 cs0) : ∃ h', f_X7_readRooms 1 8 h = some h' ∧ CRes h0 L T h' (firstP T L) := by
  have hnn : nx T L (nx T L 0) = nx T L 0 := nx_nx (by omega)
  have VV : DVL L (nx T L 0) cs0 := ⟨by omega, VS0 (by omega), rfl⟩
  obtain ⟨h1, e1, R1⟩ := p_expect hL VV K V (x := 114) (by decide)
  rw [hnn] at R1
  unfold f_X7_readRooms f_X7_readRooms_e f_X7_readRooms_b30 f_X7_readRooms_b39 f_X7_readRooms_b57 firstP
  rw [K.1.chk, e1, bs]
  by_cases h4 : T (nx T L 0) = 114
  · rw [if_pos ⟨hj, h4⟩] at R1
    rw [if_pos h4]
    obtain ⟨⟨nm1, K1⟩, V1⟩ := R1
    have hi1 : nx T L 0 + 1 ≤ L := by omega
    obtain ⟨h2, e2, K2, X2⟩ := p_readNumber hL hi1 K1
    have V2 := V1.fr X2 (by omega)
    obtain ⟨h3, e3, K3, X3⟩ := K2.test (lo := 1) (hi := 8) hi1 hL
    have V3 := V2.fr X3 (by omega)
    rw [K1.1.g 2 rfl, bs, if_pos rfl, e2, bs]
    generalize hz9 : num T (L - nx T L (nx T L 0 + 1)) (nx T L (nx T L 0 + 1)) 0 0 = z9 at e3 K3
    have shape : (if (z9.1, h2).1 < 1 then (gI (z9.1, h2).2 1 7 4).bind fun v1 => (f_X7_fail 1 2 v1 (z9.1, h2).2).bind fun h2_1 => (gI h2_1 1 7 2).bind fun v1 => if v1 = 0 then (pI h2_1 8 3 0 (z9.1, h2).1).bind fun h2 => (f_X7_expect 1 59 h2).bind fun h3 => some h3 else some h2_1 else if (z9.1, h2).1 ≤ 8 then (gI (z9.1, h2).2 1 7 2).bind fun v1 => if v1 = 0 then (pI (z9.1, h2).2 8 3 0 (z9.1, h2).1).bind fun h2 => (f_X7_expect 1 59 h2).bind fun h3 => some h3 else some (z9.1, h2).2 else (gI (z9.1, h2).2 1 7 4).bind fun v1 => (f_X7_fail 1 2 v1 (z9.1, h2).2).bind fun h2_1 => (gI h2_1 1 7 2).bind fun v1 => if v1 = 0 then (pI h2_1 8 3 0 (z9.1, h2).1).bind fun h2 => (f_X7_expect 1 59 h2).bind fun h3 => some h3 else some h2_1) = (gI h3 1 7 2).bind fun v1 => if v1 = 0 then (pI h3 8 3 0 z9.1).bind fun h2 => (f_X7_expect 1 59 h2).bind fun h3 => some h3 else some h3 := by
      by_cases hb : ¬ z9.1 < 1 ∧ ¬ (8 : Int32) < z9.1
      · rw [if_pos hb] at e3
        cases e3
        rw [if_neg hb.1, if_pos (Int32.not_lt.mp hb.2)]
      · rw [if_neg hb] at e3
        obtain ⟨v, ev, e3⟩ := ob e3
        show (if z9.1 < 1 then (gI h2 1 7 4).bind _ else if z9.1 ≤ 8 then _ else (gI h2 1 7 4).bind _) = _
        rw [ev, bs]
        show (if z9.1 < 1 then (f_X7_fail 1 2 v h2).bind _ else if z9.1 ≤ 8 then _ else (f_X7_fail 1 2 v h2).bind _) = _
        rw [e3, bs]
        by_cases h1 : z9.1 < 1
        · rw [if_pos h1]
        · rw [if_neg h1, if_neg (fun q => hb ⟨h1, Int32.not_lt.mpr q⟩)]
    rw [shape]
    unfold roomsP
    cases hn : numP T L 1 8 (nx T L 0 + 1) with
    | inl e =>
      rw [hn] at K3
      obtain ⟨i3, nm3, K3⟩ := K3
      obtain ⟨a, b, c⟩ := numP_inl hi1 hn
      refine ⟨h3, ?_, ⟨_, _, K3⟩, V3.hx⟩
      rw [K3.1.g 2 rfl, bs, if_neg (nz a b)]
    | inr z =>
      rw [hn] at K3
      obtain ⟨hx, K3⟩ := K3
      obtain ⟨z1, z2, r, hr1, hr8, hz⟩ := numP_18 hi1 hn
      have hc : z.1.toNatClampNeg = r := by rw [hz]; exact nI_clamp (by omega)
      show ∃ h', _ ∧ CRes h0 L T h' (semiP T L z.2 (z.1.toNatClampNeg, 0, fun _ => none, fun _ => [], []))
      rw [hc, hx, hz, K3.1.g 2 rfl, bs, if_pos rfl]
      obtain ⟨st, am, lk, od, A3, r3⟩ := V3.hr
      obtain ⟨h4, e4, A4, X4⟩ := A3.p0 (nI r)
      have V4 : HV h4 8 (r, 0, fun _ => none, fun _ => [], []) := HR.hv (S := (r, 0, fun _ => none, fun _ => [], [])) A4 ⟨fun p hp => absurd hp (Nat.not_lt_zero _), fun p hp => absurd hp (Nat.not_lt_zero _), fun p hp => absurd hp (Nat.not_lt_zero _), fun k q hk => by have hk : ([] : List Nat)[k]? = some q := hk; simp at hk⟩
      obtain ⟨h5, e5, R5⟩ := p_expect (i := z.2) (D := (r, 0, fun _ => none, fun _ => [], [])) hL ⟨z2, VS0 hr8, rfl⟩ (K3.hou X4) V4 (x := 59) (by decide)
      exact ⟨h5, by rw [e4, bs, e5, bs], R5⟩
  · rw [if_neg (fun q => h4 q.2)] at R1
    rw [if_neg h4]
    obtain ⟨⟨i1, nm1, K1⟩, V1⟩ := R1
    refine ⟨h1, ?_, ⟨_, _, K1⟩, V1⟩
    rw [K1.1.g 2 rfl, bs, if_neg (nz (e := 1) (by omega) (by omega))]
theorem l_clauses (hL : L ≤ 240) (ht : ∀ j, j < L → ¬ T j < 0) : ∀ m i D, DVL L i D → L - i < m → ∀ n, m < n → ∀ h c, c ≤ i → (∃ nm, KC h0 h L T (-1) 0 i nm) → HV h 8 D → ∃ h', F_X7_readInto_34 n 1 8 (nI c) h = f_X7_readInto_b67 1 h' ∧ CRes h0 L T h' (clausesP T L m i D) := by
  intro m
  induction m with
  | zero => intro i D V hm; omega
  | succ m ih =>
    intro i D VV hm n hn h c hc K V
    obtain ⟨n, rfl⟩ := sx hn
    obtain ⟨nm, K⟩ := K
    obtain ⟨a, b, d⟩ := nx_le (T := T) VV.1
    have hiL := VV.1
    unfold clausesP
    by_cases h240 : 240 ≤ c
    · have hii : i = L := by omega
      have hnn : nx T L i = i := by omega
      rw [if_neg (by omega), hnn]
      refine ⟨h, ?_, ⟨_, K⟩, V⟩
      show f_X7_readInto_b34 _ _ _ _ _ = _
      unfold f_X7_readInto_b34
      rw [if_pos (show (240 : Int32) ≤ nI c from nI_le (a := 240) h240 (by omega))]
    · obtain ⟨h1, e1, K1, X1⟩ := p_peek hL VV.1 K
      have V1 := V.fr X1 (by omega)
      have pre : F_X7_readInto_34 (n + 1) 1 8 (nI c) h = if (if nx T L i < L then T (nx T L i) else -1) = -1 then f_X7_readInto_b67 1 h1 else (f_X7_readClause 1 8 h1).bind fun h3 => F_X7_readInto_34 n 1 8 (nI (c + 1)) h3 := by
        show f_X7_readInto_b34 _ _ _ _ _ = _
        unfold f_X7_readInto_b34
        rw [if_neg (show ¬ (240 : Int32) ≤ nI c from nI_ge (b := 240) (by omega) (by omega)), K.1.g 2 rfl, bs, if_pos rfl, e1, bs, nI_1]
      rw [pre]
      by_cases hj : nx T L i < L
      · rw [if_pos hj, if_pos hj, if_neg (fun q => ht _ hj (by rw [q]; decide))]
        obtain ⟨h2, e2, R2⟩ := p_readClause (i := nx T L i) (D := D) hL ⟨b, VV.2⟩ (by rw [nx_nx hiL]; exact hj) K1 V1
        rw [clauseP_nx hiL] at R2
        obtain ⟨o1, o2⟩ := clauseP_ov VV hj
        rw [e2, bs]
        generalize clauseP T L i D = o at R2 o1 o2 ⊢
        cases o with
        | inl e =>
          obtain ⟨⟨i3, nm3, K3⟩, V3⟩ := R2
          refine ⟨h2, ?_, ⟨_, _, K3⟩, V3⟩
          obtain ⟨n, rfl⟩ := sx (show 0 < n by omega)
          show f_X7_readInto_b34 _ _ _ _ _ = _
          unfold f_X7_readInto_b34
          rw [K3.1.g 2 rfl, bs, if_neg (nz o1.1 o1.2.1)]
          split <;> rfl
        | inr z =>
          obtain ⟨q1, q2⟩ := o2 z rfl
          exact ih z.1 z.2 o1 (by omega) n (by omega) h2 (c + 1) (by omega) R2.1 R2.2
      · rw [if_neg hj, if_neg hj, if_pos rfl]
        exact ⟨h1, rfl, ⟨_, K1⟩, V1⟩
/-- as it lies behind a reading -/
def CT (h0 h' : HP) (T : Nat → Int32) (x : Int32) (o : Out) : Prop := IA h' 2 240 T ∧ (∀ j, (j = 0 ∨ (3 ≤ j ∧ j < 8) ∨ 13 ≤ j) → h'[j]? = h0[j]?) ∧ (match o with
  | .inl e => x = nI e.1 ∧ (∃ b c d, OB h' 1 7 [.inl 0, .inl (nI e.2), .inl b, .inl c, .inl d, .inr (some 2)]) ∧ HX h' 8
  | .inr z => x = 0 ∧ (∃ b c d, OB h' 1 7 [.inl 0, .inl (-1), .inl b, .inl c, .inl d, .inr (some 2)]) ∧ HV h' 8 z.2)
theorem p_b67 {o : Out} (R : CRes h0 L T h o) : ∃ x h', f_X7_readInto_b67 1 h = some (x, h') ∧ CT h0 h' T x o := by
  unfold f_X7_readInto_b67
  cases o with
  | inl e =>
    obtain ⟨⟨i, nm, k1, k2, k3⟩, V⟩ := R
    obtain ⟨h', e1, o1, X⟩ := k1.w 0 0 (gs := [.inl 0, .inl (nI e.2), .inl (nI e.1), .inl (nI i), .inl nm, .inr (some 2)]) rfl (Nat.le_of_ble_eq_true rfl)
    exact ⟨nI e.1, h', by rw [e1, bs, o1.g 2 rfl, bs], k2.eq (X _ (by omega)), fun j hj => (X j (by omega)).trans (k3 j hj), rfl, ⟨_, _, _, o1⟩, V.fr X (by omega)⟩
  | inr z =>
    obtain ⟨⟨nm, k1, k2, k3⟩, V⟩ := R
    obtain ⟨h', e1, o1, X⟩ := k1.w 0 0 (gs := [.inl 0, .inl (-1), .inl 0, .inl (nI z.1), .inl nm, .inr (some 2)]) rfl (Nat.le_of_ble_eq_true rfl)
    exact ⟨0, h', by rw [e1, bs, o1.g 2 rfl, bs], k2.eq (X _ (by omega)), fun j hj => (X j (by omega)).trans (k3 j hj), rfl, ⟨_, _, _, o1⟩, V.fr X (by omega)⟩
theorem p_readInto (hL : L ≤ 240) (ht : ∀ j, j < L → ¬ T j < 0) {fa b c d : Int32} (o : OB h 1 7 [.inl (nI L), .inl fa, .inl b, .inl c, .inl d, .inr (some 2)]) (a : IA h 2 240 T) (V : HX h 8) : ∃ x h', f_X7_readInto 1 8 h = some (x, h') ∧ CT h h' T x (totalP T L) := by
  obtain ⟨h1, e1, V1, X1⟩ := p_clear V
  have o1 := o.eq (X1 1 (by omega))
  obtain ⟨h2, e2, o2, X2⟩ := o1.w 3 0 (gs := [.inl (nI L), .inl fa, .inl b, .inl 0, .inl d, .inr (some 2)]) rfl (Nat.le_of_ble_eq_true rfl)
  obtain ⟨h3, e3, o3, X3⟩ := o2.w 2 0 (gs := [.inl (nI L), .inl fa, .inl 0, .inl 0, .inl d, .inr (some 2)]) rfl (Nat.le_of_ble_eq_true rfl)
  obtain ⟨h4, e4, o4, X4⟩ := o3.w 1 (-1) (gs := [.inl (nI L), .inl (-1), .inl 0, .inl 0, .inl d, .inr (some 2)]) rfl (Nat.le_of_ble_eq_true rfl)
  have XX := (X2.trans X3).trans X4
  have K4 : KC h h4 L T (-1) 0 0 d := ⟨o4, (a.eq (X1 2 (by omega))).eq (XX 2 (by omega)), fun j hj => (XX j (by omega)).trans (X1 j (by omega))⟩
  have V4 := V1.fr XX (by omega)
  obtain ⟨h5, e5, K5, X5⟩ := p_peek hL (Nat.zero_le _) K4
  have V5 := V4.fr X5 (by omega)
  have pre : f_X7_readInto 1 8 h = if (if nx T L 0 < L then T (nx T L 0) else -1) = -1 then f_X7_readInto_b67 1 h5 else (f_X7_readRooms 1 8 h5).bind fun h6 => F_X7_readInto_34 FU 1 8 0 h6 := by
    unfold f_X7_readInto f_X7_readInto_e
    rw [o.chk, e1, bs, e2, bs, e3, bs, e4, bs, e5, bs]
  rw [pre]
  unfold totalP
  by_cases hj : nx T L 0 < L
  · rw [if_pos hj, if_pos hj, if_neg (fun q => ht _ hj (by rw [q]; decide))]
    obtain ⟨h6, e6, R6⟩ := p_readRooms hL hj K5 V5
    obtain ⟨o1, o2⟩ := firstP_ov hj
    rw [e6, bs]
    generalize firstP T L = oo at R6 o1 o2 ⊢
    cases oo with
    | inl e =>
      obtain ⟨x, h7, e7, R7⟩ := p_b67 R6
      refine ⟨x, h7, ?_, R7⟩
      obtain ⟨⟨i3, nm3, K3⟩, V3⟩ := R6
      rw [← e7]
      show f_X7_readInto_b34 _ _ _ _ _ = _
      unfold f_X7_readInto_b34
      rw [if_neg (by decide), K3.1.g 2 rfl, bs, if_neg (nz o1.1 o1.2.1)]
    | inr z =>
      obtain ⟨h7, e7, R7⟩ := l_clauses hL ht (L + 1) z.1 z.2 o1 (by omega) FU (fu_lt (by omega)) h6 0 (by omega) R6.1 R6.2
      obtain ⟨x, h8, e8, R8⟩ := p_b67 R7
      exact ⟨x, h8, (show F_X7_readInto_34 FU 1 8 (nI 0) h6 = _ from e7).trans e8, R8⟩
  · rw [if_neg hj, if_neg hj, if_pos rfl]
    exact p_b67 (o := .inr (nx T L 0, cs0)) ⟨⟨_, K5⟩, V5⟩
end TOTC
/-! the reference -/
section TOTM
variable {h1 h : HP} {F0 : Nat → Int32} {A0 : AT} {T : Nat → Int32} {L : Nat} {D : CS} {i : Nat}
/-- it begins a clause: the word, behind it -/
theorem clause_pre (hL : L ≤ 240) (f6 : F0 6 = nI L) (tx : ∀ j, j < L → A0 1 j = T j) (VV : DVL L i D) (hj : nx T L i < L) {pc : Nat} (G : MOK h1 F0 A0 pc i D h) : ∃ h3, f_X9_readClause 142 h = (if T (nx T L i) = 114 then f_X9_readClause_b38 142 (T (nx T L i)) (nI (nx T L i)) h3 else if T (nx T L i) = 116 then f_X9_readClause_b38 142 (T (nx T L i)) (nI (nx T L i)) h3 else if T (nx T L i) = 110 then f_X9_readClause_b38 142 (T (nx T L i)) (nI (nx T L i)) h3 else f_X9_readClause_b43 142 (T (nx T L i)) (nI (nx T L i)) 0 h3) ∧ MOK h1 F0 A0 pc (nx T L i + 1) D h3 := by
  obtain ⟨F, A, K, g19, g20, g22, g23, R⟩ := G
  have hi := VV.1
  obtain ⟨h2, F2, e2, M2, r19, fq, X2⟩ := p_here hL (K.tx tx) K.1 (K.f6 f6) (show i ≤ 300 by omega) g19
  rw [if_pos hj] at e2
  have K2 : MK h1 F0 A0 h2 F2 A := K.to M2 X2 (fun q hq => fq q (by omega)) AS.rfl
  obtain ⟨h3, e3, M3, X3⟩ := M2.p 19 (nI (nx T L i + 1)) rfl (by omega)
  refine ⟨h3, ?_, ⟨_, A, K2.to M3 X3 (fun q hq => un (by omega)) AS.rfl, us, (un (by omega)).trans ((fq 20 (by omega)).trans g20), (un (by omega)).trans ((fq 22 (by omega)).trans g22), (un (by omega)).trans ((fq 23 (by omega)).trans g23), R⟩⟩
  unfold f_X9_readClause f_X9_readClause_e
  rw [K.1.chk, e2, bs]
  show (gI h2 142 9 19).bind _ = _
  rw [M2.g 19 rfl, bs, r19, bs, nI_1]
  show (pI h2 142 9 19 (nI (nx T L i + 1))).bind _ = _
  rw [e3, bs]
/-- a fault, and the end of the clause is passed over -/
theorem clause_bad (hL : L ≤ 240) (f6 : F0 6 = nI L) (tx : ∀ j, j < L → A0 1 j = T j) {c w pc : Nat} (hc1 : 1 ≤ c) (hc4 : c ≤ 4) (hw : w ≤ L) (hi : i ≤ 300) (G : MOK h1 F0 A0 pc i D h) : ∃ h', ((f_X9_fail 142 (nI c) (nI w) h).bind fun h1 => f_X9_readClause_b132 142 h1) = some h' ∧ MR h1 F0 A0 cP h' (.inl (c, w)) := by
  obtain ⟨F, A, K, g19, g20, g22, g23, R⟩ := G
  obtain ⟨h2, e2, M2, X2⟩ := p_failM0 K.1 g20 (nI c) (nI w)
  have B : MR h1 F0 A0 cP h2 (.inl (c, w)) := ⟨_, A, K.to M2 X2 (fun q hq => (un (by omega)).trans (un (by omega))) AS.rfl, (un (by omega)).trans us, us, i, hi, (un (by omega)).trans ((un (by omega)).trans g19)⟩
  obtain ⟨h3, e3, R3⟩ := p_b132 (T := T) hL f6 tx (o := .inl (c, w)) ⟨hc1, hc4, hw⟩ B
  exact ⟨h3, by rw [e2, bs, e3], R3⟩
theorem p_readClauseM (hL : L ≤ 240) (f6 : F0 6 = nI L) (tx : ∀ j, j < L → A0 1 j = T j) (VV : DVL L i D) (hN : 1 ≤ cN D) (hj : nx T L i < L) (G : MOK h1 F0 A0 (cP D) i D h) : ∃ h', f_X9_readClause 142 h = some h' ∧ MR h1 F0 A0 cP h' (clauseP T L i D) := by
  obtain ⟨a, b, d⟩ := nx_le (T := T) VV.1
  have hP := VV.2.1.p6
  have hN8 := VV.2.1.n8
  obtain ⟨h3, e3, G3⟩ := clause_pre hL f6 tx VV hj G
  rw [e3]
  obtain ⟨F, A, K, g19, g20, g22, g23, R⟩ := id G3
  unfold f_X9_readClause_b38 f_X9_readClause_b43 f_X9_readClause_b61 f_X9_readClause_b70 f_X9_readClause_b83 f_X9_readClause_b98 f_X9_readClause_b107 clauseP
  rw [K.1.g 22 rfl, bs, g22, bs, K.1.g 23 rfl, bs, g23]
  by_cases h4 : T (nx T L i) = 114
  · obtain ⟨h5, e5, R5⟩ := clause_bad hL f6 tx (c := 3) (w := nx T L i) (by omega) (by omega) b (by omega) G3
    rw [if_neg (show ¬ ¬ (T (nx T L i) = 114 ∨ T (nx T L i) = 116 ∨ T (nx T L i) = 110) from fun q => q (Or.inl h4)), if_pos (show T (nx T L i) = 114 ∨ ¬ cP D < 6 from Or.inl h4)]
    refine ⟨h5, ?_, R5⟩
    rw [if_pos h4, if_neg (by decide), if_pos h4, if_pos h4, if_pos (show (0 : Int32) < nI (cN D) from nI_lt (a := 0) (by omega) (by omega))]
    exact e5
  · have shape : ∀ X : Option HP, (if T (nx T L i) = 116 ∨ T (nx T L i) = 110 then True else True) → X = X := fun X _ => rfl
    by_cases hw : T (nx T L i) = 116 ∨ T (nx T L i) = 110
    · rw [if_neg (show ¬ ¬ (T (nx T L i) = 114 ∨ T (nx T L i) = 116 ∨ T (nx T L i) = 110) from fun q => q (Or.inr hw))]
      have one : ∀ X Y : Option HP, (if T (nx T L i) = 114 then X else if T (nx T L i) = 116 then X else if T (nx T L i) = 110 then X else Y) = X := fun X Y => by
        rw [if_neg h4]
        rcases hw with w | w
        · rw [if_pos w]
        · rw [if_pos w]; split <;> rfl
      rw [one, if_neg (by decide), if_neg h4, if_neg (nI_ne0 (by omega) (by omega)), if_neg h4, if_neg h4, if_neg h4]
      by_cases h6 : cP D < 6
      · rw [if_neg (show ¬ (T (nx T L i) = 114 ∨ ¬ cP D < 6) from fun q => q.elim h4 (fun r => r h6)), if_neg (show ¬ nI (cP D) = (6 : Int32) from fun q => by have := (nI_eq (b := 6) (by omega) (by omega)).mp q; omega)]
        obtain ⟨h5, e5, R5⟩ := p_readPerson (i := nx T L i) (D := D) hL f6 tx ⟨b, VV.2⟩ hj h6 G3
        obtain ⟨p1, p2⟩ := persP_ov (T := T) (i := nx T L i) (D := D) ⟨b, VV.2⟩ h6 hj
        obtain ⟨h6', e6, R6⟩ := p_b132 hL f6 tx p1 R5
        exact ⟨h6', by rw [e5, bs, e6], R6⟩
      · rw [if_pos (show T (nx T L i) = 114 ∨ ¬ cP D < 6 from Or.inr h6), if_pos (show nI (cP D) = (6 : Int32) by rw [show cP D = 6 by omega]; rfl)]
        exact clause_bad hL f6 tx (c := 3) (w := nx T L i) (by omega) (by omega) b (by omega) G3
    · have hn : ¬ (T (nx T L i) = 114 ∨ T (nx T L i) = 116 ∨ T (nx T L i) = 110) := fun q => q.elim h4 hw
      rw [if_pos hn, if_neg h4, if_neg (fun q => hw (Or.inl q)), if_neg (fun q => hw (Or.inr q)), if_pos rfl]
      exact clause_bad hL f6 tx (c := 1) (w := nx T L i) (by omega) (by omega) b (by omega) G3
theorem p_firstM (hL : L ≤ 240) (f6 : F0 6 = nI L) (tx : ∀ j, j < L → A0 1 j = T j) (hj : nx T L 0 < L) (G : MOK h1 F0 A0 0 (nx T L 0) cs0 h) : ∃ h', f_X9_readClause 142 h = some h' ∧ MR h1 F0 A0 cP h' (firstP T L) := by
  have hnn : nx T L (nx T L 0) = nx T L 0 := nx_nx (by omega)
  have VV : DVL L (nx T L 0) cs0 := ⟨by omega, VS0 (by omega), rfl⟩
  obtain ⟨h3, e3, G3⟩ := clause_pre hL f6 tx VV (by rw [hnn]; exact hj) G
  rw [hnn] at e3 G3
  rw [e3]
  obtain ⟨F, A, K, g19, g20, g22, g23, R⟩ := id G3
  have g22 : F 22 = nI 0 := g22
  unfold f_X9_readClause_b38 f_X9_readClause_b43 f_X9_readClause_b61 f_X9_readClause_b70 f_X9_readClause_b83 f_X9_readClause_b98 f_X9_readClause_b107 firstP
  rw [K.1.g 22 rfl, bs, g22, bs, K.1.g 23 rfl, bs, g23]
  by_cases h4 : T (nx T L 0) = 114
  · rw [if_pos h4, if_pos h4, if_neg (by decide), if_pos h4, if_pos h4, if_neg (by decide), if_pos h4, if_pos h4]
    have hi1 : nx T L 0 + 1 ≤ L := by omega
    obtain ⟨x, h5, F5, e5, M5, mn, fn, g24, X5⟩ := p_number hL (K.tx tx) K.1 (K.f6 f6) hi1 g19 g20 1 8
    have K5 : MK h1 F0 A0 h5 F5 A := K.to M5 X5 (fun q hq => fn q (by omega) (by omega) (by omega) (by omega)) AS.rfl
    have q23 : F5 23 = nI 0 := (fn 23 (by omega) (by omega) (by omega) (by omega)).trans g23
    obtain ⟨h6, e6, M6, X6⟩ := M5.p 22 x rfl (by omega)
    have K6 : MK h1 F0 A0 h6 _ A := K5.to M6 X6 (fun q hq => un (by omega)) AS.rfl
    obtain ⟨o1, o2⟩ := roomsP_ov (T := T) (L := L) (i := nx T L 0 + 1) hi1
    have R6 : MR h1 F0 A0 cP h6 (roomsP T L (nx T L 0 + 1)) := by
      unfold roomsP
      cases hn : numP T L 1 8 (nx T L 0 + 1) with
      | inl e =>
        rw [hn] at mn
        obtain ⟨m1, m2, i3, m3, m4⟩ := mn
        exact ⟨_, A, K6, (un (by omega)).trans m1, (un (by omega)).trans m2, i3, by omega, (un (by omega)).trans m4⟩
      | inr z =>
        rw [hn] at mn
        obtain ⟨m1, m2, m3⟩ := mn
        obtain ⟨z1, z2, r, hr1, hr8, hz⟩ := numP_18 hi1 hn
        have hc : z.1.toNatClampNeg = r := by rw [hz]; exact nI_clamp (by omega)
        refine ⟨_, A, K6, (un (by omega)).trans m3, (un (by omega)).trans m2, ?_, (un (by omega)).trans q23, fun p hp => absurd hp (Nat.not_lt_zero _), fun p hp => absurd hp (Nat.not_lt_zero _), fun p hp => absurd hp (Nat.not_lt_zero _), trivial⟩
        show _ = nI z.1.toNatClampNeg
        rw [us, hc, m1, hz]
    obtain ⟨h7, e7, R7⟩ := p_b132 hL f6 tx o1 R6
    refine ⟨h7, ?_, R7⟩
    rw [e5, bs]
    show (pI h5 142 9 22 x).bind _ = _
    rw [e6, bs, e7]
  · obtain ⟨h5, e5, R5⟩ := clause_bad hL f6 tx (c := 1) (w := nx T L 0) (by omega) (by omega) (by omega) (by omega) G3
    refine ⟨h5, ?_, by rw [if_neg h4]; exact R5⟩
    rw [← e5]
    show _ = (f_X9_fail 142 1 (nI (nx T L 0)) h3).bind _
    rw [if_neg h4]
    by_cases h6 : T (nx T L 0) = 116
    · rw [if_pos h6, if_neg (show ¬ (1 : Int32) = 0 by decide), if_neg h4, if_pos (show nI 0 = 0 from rfl)]
    · rw [if_neg h6]
      by_cases h0 : T (nx T L 0) = 110
      · rw [if_pos h0, if_neg (show ¬ (1 : Int32) = 0 by decide), if_neg h4, if_pos (show nI 0 = 0 from rfl)]
      · rw [if_neg h0, if_pos (show (0 : Int32) = 0 from rfl)]
theorem l_clausesM (hL : L ≤ 240) (f6 : F0 6 = nI L) (tx : ∀ j, j < L → A0 1 j = T j) : ∀ m i D, DVL L i D → 1 ≤ cN D → L - i < m → ∀ n, m < n → ∀ h, MOK h1 F0 A0 (cP D) (nx T L i) D h → ∃ h', F_X9_hostel_30 n 142 h = f_X9_hostel_b60 142 h' ∧ MR h1 F0 A0 cP h' (clausesP T L m i D) := by
  intro m
  induction m with
  | zero => intro i D V _ hm; omega
  | succ m ih =>
    intro i D VV hN hm n hn h G
    obtain ⟨n, rfl⟩ := sx hn
    obtain ⟨a, b, d⟩ := nx_le (T := T) VV.1
    obtain ⟨F, A, K, g19, g20, g22, g23, R⟩ := id G
    have pre : F_X9_hostel_30 (n + 1) 142 h = if nI L ≤ nI (nx T L i) then f_X9_hostel_b60 142 h else (f_X9_readClause 142 h).bind fun h4 => (f_X9_here 142 h4).bind fun q5 => F_X9_hostel_30 n 142 q5.2 := by
      show f_X9_hostel_b30 _ _ _ = _
      unfold f_X9_hostel_b30
      rw [fine0 K.1 g20, bs, if_neg (show ¬ (1 : Int32) = 0 by decide)]
      show (gI h 142 9 19).bind _ = _
      rw [K.1.g 19 rfl, bs, g19]
      show (gI h 142 9 6).bind _ = _
      rw [K.1.g 6 rfl, bs, K.f6 f6]
    rw [pre]
    unfold clausesP
    by_cases hj : nx T L i < L
    · rw [if_neg (nI_ge hj (by omega)), if_pos hj]
      have VV2 : DVL L (nx T L i) D := ⟨b, VV.2⟩
      obtain ⟨h2, e2, R2⟩ := p_readClauseM hL f6 tx VV2 hN (by rw [nx_nx VV.1]; exact hj) G
      rw [clauseP_nx VV.1] at R2
      obtain ⟨o1, o2⟩ := clauseP_ov VV hj
      rw [e2, bs]
      generalize clauseP T L i D = o at R2 o1 o2 ⊢
      cases o with
      | inl e =>
        obtain ⟨F3, A3, K3, s20, s21, i3, hi3, s19⟩ := R2
        obtain ⟨h4, F4, e4, M4, r19, fq, X4⟩ := p_here hL (K3.tx tx) K3.1 (K3.f6 f6) hi3 s19
        have K4 : MK h1 F0 A0 h4 F4 A3 := K3.to M4 X4 (fun q hq => fq q (by omega)) AS.rfl
        have r20 : F4 20 = nI e.1 := (fq 20 (by omega)).trans s20
        have hle : nx T L i3 ≤ 300 := by
          rcases Nat.lt_or_ge L i3 with z | z
          · have : nx T L i3 = i3 := by unfold nx; rw [show L - i3 = 0 by omega]; rfl
            omega
          · have := (nx_le (T := T) z).2.1
            omega
        refine ⟨h4, ?_, ⟨F4, A3, K4, r20, (fq 21 (by omega)).trans s21, _, hle, r19⟩⟩
        rw [e4, bs]
        obtain ⟨n, rfl⟩ := sx (show 0 < n by omega)
        show f_X9_hostel_b30 _ _ _ = _
        unfold f_X9_hostel_b30
        rw [fine1 M4 (by rw [r20]; exact nz o1.1 o1.2.1), bs, if_pos (by rfl)]
      | inr z =>
        obtain ⟨q1, q2⟩ := o2 z rfl
        obtain ⟨F3, A3, K3, s19, s20, s22, s23, R3⟩ := R2
        have hz : z.1 ≤ L := o1.1
        obtain ⟨h4, F4, e4, M4, r19, fq, X4⟩ := p_here hL (K3.tx tx) K3.1 (K3.f6 f6) (show z.1 ≤ 300 by omega) s19
        rw [e4, bs]
        exact ih z.1 z.2 o1 (by rw [q2]; exact hN) (by omega) n (by omega) h4 ⟨F4, A3, K3.to M4 X4 (fun q hq => fq q (by omega)) AS.rfl, r19, (fq 20 (by omega)).trans s20, (fq 22 (by omega)).trans s22, (fq 23 (by omega)).trans s23, R3⟩
    · rw [if_pos (nI_le (by omega) (by omega)), if_neg hj]
      exact ⟨h, rfl, G⟩
theorem p_hostelM {F : Nat → Int32} {A : AT} (hL : L ≤ 240) (M : MM h F A) (f6 : F 6 = nI L) (tx : ∀ j, j < L → A 1 j = T j) : ∃ h', f_X9_hostel 142 h = f_X9_hostel_b60 142 h' ∧ MR h (upd F 7 (-1)) A cP h' (totalP T L) := by
  obtain ⟨h2, e2, M2, X2⟩ := M.p 19 0 rfl (by omega)
  obtain ⟨h3, e3, M3, X3⟩ := M2.p 20 0 rfl (by omega)
  obtain ⟨h4, e4, M4, X4⟩ := M3.p 7 (-1) rfl (by omega)
  obtain ⟨h5, e5, M5, X5⟩ := M4.p 22 0 rfl (by omega)
  obtain ⟨h6, e6, M6, X6⟩ := M5.p 23 0 rfl (by omega)
  have X := (((X2.trans X3).trans X4).trans X5).trans X6
  have K6 : MK h (upd F 7 (-1)) A h6 _ A := ⟨M6, fun j hj => X j (by omega), fun q hq => by
    rw [un (by omega), un (by omega)]
    by_cases h7 : q = 7
    · rw [h7, us, us]
    · rw [un h7, un (by omega), un (by omega), un h7], AS.rfl⟩
  have f60 : upd F 7 (-1) 6 = nI L := (un (by omega)).trans f6
  obtain ⟨h7, F7, e7, M7, r19, fq, X7⟩ := p_here (i := 0) hL tx M6 (K6.f6 f60) (by omega) ((un (by omega)).trans ((un (by omega)).trans ((un (by omega)).trans ((un (by omega)).trans us))))
  have K7 : MK h (upd F 7 (-1)) A h7 F7 A := K6.to M7 X7 (fun q hq => fq q (by omega)) AS.rfl
  have G7 : MOK h (upd F 7 (-1)) A 0 (nx T L 0) cs0 h7 := ⟨F7, A, K7, r19, (fq 20 (by omega)).trans ((un (by omega)).trans ((un (by omega)).trans ((un (by omega)).trans us))), (fq 22 (by omega)).trans ((un (by omega)).trans us), (fq 23 (by omega)).trans us, fun p hp => absurd hp (Nat.not_lt_zero _), fun p hp => absurd hp (Nat.not_lt_zero _), fun p hp => absurd hp (Nat.not_lt_zero _), trivial⟩
  have pre : f_X9_hostel 142 h = F_X9_hostel_30 FU 142 h7 := by
    unfold f_X9_hostel f_X9_hostel_e
    rw [M.chk, e2, bs, e3, bs, e4, bs, e5, bs, e6, bs, e7, bs]
  rw [pre]
  obtain ⟨F, A, K, g19, g20, g22, g23, R⟩ := id G7
  have pre2 : F_X9_hostel_30 FU 142 h7 = if nI L ≤ nI (nx T L 0) then f_X9_hostel_b60 142 h7 else (f_X9_readClause 142 h7).bind fun h4 => (f_X9_here 142 h4).bind fun q5 => F_X9_hostel_30 3999 142 q5.2 := by
    show f_X9_hostel_b30 _ _ _ = _
    unfold f_X9_hostel_b30
    rw [fine0 K.1 g20, bs, if_neg (show ¬ (1 : Int32) = 0 by decide)]
    show (gI h7 142 9 19).bind _ = _
    rw [K.1.g 19 rfl, bs, g19]
    show (gI h7 142 9 6).bind _ = _
    rw [K.1.g 6 rfl, bs, K.f6 f60]
  rw [pre2]
  obtain ⟨a, b, d⟩ := nx_le (T := T) (L := L) (i := 0) (by omega)
  unfold totalP
  by_cases hj : nx T L 0 < L
  · rw [if_neg (nI_ge hj (by omega)), if_pos hj]
    obtain ⟨h8, e8, R8⟩ := p_firstM hL f60 tx hj G7
    obtain ⟨o1, o2⟩ := firstP_ov hj
    rw [e8, bs]
    generalize firstP T L = o at R8 o1 o2 ⊢
    cases o with
    | inl e =>
      obtain ⟨F3, A3, K3, s20, s21, i3, hi3, s19⟩ := R8
      obtain ⟨h4, F4, e4, M4, r19, fq, X4⟩ := p_here hL (K3.tx tx) K3.1 (K3.f6 f60) hi3 s19
      have K4 := K3.to M4 X4 (fun q hq => fq q (by omega)) AS.rfl
      have r20 : F4 20 = nI e.1 := (fq 20 (by omega)).trans s20
      have hle : nx T L i3 ≤ 300 := by
        rcases Nat.lt_or_ge L i3 with z | z
        · have : nx T L i3 = i3 := by unfold nx; rw [show L - i3 = 0 by omega]; rfl
          omega
        · have := (nx_le (T := T) z).2.1
          omega
      refine ⟨h4, ?_, ⟨F4, A3, K4, r20, (fq 21 (by omega)).trans s21, _, hle, r19⟩⟩
      rw [e4, bs]
      show f_X9_hostel_b30 _ _ _ = _
      unfold f_X9_hostel_b30
      rw [fine1 M4 (by rw [r20]; exact nz o1.1 o1.2.1), bs, if_pos (by rfl)]
    | inr z =>
      obtain ⟨q1, q2⟩ := o2 z rfl
      obtain ⟨F3, A3, K3, s19, s20, s22, s23, R3⟩ := R8
      have hz : z.1 ≤ L := o1.1
      obtain ⟨h4, F4, e4, M4, r19, fq, X4⟩ := p_here hL (K3.tx tx) K3.1 (K3.f6 f60) (show z.1 ≤ 300 by omega) s19
      rw [e4, bs]
      exact l_clausesM hL f60 tx (L + 1) z.1 z.2 o1 q2 (by omega) 3999 (by omega) h4 ⟨F4, A3, K3.to M4 X4 (fun q hq => fq q (by omega)) AS.rfl, r19, (fq 20 (by omega)).trans s20, (fq 22 (by omega)).trans s22, (fq 23 (by omega)).trans s23, R3⟩
  · rw [if_pos (nI_le (by omega) (by omega)), if_neg hj]
    exact ⟨h7, rfl, G7⟩
end TOTM
