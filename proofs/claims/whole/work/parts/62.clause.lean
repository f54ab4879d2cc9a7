/-! likes, seats, clauses: what comes out, purely -/
abbrev Out : Type := (Nat × Nat) ⊕ (Nat × CS)
def likeP (T : Nat → Int32) (L : Nat) (D : CS) (p i : Nat) : Out := match numP T L 0 (nI (cN D) - 1) i with
  | .inl e => .inl e
  | .inr z => if idx z.1.toNatClampNeg (cL D p) = none then .inr (z.2, setLk D p (cL D p ++ [z.1.toNatClampNeg])) else .inl (4, nx T L i)
def seatP (T : Nat → Int32) (L : Nat) (D : CS) (p i : Nat) : Out := match numP T L 0 (nI (cN D) - 1) i with
  | .inl e => .inl e
  | .inr z => if sitC D z.1.toNatClampNeg = none then .inr (z.2, setSeat D p (some z.1.toNatClampNeg)) else .inl (4, nx T L i)
def likesP (T : Nat → Int32) (L p : Nat) : Nat → Nat → CS → Out
  | 0, i, D => .inr (i, D)
  | m + 1, i, D => if nx T L i < L ∧ T (nx T L i) = 44 then (match likeP T L D p (nx T L i + 1) with
      | .inl e => .inl e
      | .inr z => likesP T L p m z.1 z.2) else .inr (nx T L i, D)
def semiP (T : Nat → Int32) (L i : Nat) (D : CS) : Out := if nx T L i < L ∧ T (nx T L i) = 59 then .inr (nx T L i + 1, D) else .inl (1, nx T L i)
def bnd (o : Out) (f : Nat → CS → Out) : Out := match o with
  | .inl e => .inl e
  | .inr z => f z.1 z.2
/-- a state of reading that may go on -/
def DVL (L i : Nat) (D : CS) : Prop := i ≤ L ∧ VS D ∧ cO D = List.range (cP D)
def OV (L : Nat) : Out → Prop
  | .inl e => 1 ≤ e.1 ∧ e.1 ≤ 4 ∧ e.2 ≤ L
  | .inr z => DVL L z.1 z.2
section PUR
variable {T : Nat → Int32} {L : Nat} {D : CS} {i p : Nat}
theorem numP_inl {lo hi : Int32} (hi9 : i ≤ L) {e : Nat × Nat} (he : numP T L lo hi i = .inl e) : 1 ≤ e.1 ∧ e.1 ≤ 4 ∧ e.2 ≤ L := by
  obtain ⟨a, b, c⟩ := nx_le (T := T) hi9
  unfold numP at he
  split at he
  · cases he; exact ⟨show 1 ≤ 1 by omega, show 1 ≤ 4 by omega, b⟩
  · split at he
    · cases he; exact ⟨show 1 ≤ 2 by omega, show 2 ≤ 4 by omega, b⟩
    · split at he
      · cases he
      · cases he; exact ⟨show 1 ≤ 2 by omega, show 2 ≤ 4 by omega, b⟩
theorem numP_inr {lo hi : Int32} (hi9 : i ≤ L) {z : Int32 × Nat} (he : numP T L lo hi i = .inr z) : i < z.2 ∧ z.2 ≤ L ∧ ¬ z.1 < lo ∧ ¬ hi < z.1 := by
  obtain ⟨a, b, c⟩ := nx_le (T := T) hi9
  obtain ⟨n1, n2, n3⟩ := num_le (T := T) (L - nx T L i) (nx T L i) 0 0
  unfold numP at he
  generalize num T (L - nx T L i) (nx T L i) 0 0 = y at he n1 n2 n3
  split at he
  · cases he
  · split at he
    · cases he
    · split at he
      · rename_i h1 h2 h3
        cases he
        exact ⟨by show i < y.2.1; omega, by show y.2.1 ≤ L; omega, h3.1, h3.2⟩
      · cases he
theorem numP_room (Y : VS D) (hi9 : i ≤ L) {z : Int32 × Nat} (he : numP T L 0 (nI (cN D) - 1) i = .inr z) : i < z.2 ∧ z.2 ≤ L ∧ ∃ r, r < cN D ∧ z.1 = nI r := by
  have hN := Y.n8
  obtain ⟨a, b, c, d⟩ := numP_inr hi9 he
  exact ⟨a, b, (in_iff (by omega)).mp ⟨c, d⟩⟩
theorem add_ok (Y : VS D) (hp : p < cP D) {r : Nat} (hr : r < cN D) (hi : idx r (cL D p) = none) : (cL D p).length < 8 ∧ VS (setLk D p (cL D p ++ [r])) := by
  have hN := Y.n8
  have hnd : (r :: cL D p).Nodup := List.nodup_cons.mpr ⟨idx_none.mp hi, (Y.2.2.2.2.1 p hp).1⟩
  have hl := nodup_len (cN D) (r :: cL D p) hnd (fun x hx => by
    rcases List.mem_cons.mp hx with h | h
    · rw [h]; exact hr
    · exact (Y.2.2.2.2.1 p hp).2 x h)
  simp at hl
  refine ⟨by omega, Y.lk ?_ (fun x hx => ?_)⟩
  · refine List.nodup_append.mpr ⟨(Y.2.2.2.2.1 p hp).1, by simp, fun y hy z hz => ?_⟩
    simp at hz
    subst hz
    exact fun q => idx_none.mp hi (q ▸ hy)
  · rcases List.mem_append.mp hx with h | h
    · exact (Y.2.2.2.2.1 p hp).2 x h
    · simp at h; rw [h]; exact hr
theorem likeP_ov (V : DVL L i D) (hp : p < cP D) : OV L (likeP T L D p i) ∧ ∀ z, likeP T L D p i = .inr z → i < z.1 ∧ cP z.2 = cP D ∧ cN z.2 = cN D ∧ (cL z.2 p).length = (cL D p).length + 1 := by
  obtain ⟨hi, Y, O⟩ := V
  have hN := Y.n8
  obtain ⟨a, b, c⟩ := nx_le (T := T) hi
  unfold likeP
  cases hn : numP T L 0 (nI (cN D) - 1) i with
  | inl e => exact ⟨numP_inl hi hn, fun z hz => by cases hz⟩
  | inr z =>
    obtain ⟨z1, z2, r, hr, hz⟩ := numP_room Y hi hn
    have hc : z.1.toNatClampNeg = r := by rw [hz]; exact nI_clamp (by omega)
    show OV L (if idx z.1.toNatClampNeg (cL D p) = none then _ else _) ∧ ∀ y, (if idx z.1.toNatClampNeg (cL D p) = none then _ else _) = _ → _
    rw [hc]
    by_cases hx : idx r (cL D p) = none
    · rw [if_pos hx]
      obtain ⟨l1, l2⟩ := add_ok Y hp hr hx
      refine ⟨⟨z2, l2, O⟩, fun y hy => ?_⟩
      cases hy
      refine ⟨z1, rfl, rfl, ?_⟩
      show (cL (setLk D p (cL D p ++ [r])) p).length = _
      rw [setLk_at]; simp
    · rw [if_neg hx]
      exact ⟨⟨by show 1 ≤ 4; omega, by show 4 ≤ 4; omega, b⟩, fun y hy => by cases hy⟩
theorem sit_ok (Y : VS D) {r : Nat} (hr : r < cN D) (hs : sitC D r = none) : VS (setSeat D p (some r)) := by
  refine ⟨Y.1, Y.2.1, fun q hq x hx => ?_, fun q z hq hz he hn => ?_, Y.2.2.2.2⟩
  · have hx : (if q = p then some r else cS D q) = some x := hx
    by_cases hqp : q = p
    · rw [if_pos hqp] at hx; cases hx; exact hr
    · rw [if_neg hqp] at hx; exact Y.2.2.1 q hq x hx
  · have he : (if q = p then some r else cS D q) = (if z = p then some r else cS D z) := he
    have hn : (if q = p then some r else cS D q) ≠ none := hn
    by_cases hqp : q = p
    · by_cases hzp : z = p
      · omega
      · rw [if_pos hqp, if_neg hzp] at he
        exact absurd he.symm (sitC_none.mp hs z hz)
    · by_cases hzp : z = p
      · rw [if_neg hqp, if_pos hzp] at he
        exact absurd he (sitC_none.mp hs q hq)
      · rw [if_neg hqp, if_neg hzp] at he
        rw [if_neg hqp] at hn
        exact Y.2.2.2.1 q z hq hz he hn
theorem seatP_ov (V : DVL L i D) : OV L (seatP T L D p i) ∧ ∀ z, seatP T L D p i = .inr z → i < z.1 ∧ cP z.2 = cP D ∧ cN z.2 = cN D := by
  obtain ⟨hi, Y, O⟩ := V
  have hN := Y.n8
  obtain ⟨a, b, c⟩ := nx_le (T := T) hi
  unfold seatP
  cases hn : numP T L 0 (nI (cN D) - 1) i with
  | inl e => exact ⟨numP_inl hi hn, fun z hz => by cases hz⟩
  | inr z =>
    obtain ⟨z1, z2, r, hr, hz⟩ := numP_room Y hi hn
    have hc : z.1.toNatClampNeg = r := by rw [hz]; exact nI_clamp (by omega)
    show OV L (if sitC D z.1.toNatClampNeg = none then _ else _) ∧ ∀ y, (if sitC D z.1.toNatClampNeg = none then _ else _) = _ → _
    rw [hc]
    by_cases hx : sitC D r = none
    · rw [if_pos hx]
      refine ⟨⟨z2, sit_ok Y hr hx, O⟩, fun y hy => ?_⟩
      cases hy
      exact ⟨z1, rfl, rfl⟩
    · rw [if_neg hx]
      exact ⟨⟨by show 1 ≤ 4; omega, by show 4 ≤ 4; omega, b⟩, fun y hy => by cases hy⟩
theorem likesP_ov : ∀ m i D, DVL L i D → p < cP D → OV L (likesP T L p m i D) ∧ ∀ z, likesP T L p m i D = .inr z → i ≤ z.1 ∧ cP z.2 = cP D ∧ cN z.2 = cN D := by
  intro m
  induction m with
  | zero => intro i D V hp; exact ⟨V, fun z hz => by cases hz; exact ⟨Nat.le_refl _, rfl, rfl⟩⟩
  | succ m ih =>
    intro i D V hp
    obtain ⟨a, b, c⟩ := nx_le (T := T) V.1
    unfold likesP
    by_cases hc : nx T L i < L ∧ T (nx T L i) = 44
    · rw [if_pos hc]
      obtain ⟨o1, o2⟩ := likeP_ov (T := T) (L := L) (i := nx T L i + 1) (D := D) ⟨by omega, V.2⟩ hp
      cases hl : likeP T L D p (nx T L i + 1) with
      | inl e => rw [hl] at o1; exact ⟨o1, fun z hz => by cases hz⟩
      | inr z =>
        rw [hl] at o1
        obtain ⟨q1, q2, q3, q4⟩ := o2 z hl
        obtain ⟨r1, r2⟩ := ih z.1 z.2 o1 (by rw [q2]; exact hp)
        refine ⟨r1, fun y hy => ?_⟩
        obtain ⟨s1, s2, s3⟩ := r2 y hy
        exact ⟨by omega, s2.trans q2, s3.trans q3⟩
    · rw [if_neg hc]
      exact ⟨⟨b, V.2⟩, fun z hz => by cases hz; exact ⟨a, rfl, rfl⟩⟩
theorem semiP_ov (V : DVL L i D) : OV L (semiP T L i D) ∧ ∀ z, semiP T L i D = .inr z → i < z.1 ∧ z.2 = D := by
  obtain ⟨a, b, c⟩ := nx_le (T := T) V.1
  unfold semiP
  by_cases hc : nx T L i < L ∧ T (nx T L i) = 59
  · rw [if_pos hc]
    exact ⟨⟨by show nx T L i + 1 ≤ L; omega, V.2⟩, fun z hz => by cases hz; exact ⟨by show i < nx T L i + 1; omega, rfl⟩⟩
  · rw [if_neg hc]
    exact ⟨⟨by show 1 ≤ 1; omega, by show 1 ≤ 4; omega, b⟩, fun z hz => by cases hz⟩
theorem addP_dv (V : DVL L i D) (hP : cP D < 6) : DVL L i (addP D) := by
  refine ⟨V.1, V.2.1.add hP, ?_⟩
  show cO D ++ [cP D] = List.range (cP D + 1)
  rw [V.2.2, List.range_succ]
end PUR
/-! the class reads them -/
def CRes (h0 : HP) (L : Nat) (T : Nat → Int32) (h' : HP) : Out → Prop
  | .inl e => (∃ i nm, KC h0 h' L T (nI e.2) (nI e.1) i nm) ∧ HX h' 8
  | .inr z => (∃ nm, KC h0 h' L T (-1) 0 z.1 nm) ∧ HV h' 8 z.2
section CLC
variable {h0 h : HP} {T : Nat → Int32} {L : Nat} {D : CS} {i p : Nat} {nm : Int32}
theorem nz {e : Nat} (h1 : 1 ≤ e) (h4 : e ≤ 4) : ¬ nI e = 0 := nI_ne0 h1 (by omega)
theorem p_readLiking (hL : L ≤ 240) (VV : DVL L i D) (hp : p < cP D) (K : KC h0 h L T (-1) 0 i nm) (V : HV h 8 D) : ∃ h', f_X7_readLiking 1 8 (nI p) h = some h' ∧ CRes h0 L T h' (likeP T L D p i) := by
  obtain ⟨hi, Y, O⟩ := VV
  have hN := Y.n8
  have hP := Y.p6
  obtain ⟨x, h1, e1, K1, X1⟩ := p_readRoom hL hi K V Y
  have V1 := V.fr X1 (by omega)
  unfold f_X7_readLiking f_X7_readLiking_e f_X7_readLiking_b32 f_X7_readLiking_b45 likeP
  rw [K.1.chk, e1, bs]
  cases hn : numP T L 0 (nI (cN D) - 1) i with
  | inl e =>
    rw [hn] at K1
    obtain ⟨i', nm', K1⟩ := K1
    obtain ⟨a, b, c⟩ := numP_inl hi hn
    refine ⟨h1, ?_, ⟨_, _, K1⟩, V1.hx⟩
    show (gI h1 1 7 2).bind _ = _
    rw [K1.1.g 2 rfl, bs, if_neg (nz a b), bs, if_neg (nz a b)]
  | inr z =>
    rw [hn] at K1
    obtain ⟨hx, K1⟩ := K1
    obtain ⟨z1, z2, r, hr, hz⟩ := numP_room Y hi hn
    have hc : z.1.toNatClampNeg = r := by rw [hz]; exact nI_clamp (by omega)
    show ∃ h', _ ∧ CRes h0 L T h' (if idx z.1.toNatClampNeg (cL D p) = none then _ else _)
    rw [hc, hx, hz]
    show ∃ h', (gI h1 1 7 2).bind _ = _ ∧ _
    rw [K1.1.g 2 rfl, bs, if_pos rfl]
    show ∃ h', (f_X3_likingPlace 8 (nI p) (nI r) h1).bind _ = _ ∧ _
    rw [p_likingPlace V1 Y hp (by omega), bs]
    cases hd : idx r (cL D p) with
    | none =>
      rw [if_pos (by rfl), if_pos rfl]
      obtain ⟨l1, l2⟩ := add_ok Y hp hr hd
      obtain ⟨h2, e2, V2, X2⟩ := p_addLiking V1 Y hp l1 r
      refine ⟨h2, ?_, ⟨_, K1.hou X2⟩, V2⟩
      show (gI h1 1 7 2).bind _ = _
      rw [K1.1.g 2 rfl, bs, if_pos rfl, e2, bs]
    | some c =>
      have hl := Y.len hp
      have := (List.getElem?_eq_some_iff.mp (idx_some hd)).1
      rw [if_neg (show ¬ enc (some c) = -1 from nI_neg1 (by omega)), if_neg (by simp)]
      obtain ⟨h2, e2, K2, X2⟩ := K1.fail0 4 (nI (nx T L i))
      refine ⟨h2, ?_, ⟨_, _, K2⟩, (V1.fr X2 (by omega)).hx⟩
      show (gI h1 1 7 4).bind _ = _
      rw [K1.1.g 4 rfl, bs]
      show (f_X7_fail 1 4 _ h1).bind _ = _
      rw [e2, bs, K2.1.g 2 rfl, bs, if_neg (by decide)]
theorem p_readSeat (hL : L ≤ 240) (VV : DVL L i D) (hp : p < cP D) (K : KC h0 h L T (-1) 0 i nm) (V : HV h 8 D) : ∃ h', f_X7_readSeat 1 8 (nI p) h = some h' ∧ CRes h0 L T h' (seatP T L D p i) := by
  obtain ⟨hi, Y, O⟩ := VV
  have hN := Y.n8
  have hP := Y.p6
  obtain ⟨x, h1, e1, K1, X1⟩ := p_readRoom hL hi K V Y
  have V1 := V.fr X1 (by omega)
  unfold f_X7_readSeat f_X7_readSeat_e f_X7_readSeat_b31 f_X7_readSeat_b44 seatP
  rw [K.1.chk, e1, bs]
  cases hn : numP T L 0 (nI (cN D) - 1) i with
  | inl e =>
    rw [hn] at K1
    obtain ⟨i', nm', K1⟩ := K1
    obtain ⟨a, b, c⟩ := numP_inl hi hn
    refine ⟨h1, ?_, ⟨_, _, K1⟩, V1.hx⟩
    show (gI h1 1 7 2).bind _ = _
    rw [K1.1.g 2 rfl, bs, if_neg (nz a b), bs, if_neg (nz a b)]
  | inr z =>
    rw [hn] at K1
    obtain ⟨hx, K1⟩ := K1
    obtain ⟨z1, z2, r, hr, hz⟩ := numP_room Y hi hn
    have hc : z.1.toNatClampNeg = r := by rw [hz]; exact nI_clamp (by omega)
    show ∃ h', _ ∧ CRes h0 L T h' (if sitC D z.1.toNatClampNeg = none then _ else _)
    rw [hc, hx, hz]
    show ∃ h', (gI h1 1 7 2).bind _ = _ ∧ _
    rw [K1.1.g 2 rfl, bs, if_pos rfl]
    show ∃ h', (f_X3_sitter 8 (nI r) h1).bind _ = _ ∧ _
    rw [p_sitter V1 Y (by omega), bs]
    cases hd : sitC D r with
    | none =>
      rw [if_pos (by rfl), if_pos rfl]
      obtain ⟨h2, e2, V2, X2⟩ := p_seat V1 Y hp (some r)
      have e2 : f_X3_seat 8 (nI p) (nI r) h1 = some h2 := e2
      refine ⟨h2, ?_, ⟨_, K1.hou X2⟩, V2⟩
      show (gI h1 1 7 2).bind _ = _
      rw [K1.1.g 2 rfl, bs, if_pos rfl, e2, bs]
    | some c =>
      have := (sitC_lt hd).1
      rw [if_neg (show ¬ enc (some c) = -1 from nI_neg1 (by omega)), if_neg (by simp)]
      obtain ⟨h2, e2, K2, X2⟩ := K1.fail0 4 (nI (nx T L i))
      refine ⟨h2, ?_, ⟨_, _, K2⟩, (V1.fr X2 (by omega)).hx⟩
      show (gI h1 1 7 4).bind _ = _
      rw [K1.1.g 4 rfl, bs]
      show (f_X7_fail 1 4 _ h1).bind _ = _
      rw [e2, bs, K2.1.g 2 rfl, bs, if_neg (by decide)]
theorem l_likes (hL : L ≤ 240) : ∀ m i D, DVL L i D → p < cP D → L - i < m → ∀ n, m < n → ∀ h c, c ≤ (cL D p).length → (∃ nm, KC h0 h L T (-1) 0 i nm) → HV h 8 D → ∃ h', F_X7_readClause_61 n 1 8 (nI p) (nI c) h = f_X7_readClause_b106 1 h' ∧ CRes h0 L T h' (likesP T L p m i D) := by
  intro m
  induction m with
  | zero => intro i D V hp hm; omega
  | succ m ih =>
    intro i D VV hp hm n hn h c hc K V
    obtain ⟨n, rfl⟩ := sx hn
    obtain ⟨nm, K⟩ := K
    obtain ⟨a, b, d⟩ := nx_le (T := T) VV.1
    have hlen := VV.2.1.len hp
    obtain ⟨h1, e1, K1, X1⟩ := p_peek hL VV.1 K
    have V1 := V.fr X1 (by omega)
    have pre : F_X7_readClause_61 (n + 1) 1 8 (nI p) (nI c) h = if (if nx T L i < L then T (nx T L i) else -1) = 44 then (pI h1 1 7 3 (nI (nx T L i + 1))).bind fun h4 => (f_X7_readLiking 1 8 (nI p) h4).bind fun h5 => F_X7_readClause_61 n 1 8 (nI p) (nI (c + 1)) h5 else f_X7_readClause_b106 1 h1 := by
      show f_X7_readClause_b61 _ _ _ _ _ _ = _
      unfold f_X7_readClause_b61
      rw [if_neg (show ¬ (8 : Int32) < nI c from nI_nlt (a := 8) (by omega) (by omega)), K.1.g 2 rfl, bs, if_pos rfl, e1, bs]
      show (if (if nx T L i < L then T (nx T L i) else -1) = 44 then (gI h1 1 7 3).bind _ else _) = _
      rw [K1.1.g 3 rfl, bs, nI_1, nI_1]
    rw [pre]
    unfold likesP
    by_cases hj : nx T L i < L ∧ T (nx T L i) = 44
    · rw [if_pos (by rw [if_pos hj.1]; exact hj.2), if_pos hj]
      obtain ⟨h2, e2, K2, X2⟩ := K1.wp (nx T L i + 1)
      have V2 := V1.fr X2 (by omega)
      have VV2 : DVL L (nx T L i + 1) D := ⟨by omega, VV.2⟩
      obtain ⟨h3, e3, K3⟩ := p_readLiking hL VV2 hp K2 V2
      obtain ⟨o1, o2⟩ := likeP_ov (T := T) VV2 hp
      rw [e2, bs, e3, bs]
      cases hl : likeP T L D p (nx T L i + 1) with
      | inl e =>
        rw [hl] at K3 o1
        obtain ⟨⟨i3, nm3, K3⟩, V3⟩ := K3
        refine ⟨h3, ?_, ⟨_, _, K3⟩, V3⟩
        obtain ⟨n, rfl⟩ := sx (show 0 < n by omega)
        show f_X7_readClause_b61 _ _ _ _ _ _ = _
        unfold f_X7_readClause_b61
        rw [K3.1.g 2 rfl, bs, if_neg (nz o1.1 o1.2.1)]
        split <;> rfl
      | inr z =>
        rw [hl] at K3 o1
        obtain ⟨q1, q2, q3, q4⟩ := o2 z hl
        have q0 : DVL L z.1 z.2 := o1
        obtain ⟨h4, e4, K4⟩ := ih z.1 z.2 q0 (by rw [q2]; exact hp) (by omega) n (by omega) h3 (c + 1) (by omega) K3.1 K3.2
        exact ⟨h4, e4, K4⟩
    · have hne : ¬ (if nx T L i < L then T (nx T L i) else -1) = 44 := by
        by_cases hl : nx T L i < L
        · rw [if_pos hl]; exact fun q => hj ⟨hl, q⟩
        · rw [if_neg hl]; decide
      rw [if_neg hne, if_neg hj]
      exact ⟨h1, rfl, ⟨_, K1⟩, V1⟩
theorem p_expect (hL : L ≤ 240) (VV : DVL L i D) (K : KC h0 h L T (-1) 0 i nm) (V : HV h 8 D) {x : Int32} (hx : x ≠ -1) : ∃ h', f_X7_expect 1 x h = some h' ∧ CRes h0 L T h' (if nx T L i < L ∧ T (nx T L i) = x then .inr (nx T L i + 1, D) else .inl (1, nx T L i)) := by
  obtain ⟨h1, e1, K1, X1⟩ := p_peek hL VV.1 K
  have V1 := V.fr X1 (by omega)
  unfold f_X7_expect f_X7_expect_e f_X7_expect_b30
  rw [K.1.chk, e1, bs]
  by_cases hj : nx T L i < L ∧ T (nx T L i) = x
  · obtain ⟨h2, e2, K2, X2⟩ := K1.wp (nx T L i + 1)
    rw [if_pos hj]
    refine ⟨h2, ?_, ⟨_, K2⟩, V1.fr X2 (by omega)⟩
    rw [if_pos (by show (if nx T L i < L then T (nx T L i) else -1) = x; rw [if_pos hj.1]; exact hj.2)]
    show (gI h1 1 7 3).bind _ = _
    rw [K1.1.g 3 rfl, bs, nI_1]
    show (pI h1 1 7 3 _).bind _ = _
    rw [e2, bs]
  · have hne : ¬ (if nx T L i < L then T (nx T L i) else -1) = x := by
      by_cases hl : nx T L i < L
      · rw [if_pos hl]; exact fun q => hj ⟨hl, q⟩
      · rw [if_neg hl]; exact fun q => hx q.symm
    obtain ⟨h2, e2, K2, X2⟩ := K1.fail0 1 (nI (nx T L i))
    rw [if_neg hj]
    refine ⟨h2, ?_, ⟨_, _, K2⟩, (V1.fr X2 (by omega)).hx⟩
    rw [if_neg hne]
    show (gI h1 1 7 3).bind _ = _
    rw [K1.1.g 3 rfl, bs]
    show (f_X7_fail 1 1 _ h1).bind _ = _
    rw [e2, bs]
/-- the end of a clause -/
theorem p_semi (hL : L ≤ 240) {o : Out} (ov : OV L o) (R : CRes h0 L T h o) : ∃ h', f_X7_readClause_b106 1 h = some h' ∧ CRes h0 L T h' (bnd o (semiP T L)) := by
  unfold f_X7_readClause_b106 f_X7_readClause_b119
  cases o with
  | inl e =>
    obtain ⟨⟨i, nm, K⟩, V⟩ := R
    refine ⟨h, ?_, ⟨_, _, K⟩, V⟩
    rw [K.1.g 2 rfl, bs, if_neg (nz ov.1 ov.2.1)]
  | inr z =>
    obtain ⟨⟨nm, K⟩, V⟩ := R
    obtain ⟨h1, e1, R1⟩ := p_expect (i := z.1) (D := z.2) hL ov K V (x := 59) (by decide)
    refine ⟨h1, ?_, R1⟩
    rw [K.1.g 2 rfl, bs, if_pos rfl, e1, bs]
def clauseP (T : Nat → Int32) (L i : Nat) (D : CS) : Out :=
  if ¬ (T (nx T L i) = 114 ∨ T (nx T L i) = 116 ∨ T (nx T L i) = 110) then .inl (1, nx T L i)
  else if T (nx T L i) = 114 ∨ ¬ cP D < 6 then .inl (3, nx T L i)
  else bnd (bnd (if T (nx T L i) = 116 then seatP T L (addP D) (cP D) (nx T L i + 1) else likeP T L (addP D) (cP D) (nx T L i + 1)) (likesP T L (cP D) (L + 1))) (semiP T L)
theorem bnd_ov {o : Out} {f : Nat → CS → Out} (h1 : OV L o) (h2 : ∀ z, o = .inr z → OV L (f z.1 z.2)) : OV L (bnd o f) := by
  cases o with
  | inl e => exact h1
  | inr z => exact h2 z rfl
/-- what a person's words come to, ahead of the end of the clause -/
def persP (T : Nat → Int32) (L j : Nat) (D : CS) : Out := bnd (if T j = 116 then seatP T L (addP D) (cP D) (j + 1) else likeP T L (addP D) (cP D) (j + 1)) (likesP T L (cP D) (L + 1))
theorem persP_ov (VV : DVL L i D) (hP : cP D < 6) (hj : i < L) : OV L (persP T L i D) ∧ ∀ z, persP T L i D = .inr z → i < z.1 ∧ cP z.2 = cP D + 1 ∧ cN z.2 = cN D := by
  have V1 : DVL L (i + 1) (addP D) := addP_dv ⟨by omega, VV.2⟩ hP
  have hp : cP D < cP (addP D) := Nat.lt_succ_self _
  have first : OV L (if T i = 116 then seatP T L (addP D) (cP D) (i + 1) else likeP T L (addP D) (cP D) (i + 1)) ∧ ∀ z, (if T i = 116 then seatP T L (addP D) (cP D) (i + 1) else likeP T L (addP D) (cP D) (i + 1)) = .inr z → i + 1 < z.1 ∧ cP z.2 = cP (addP D) ∧ cN z.2 = cN (addP D) := by
    split
    · exact seatP_ov V1
    · obtain ⟨q1, q2⟩ := likeP_ov (T := T) V1 hp
      exact ⟨q1, fun z hz => ⟨(q2 z hz).1, (q2 z hz).2.1, (q2 z hz).2.2.1⟩⟩
  unfold persP
  generalize (if T i = 116 then seatP T L (addP D) (cP D) (i + 1) else likeP T L (addP D) (cP D) (i + 1)) = o at first ⊢
  obtain ⟨f1, f2⟩ := first
  cases o with
  | inl e => exact ⟨f1, fun z hz => by cases hz⟩
  | inr z =>
    obtain ⟨g1, g2, g3⟩ := f2 z rfl
    obtain ⟨l1, l2⟩ := likesP_ov (T := T) (p := cP D) (L + 1) z.1 z.2 f1 (by rw [g2]; exact hp)
    refine ⟨l1, fun y hy => ?_⟩
    obtain ⟨m1, m2, m3⟩ := l2 y hy
    exact ⟨by omega, m2.trans g2, m3.trans g3⟩
theorem clauseP_ov (VV : DVL L i D) (hj : nx T L i < L) : OV L (clauseP T L i D) ∧ ∀ z, clauseP T L i D = .inr z → i < z.1 ∧ cN z.2 = cN D := by
  obtain ⟨a, b, c⟩ := nx_le (T := T) VV.1
  unfold clauseP
  split
  · exact ⟨⟨by show 1 ≤ 1; omega, by show 1 ≤ 4; omega, b⟩, fun z hz => by cases hz⟩
  · split
    · exact ⟨⟨by show 1 ≤ 3; omega, by show 3 ≤ 4; omega, b⟩, fun z hz => by cases hz⟩
    · rename_i h1 h2
      obtain ⟨p1, p2⟩ := persP_ov (T := T) (i := nx T L i) (D := D) ⟨b, VV.2⟩ (by rcases Nat.lt_or_ge (cP D) 6 with z | z; exact z; exact absurd (Or.inr (by omega)) h2) hj
      unfold persP at p1 p2
      generalize bnd (if T (nx T L i) = 116 then seatP T L (addP D) (cP D) (nx T L i + 1) else likeP T L (addP D) (cP D) (nx T L i + 1)) (likesP T L (cP D) (L + 1)) = o at p1 p2 ⊢
      cases o with
      | inl e => exact ⟨p1, fun z hz => by cases hz⟩
      | inr z =>
        obtain ⟨q1, q2, q3⟩ := p2 z rfl
        obtain ⟨s1, s2⟩ := semiP_ov (T := T) (i := z.1) (D := z.2) p1
        refine ⟨s1, fun y hy => ?_⟩
        obtain ⟨t1, t2⟩ := s2 y hy
        exact ⟨by omega, by rw [t2]; exact q3⟩
theorem p_readClause (hL : L ≤ 240) (VV : DVL L i D) (hj : nx T L i < L) (K : KC h0 h L T (-1) 0 i nm) (V : HV h 8 D) : ∃ h', f_X7_readClause 1 8 h = some h' ∧ CRes h0 L T h' (clauseP T L i D) := by
  have hP6 := VV.2.1.p6
  obtain ⟨a, b, c⟩ := nx_le (T := T) VV.1
  obtain ⟨h1, e1, K1, X1⟩ := p_peek hL VV.1 K
  rw [if_pos hj] at e1
  have V1 := V.fr X1 (by omega)
  have pre : f_X7_readClause 1 8 h = (f_X7_checkWord 1 (T (nx T L i)) (nI (cP D)) h1).bind fun h3 => (gI h3 1 7 2).bind fun v4 => if v4 = 0 then (gI h3 1 7 3).bind fun v5 => (pI h3 1 7 3 (v5 + 1)).bind fun h6 => (f_X3_addPerson 8 h6).bind fun q7 => if T (nx T L i) = 116 then (f_X7_readSeat 1 8 q7.1 q7.2).bind fun h8 => F_X7_readClause_61 FU 1 8 q7.1 0 h8 else (f_X7_readLiking 1 8 q7.1 q7.2).bind fun h9 => F_X7_readClause_61 FU 1 8 q7.1 0 h9 else some h3 := by
    unfold f_X7_readClause f_X7_readClause_e f_X7_readClause_b58
    rw [K.1.chk, e1, bs]
    show (gI h1 8 3 1).bind _ = _
    rw [V1.pers, bs]
  rw [pre]
  unfold f_X7_checkWord f_X7_checkWord_e f_X7_checkWord_b30 f_X7_checkWord_b42 f_X7_checkWord_b51 clauseP
  rw [K1.1.chk]
  have bad : ∀ cd : Int32, ∃ h', ((gI h1 1 7 3).bind fun v => (f_X7_fail 1 cd v h1).bind fun h2 => some h2) = some h' ∧ KC h0 h' L T (nI (nx T L i)) cd (nx T L i) nm ∧ HX h' 8 := fun cd => by
    obtain ⟨h2, e2, K2, X2⟩ := K1.fail0 cd (nI (nx T L i))
    exact ⟨h2, by rw [K1.1.g 3 rfl, bs, e2, bs], K2, (V1.fr X2 (by omega)).hx⟩
  by_cases hw : T (nx T L i) = 114 ∨ T (nx T L i) = 116 ∨ T (nx T L i) = 110
  · rw [if_neg (show ¬ ¬ (T (nx T L i) = 114 ∨ T (nx T L i) = 116 ∨ T (nx T L i) = 110) from fun q => q hw)]
    by_cases h3 : T (nx T L i) = 114 ∨ ¬ cP D < 6
    · rw [if_pos h3]
      obtain ⟨h2, e2, K2, V2⟩ := bad 3
      refine ⟨h2, ?_, ⟨_, _, K2⟩, V2⟩
      have hcw : (if T (nx T L i) = 114 then (if T (nx T L i) = 114 then ((gI h1 1 7 3).bind fun v => (f_X7_fail 1 3 v h1).bind fun h2 => some h2) else if nI (cP D) < 6 then some h1 else ((gI h1 1 7 3).bind fun v => (f_X7_fail 1 3 v h1).bind fun h2 => some h2)) else if T (nx T L i) = 116 then (if T (nx T L i) = 114 then ((gI h1 1 7 3).bind fun v => (f_X7_fail 1 3 v h1).bind fun h2 => some h2) else if nI (cP D) < 6 then some h1 else ((gI h1 1 7 3).bind fun v => (f_X7_fail 1 3 v h1).bind fun h2 => some h2)) else if T (nx T L i) = 110 then (if T (nx T L i) = 114 then ((gI h1 1 7 3).bind fun v => (f_X7_fail 1 3 v h1).bind fun h2 => some h2) else if nI (cP D) < 6 then some h1 else ((gI h1 1 7 3).bind fun v => (f_X7_fail 1 3 v h1).bind fun h2 => some h2)) else ((gI h1 1 7 3).bind fun v => (f_X7_fail 1 1 v h1).bind fun h2 => some h2)) = some h2 := by
        rcases h3 with g | g
        · rw [if_pos g, if_pos g, e2]
        · have g6 : ¬ nI (cP D) < (6 : Int32) := nI_nlt (b := 6) (by omega) (by omega)
          rw [if_neg g6, e2]
          rcases hw with w | w | w
          · rw [if_pos w, if_pos w]
          · simp [w]
          · simp [w]
      rw [hcw, bs, K2.1.g 2 rfl, bs, if_neg (by decide)]
    · rw [if_neg h3]
      have hn : ¬ T (nx T L i) = 114 := fun q => h3 (Or.inl q)
      have hP : cP D < 6 := by rcases Nat.lt_or_ge (cP D) 6 with z | z; exact z; exact absurd (Or.inr (by omega)) h3
      have g6 : nI (cP D) < (6 : Int32) := nI_lt (b := 6) hP (by omega)
      have hcw : (if T (nx T L i) = 114 then (if T (nx T L i) = 114 then ((gI h1 1 7 3).bind fun v => (f_X7_fail 1 3 v h1).bind fun h2 => some h2) else if nI (cP D) < 6 then some h1 else ((gI h1 1 7 3).bind fun v => (f_X7_fail 1 3 v h1).bind fun h2 => some h2)) else if T (nx T L i) = 116 then (if T (nx T L i) = 114 then ((gI h1 1 7 3).bind fun v => (f_X7_fail 1 3 v h1).bind fun h2 => some h2) else if nI (cP D) < 6 then some h1 else ((gI h1 1 7 3).bind fun v => (f_X7_fail 1 3 v h1).bind fun h2 => some h2)) else if T (nx T L i) = 110 then (if T (nx T L i) = 114 then ((gI h1 1 7 3).bind fun v => (f_X7_fail 1 3 v h1).bind fun h2 => some h2) else if nI (cP D) < 6 then some h1 else ((gI h1 1 7 3).bind fun v => (f_X7_fail 1 3 v h1).bind fun h2 => some h2)) else ((gI h1 1 7 3).bind fun v => (f_X7_fail 1 1 v h1).bind fun h2 => some h2)) = some h1 := by
        rw [if_pos g6, if_neg hn, if_neg hn]
        rcases hw with w | w | w
        · exact absurd w hn
        · rw [if_pos w]
        · rw [if_pos w]; split <;> rfl
      rw [hcw, bs, K1.1.g 2 rfl, bs, if_pos rfl, K1.1.g 3 rfl, bs, nI_1]
      obtain ⟨h2, e2, K2, X2⟩ := K1.wp (nx T L i + 1)
      obtain ⟨h3, e3, V3, X3⟩ := p_addPerson (V1.fr X2 (by omega)) VV.2.1 hP
      have K3 := K2.hou X3
      have VV3 : DVL L (nx T L i + 1) (addP D) := addP_dv ⟨by omega, VV.2⟩ hP
      have hp : cP D < cP (addP D) := Nat.lt_succ_self _
      rw [e2, bs, e3, bs]
      have tail : ∀ o h9, OV L o → (∀ z, o = .inr z → cP z.2 = cP (addP D)) → CRes h0 L T h9 o → ∃ h', F_X7_readClause_61 FU 1 8 (nI (cP D)) 0 h9 = some h' ∧ CRes h0 L T h' (bnd (bnd o (likesP T L (cP D) (L + 1))) (semiP T L)) := by
        intro o h9 ov op R
        cases o with
        | inl e =>
          obtain ⟨⟨i9, nm9, K9⟩, V9⟩ := R
          refine ⟨h9, ?_, ⟨_, _, K9⟩, V9⟩
          show f_X7_readClause_b61 _ _ _ _ _ _ = _
          unfold f_X7_readClause_b61 f_X7_readClause_b106 f_X7_readClause_b119
          rw [if_neg (by decide), K9.1.g 2 rfl, bs, if_neg (nz ov.1 ov.2.1), bs, if_neg (nz ov.1 ov.2.1)]
        | inr z =>
          obtain ⟨h10, e10, R10⟩ := l_likes (h0 := h0) (T := T) (p := cP D) hL (L + 1) z.1 z.2 ov (by rw [op z rfl]; exact hp) (by omega) FU (fu_lt (by omega)) h9 0 (by omega) R.1 R.2
          have ov10 := (likesP_ov (T := T) (p := cP D) (L + 1) z.1 z.2 ov (by rw [op z rfl]; exact hp)).1
          obtain ⟨h11, e11, R11⟩ := p_semi hL ov10 R10
          exact ⟨h11, by show F_X7_readClause_61 FU 1 8 (nI (cP D)) (nI 0) h9 = _; rw [e10, e11], R11⟩
      by_cases h6 : T (nx T L i) = 116
      · rw [if_pos h6, if_pos h6]
        obtain ⟨h4, e4, R4⟩ := p_readSeat hL VV3 hp K3 V3
        obtain ⟨o1, o2⟩ := seatP_ov (T := T) (p := cP D) VV3
        obtain ⟨h5, e5, R5⟩ := tail _ h4 o1 (fun z hz => (o2 z hz).2.1) R4
        exact ⟨h5, by rw [e4, bs]; exact e5, R5⟩
      · rw [if_neg h6, if_neg h6]
        obtain ⟨h4, e4, R4⟩ := p_readLiking hL VV3 hp K3 V3
        obtain ⟨o1, o2⟩ := likeP_ov (T := T) (p := cP D) VV3 hp
        obtain ⟨h5, e5, R5⟩ := tail _ h4 o1 (fun z hz => (o2 z hz).2.1) R4
        exact ⟨h5, by rw [e4, bs]; exact e5, R5⟩
  · rw [if_pos hw]
    obtain ⟨h2, e2, K2, V2⟩ := bad 1
    refine ⟨h2, ?_, ⟨_, _, K2⟩, V2⟩
    rw [if_neg (fun q => hw (Or.inl q)), if_neg (fun q => hw (Or.inr (Or.inl q))), if_neg (fun q => hw (Or.inr (Or.inr q))), e2, bs, K2.1.g 2 rfl, bs, if_neg (by decide)]
end CLC
