/-! the reference reads the same -/
theorem RV3.lk {S : CS} {x : Nat} {w w' : Nat → Int32} (R : RV3 w x S) (Y : VS S) {p : Nat} {l : List Nat} (hp : p < cP S) (h1 : w' (x + 48 + p) = nI l.length) (h3 : RWl w' (x + 8 * p) l) (h4 : ∀ j, (j < x + 8 * p ∨ x + 8 * p + 8 ≤ j) → j ≠ x + 48 + p → j < x + 60 → w' j = w j) : RV3 w' x (setLk S p l) := by
  have hP := Y.p6
  refine ⟨fun q hq => ?_, fun q hq => ?_, fun q hq k y hk => ?_, trivial⟩
  · have hq : q < cP S := hq
    rw [h4 _ (by omega) (by omega) (by omega)]; exact R.1 q hq
  · have hq : q < cP S := hq
    by_cases hqp : q = p
    · subst hqp; rw [h1, setLk_at]
    · rw [h4 _ (by omega) (by omega) (by omega), setLk_ne S l hqp]; exact R.2.1 q hq
  · have hq : q < cP S := hq
    by_cases hqp : q = p
    · subst hqp
      rw [setLk_at] at hk
      exact h3 k y hk
    · rw [setLk_ne S l hqp] at hk
      have hl := Y.len hq
      have := (List.getElem?_eq_some_iff.mp hk).1
      rw [h4 _ (by omega) (by omega) (by omega)]
      exact R.2.2.1 q hq k y hk
def MK (h1 : HP) (F0 : Nat → Int32) (A0 : AT) (h : HP) (F : Nat → Int32) (A : AT) : Prop := MM h F A ∧ (∀ j, j < 142 → h[j]? = h1[j]?) ∧ (∀ q, q < 19 → F q = F0 q) ∧ AS A0 A
def MBAD (h1 : HP) (F0 : Nat → Int32) (A0 : AT) (e : Nat × Nat) (h : HP) : Prop := ∃ F A, MK h1 F0 A0 h F A ∧ F 20 = nI e.1 ∧ F 21 = nI e.2 ∧ ∃ i, i ≤ 300 ∧ F 19 = nI i
def MOK (h1 : HP) (F0 : Nat → Int32) (A0 : AT) (pc i : Nat) (D : CS) (h : HP) : Prop := ∃ F A, MK h1 F0 A0 h F A ∧ F 19 = nI i ∧ F 20 = 0 ∧ F 22 = nI (cN D) ∧ F 23 = nI pc ∧ RV3 (A 0) 1541 D
def MR (h1 : HP) (F0 : Nat → Int32) (A0 : AT) (pc : CS → Nat) (h : HP) : Out → Prop
  | .inl e => MBAD h1 F0 A0 e h
  | .inr z => MOK h1 F0 A0 (pc z.2) z.1 z.2 h
section CLM
variable {h1 h : HP} {F0 : Nat → Int32} {A0 : AT} {T : Nat → Int32} {L : Nat} {D : CS} {i p : Nat}
theorem MK.to {F F' : Nat → Int32} {A A' : AT} {h' : HP} (K : MK h1 F0 A0 h F A) (M' : MM h' F' A') (X : Fr h h' 142 12) (f : ∀ q, q < 19 → F' q = F q) (a : AS A A') : MK h1 F0 A0 h' F' A' := ⟨M', fun j hj => (X j (by omega)).trans (K.2.1 j hj), fun q hq => (f q hq).trans (K.2.2.1 q hq), K.2.2.2.trans a⟩
theorem MK.f6 {F : Nat → Int32} {A : AT} (K : MK h1 F0 A0 h F A) (f : F0 6 = nI L) : F 6 = nI L := (K.2.2.1 6 (by omega)).trans f
theorem MK.tx {F : Nat → Int32} {A : AT} (K : MK h1 F0 A0 h F A) (t : ∀ j, j < L → A0 1 j = T j) : ∀ j, j < L → A 1 j = T j := fun j hj => by rw [K.2.2.2.2.1]; exact t j hj
theorem as_tail (A : AT) {g : Nat → Int32} (hg : ∀ j, j < 1541 → g j = A 0 j) : AS A (setA A 0 g) := ⟨fun j hj => by rw [setA_s]; exact hg j hj, setA_n _ _ (by omega), setA_n _ _ (by omega), setA_n _ _ (by omega), setA_n _ _ (by omega), setA_n _ _ (by omega)⟩
theorem p_readLike (hL : L ≤ 240) (f6 : F0 6 = nI L) (tx : ∀ j, j < L → A0 1 j = T j) (VV : DVL L i D) (hp : p < cP D) {pc : Nat} (G : MOK h1 F0 A0 pc i D h) : ∃ h', f_X9_readLike 142 (nI p) h = some h' ∧ MR h1 F0 A0 (fun _ => pc) h' (likeP T L D p i) := by
  obtain ⟨hi, Y, O⟩ := VV
  have hN := Y.n8
  have hP := Y.p6
  obtain ⟨F, A, K, g19, g20, g22, g23, R⟩ := G
  obtain ⟨x, h2, F2, e2, M2, mn, fn, g24, X2⟩ := p_number hL (K.tx tx) K.1 (K.f6 f6) hi g19 g20 0 (nI (cN D) - 1)
  have K2 : MK h1 F0 A0 h2 F2 A := K.to M2 X2 (fun q hq => fn q (by omega) (by omega) (by omega) (by omega)) AS.rfl
  have q22 : F2 22 = nI (cN D) := (fn 22 (by omega) (by omega) (by omega) (by omega)).trans g22
  have q23 : F2 23 = nI pc := (fn 23 (by omega) (by omega) (by omega) (by omega)).trans g23
  unfold f_X9_readLike f_X9_readLike_e f_X9_readLike_b41 f_X9_readLike_b87 likeP
  rw [K.1.chk, K.1.g 22 rfl, bs, g22, e2, bs]
  cases hn : numP T L 0 (nI (cN D) - 1) i with
  | inl e =>
    rw [hn] at mn
    obtain ⟨a, b, c⟩ := numP_inl hi hn
    obtain ⟨m1, m2, i3, m3, m4⟩ := mn
    have hne : ¬ F2 20 = 0 := by rw [m1]; exact nz a b
    refine ⟨h2, ?_, ⟨F2, A, K2, m1, m2, i3, by omega, m4⟩⟩
    show (f_X9_fine 142 h2).bind _ = _
    rw [fine1 M2 hne, bs, if_pos (by rfl)]
    show (f_X9_fine 142 h2).bind _ = _
    rw [fine1 M2 hne, bs, if_pos (by rfl)]
  | inr z =>
    rw [hn] at mn
    obtain ⟨m1, m2, m3⟩ := mn
    obtain ⟨z1, z2, r, hr, hz⟩ := numP_room Y hi hn
    have hc : z.1.toNatClampNeg = r := by rw [hz]; exact nI_clamp (by omega)
    show ∃ h', _ ∧ MR h1 F0 A0 (fun _ => pc) h' (if idx z.1.toNatClampNeg (cL D p) = none then _ else _)
    rw [hc, m1, hz]
    show ∃ h', (f_X9_fine 142 h2).bind _ = _ ∧ _
    rw [fine0 M2 m2, bs, if_neg (show ¬ (1 : Int32) = 0 by decide)]
    show ∃ h', (f_X9_placeOfLike 142 (nI 1541) (nI p) (nI r) h2).bind _ = _ ∧ _
    rw [p_placeOfLike3 M2 R Y (by omega) hp (by omega), bs]
    cases hd : idx r (cL D p) with
    | none =>
      rw [if_pos (by rfl), if_pos rfl]
      obtain ⟨l1, l2⟩ := add_ok Y hp hr hd
      have hw := R.2.1 p hp
      obtain ⟨h3, e3, M3, X3⟩ := M2.ast 0 (by omega) (show 1541 + 8 * p + (cL D p).length < 1608 by omega) (nI r)
      obtain ⟨h4, e4, M4, X4⟩ := M3.ast 0 (by omega) (show 1589 + p < 1608 by omega) (nI ((cL D p).length + 1))
      rw [setA_set, setA_s] at M4
      refine ⟨h4, ?_, ⟨F2, _, K2.to M4 (X3.trans X4) (fun _ _ => rfl) (as_tail A (fun j hj => by rw [un (by omega), un (by omega)])), m3, m2, q22, q23, ?_⟩⟩
      · show (f_X9_fine 142 h2).bind _ = _
        rw [fine0 M2 m2, bs, if_neg (show ¬ (1 : Int32) = 0 by decide)]
        show (gR h2 142 9 0).bind _ = _
        rw [M2.r 0 rfl, bs, bs]
        show (ald h2 (143 + 0) (nI 1589 + nI p)).bind _ = _
        rw [nI_add, M2.ald 0 (by omega) (show 1589 + p < 1608 by omega), bs, show 1589 + p = 1541 + 48 + p by omega, hw]
        show (ast h2 (143 + 0) (nI 1541 + nI 8 * nI p + nI (cL D p).length) (nI r)).bind _ = _
        rw [pk_mul, nI_add, nI_add, e3, bs, M3.r 0 rfl, bs]
        show (ald h3 (143 + 0) (nI 1589 + nI p)).bind _ = _
        rw [nI_add, M3.ald 0 (by omega) (show 1589 + p < 1608 by omega), bs, setA_s, un (by omega), show 1589 + p = 1541 + 48 + p by omega, hw, nI_1]
        show (ast h3 (143 + 0) (nI 1589 + nI p) _).bind _ = _
        rw [nI_add, e4, bs]
      · rw [setA_s]
        refine R.lk Y hp ?_ ?_ (fun j h1 h2 h3 => ?_)
        · rw [show 1541 + 48 + p = 1589 + p by omega, us]; simp
        · intro j y hj
          by_cases hj2 : j < (cL D p).length
          · rw [List.getElem?_append_left hj2] at hj
            rw [un (by omega), un (by omega)]
            exact R.2.2.1 p hp j y hj
          · rw [List.getElem?_append_right (by omega)] at hj
            have hzz := (List.getElem?_eq_some_iff.mp hj).1
            simp at hzz
            have hjj : j = (cL D p).length := by omega
            rw [hjj, Nat.sub_self] at hj
            cases hj
            rw [hjj, un (by omega), us]
        · rw [un (by omega), un (by omega)]
    | some c =>
      have hl := Y.len hp
      have := (List.getElem?_eq_some_iff.mp (idx_some hd)).1
      rw [if_neg (show ¬ enc (some c) = -1 from nI_neg1 (by omega)), if_neg (by simp)]
      obtain ⟨h3, e3, M3, X3⟩ := p_failM0 M2 m2 4 (nI (nx T L i))
      have hne : ¬ upd (upd F2 20 4) 21 (nI (nx T L i)) 20 = 0 := by rw [un (by omega), us]; decide
      refine ⟨h3, ?_, ⟨_, A, K2.to M3 X3 (fun q hq => (un (by omega)).trans (un (by omega))) AS.rfl, (un (by omega)).trans us, us, z.2, by omega, (un (by omega)).trans ((un (by omega)).trans m3)⟩⟩
      show (gI h2 142 9 24).bind _ = _
      rw [M2.g 24 rfl, bs, g24]
      show (f_X9_fail 142 4 (nI (nx T L i)) h2).bind _ = _
      rw [e3, bs, fine1 M3 hne, bs, if_pos (by rfl)]
theorem l_likesM (hL : L ≤ 240) (f6 : F0 6 = nI L) (tx : ∀ j, j < L → A0 1 j = T j) {pc : Nat} : ∀ m i D, DVL L i D → p < cP D → L - i < m → ∀ n, m < n → ∀ h, MOK h1 F0 A0 pc i D h → ∃ h', F_X9_readPerson_93 n 142 (nI p) h = f_X9_readPerson_b127 142 h' ∧ MR h1 F0 A0 (fun _ => pc) h' (likesP T L p m i D) := by
  intro m
  induction m with
  | zero => intro i D V hp hm; omega
  | succ m ih =>
    intro i D VV hp hm n hn h G
    obtain ⟨n, rfl⟩ := sx hn
    obtain ⟨a, b, d⟩ := nx_le (T := T) VV.1
    obtain ⟨F, A, K, g19, g20, g22, g23, R⟩ := G
    obtain ⟨h2, F2, e2, M2, r19, fq, X2⟩ := p_here hL (K.tx tx) K.1 (K.f6 f6) (show i ≤ 300 by have := VV.1; omega) g19
    have K2 : MK h1 F0 A0 h2 F2 A := K.to M2 X2 (fun q hq => fq q (by omega)) AS.rfl
    have r20 : F2 20 = 0 := (fq 20 (by omega)).trans g20
    have r22 := (fq 22 (by omega)).trans g22
    have r23 := (fq 23 (by omega)).trans g23
    have pre : F_X9_readPerson_93 (n + 1) 142 (nI p) h = if (if nx T L i < L then T (nx T L i) else 0) = 44 then (pI h2 142 9 19 (nI (nx T L i + 1))).bind fun h4 => (f_X9_readLike 142 (nI p) h4).bind fun h5 => F_X9_readPerson_93 n 142 (nI p) h5 else f_X9_readPerson_b127 142 h2 := by
      show f_X9_readPerson_b93 _ _ _ _ = _
      unfold f_X9_readPerson_b93
      rw [fine0 K.1 g20, bs, if_neg (show ¬ (1 : Int32) = 0 by decide)]
      show (f_X9_here 142 h).bind _ = _
      rw [e2, bs]
      show (if (if nx T L i < L then T (nx T L i) else 0) = 44 then (gI h2 142 9 19).bind _ else _) = _
      rw [M2.g 19 rfl, bs, r19, nI_1]
    rw [pre]
    unfold likesP
    by_cases hj : nx T L i < L ∧ T (nx T L i) = 44
    · rw [if_pos (by rw [if_pos hj.1]; exact hj.2), if_pos hj]
      obtain ⟨h3, e3, M3, X3⟩ := M2.p 19 (nI (nx T L i + 1)) rfl (by omega)
      have VV2 : DVL L (nx T L i + 1) D := ⟨by omega, VV.2⟩
      obtain ⟨h4, e4, R4⟩ := p_readLike (p := p) hL f6 tx VV2 hp (pc := pc) (h := h3) ⟨_, A, K2.to M3 X3 (fun q hq => un (by omega)) AS.rfl, us, (un (by omega)).trans r20, (un (by omega)).trans r22, (un (by omega)).trans r23, R⟩
      obtain ⟨o1, o2⟩ := likeP_ov (T := T) VV2 hp
      rw [e3, bs, e4, bs]
      cases hl : likeP T L D p (nx T L i + 1) with
      | inl e =>
        rw [hl] at R4 o1
        refine ⟨h4, ?_, R4⟩
        obtain ⟨F5, A5, K5, s20, s21, -⟩ := R4
        obtain ⟨n, rfl⟩ := sx (show 0 < n by omega)
        show f_X9_readPerson_b93 _ _ _ _ = _
        unfold f_X9_readPerson_b93
        rw [fine1 K5.1 (by rw [s20]; exact nz o1.1 o1.2.1), bs, if_pos (by rfl)]
      | inr z =>
        rw [hl] at R4 o1
        obtain ⟨q1, q2, q3, q4⟩ := o2 z hl
        have q0 : DVL L z.1 z.2 := o1
        exact ih z.1 z.2 q0 (by rw [q2]; exact hp) (by omega) n (by omega) h4 R4
    · have hne : ¬ (if nx T L i < L then T (nx T L i) else 0) = 44 := by
        by_cases hl : nx T L i < L
        · rw [if_pos hl]; exact fun q => hj ⟨hl, q⟩
        · rw [if_neg hl]; decide
      rw [if_neg hne, if_neg hj]
      exact ⟨h2, rfl, ⟨F2, A, K2, r19, r20, r22, r23, R⟩⟩
/-- one more is read -/
theorem p_b127 {o : Out} (R : MR h1 F0 A0 (fun _ => p) h o) (hp : ∀ z, o = .inr z → cP z.2 = p + 1) : ∃ h', f_X9_readPerson_b127 142 h = some h' ∧ MR h1 F0 A0 cP h' o := by
  unfold f_X9_readPerson_b127
  cases o with
  | inl e =>
    obtain ⟨F, A, K, g20, g21, i, hi, g19⟩ := R
    obtain ⟨h2, e2, M2, X2⟩ := K.1.p 23 (F 23 + 1) rfl (by omega)
    exact ⟨h2, by rw [K.1.g 23 rfl, bs, e2, bs], ⟨_, A, K.to M2 X2 (fun q hq => un (by omega)) AS.rfl, (un (by omega)).trans g20, (un (by omega)).trans g21, i, hi, (un (by omega)).trans g19⟩⟩
  | inr z =>
    obtain ⟨F, A, K, g19, g20, g22, g23, R⟩ := R
    obtain ⟨h2, e2, M2, X2⟩ := K.1.p 23 (nI (p + 1)) rfl (by omega)
    exact ⟨h2, by rw [K.1.g 23 rfl, bs, g23, nI_1, e2, bs], ⟨_, A, K.to M2 X2 (fun q hq => un (by omega)) AS.rfl, (un (by omega)).trans g19, (un (by omega)).trans g20, (un (by omega)).trans g22, by rw [us, hp z rfl], R⟩⟩
theorem RV3.un {w : Nat → Int32} (R : RV3 w 1541 (addP D)) : RV3 w 1541 D := by
  refine ⟨fun q hq => ?_, fun q hq => ?_, fun q hq => ?_, trivial⟩
  · have := R.1 q (Nat.lt_succ_of_lt hq)
    rwa [show cS (addP D) q = cS D q from if_neg (by omega)] at this
  · have := R.2.1 q (Nat.lt_succ_of_lt hq)
    rwa [show cL (addP D) q = cL D q from if_neg (by omega)] at this
  · have := R.2.2.1 q (Nat.lt_succ_of_lt hq)
    rwa [show cL (addP D) q = cL D q from if_neg (by omega)] at this
theorem sit_add {r : Nat} : sitC (addP D) r = none ↔ sitC D r = none := by
  rw [sitC_none, sitC_none]
  constructor
  · intro hall q hq he
    refine hall q (Nat.lt_succ_of_lt hq) ?_
    rw [show cS (addP D) q = cS D q from if_neg (by omega)]; exact he
  · intro hall q hq he
    have hq : q < cP D + 1 := hq
    by_cases hqe : q = cP D
    · rw [show cS (addP D) q = none from if_pos hqe] at he; cases he
    · rw [show cS (addP D) q = cS D q from if_neg hqe] at he
      exact hall q (by omega) he
theorem p_readPerson (hL : L ≤ 240) (f6 : F0 6 = nI L) (tx : ∀ j, j < L → A0 1 j = T j) (VV : DVL L i D) (hj : i < L) (hP6 : cP D < 6) (G : MOK h1 F0 A0 (cP D) (i + 1) D h) : ∃ h', f_X9_readPerson 142 (T i) h = some h' ∧ MR h1 F0 A0 cP h' (persP T L i D) := by
  have Y := VV.2.1
  have hN := Y.n8
  obtain ⟨F, A, K, g19, g20, g22, g23, R⟩ := G
  obtain ⟨h2, e2, M2, X2⟩ := K.1.ast 0 (by omega) (show 1589 + cP D < 1608 by omega) 0
  obtain ⟨h3, e3, M3, X3⟩ := M2.ast 0 (by omega) (show 1595 + cP D < 1608 by omega) (-1)
  rw [setA_set, setA_s] at M3
  have K3 : MK h1 F0 A0 h3 F _ := K.to M3 (X2.trans X3) (fun _ _ => rfl) (as_tail A (fun j hj => by rw [un (by omega), un (by omega)]))
  have R3 : RV3 (setA A 0 (upd (upd (A 0) (1589 + cP D) 0) (1595 + cP D) (-1)) 0) 1541 (addP D) := by
    rw [setA_s]
    refine ⟨fun q hq => ?_, fun q hq => ?_, fun q hq k y hk => ?_, trivial⟩
    · have hq : q < cP D + 1 := hq
      by_cases hqe : q = cP D
      · rw [hqe, show 1541 + 54 + cP D = 1595 + cP D by omega, us, show cS (addP D) (cP D) = none from if_pos rfl]; rfl
      · rw [un (by omega), un (by omega), R.1 q (by omega), show cS (addP D) q = cS D q from if_neg hqe]
    · have hq : q < cP D + 1 := hq
      by_cases hqe : q = cP D
      · rw [hqe, show 1541 + 48 + cP D = 1589 + cP D by omega, un (by omega), us, show cL (addP D) (cP D) = [] from if_pos rfl]; rfl
      · rw [un (by omega), un (by omega), R.2.1 q (by omega), show cL (addP D) q = cL D q from if_neg hqe]
    · have hq : q < cP D + 1 := hq
      by_cases hqe : q = cP D
      · rw [show cL (addP D) q = [] from if_pos hqe] at hk; simp at hk
      · rw [show cL (addP D) q = cL D q from if_neg hqe] at hk
        have := Y.len (show q < cP D by omega)
        have := (List.getElem?_eq_some_iff.mp hk).1
        rw [un (by omega), un (by omega)]
        exact R.2.2.1 q (by omega) k y hk
  generalize setA A 0 (upd (upd (A 0) (1589 + cP D) 0) (1595 + cP D) (-1)) = A3 at M3 K3 R3
  have VV3 : DVL L (i + 1) (addP D) := addP_dv ⟨by omega, VV.2⟩ hP6
  have hp : cP D < cP (addP D) := Nat.lt_succ_self _
  have pre : f_X9_readPerson 142 (T i) h = if T i = 116 then (f_X9_number 142 0 (nI (cN D) - 1) h3).bind fun q7 => (f_X9_fine 142 q7.2).bind fun q8 => if q8.1 = 0 then f_X9_readPerson_b74 142 (nI (cP D)) q7.1 q8.2 else (f_X9_sitterIn 142 1541 (nI (cP D)) q7.1 q8.2).bind fun q9 => if q9.1 = (-1) then f_X9_readPerson_b74 142 (nI (cP D)) q7.1 q9.2 else (gI q9.2 142 9 24).bind fun v10 => (f_X9_fail 142 4 v10 q9.2).bind fun h11 => f_X9_readPerson_b74 142 (nI (cP D)) q7.1 h11 else (f_X9_readLike 142 (nI (cP D)) h3).bind fun h12 => F_X9_readPerson_93 FU 142 (nI (cP D)) h12 := by
    unfold f_X9_readPerson f_X9_readPerson_e
    rw [K.1.chk, K.1.g 23 rfl, bs, g23, K.1.r 0 rfl, bs]
    show (ast h (143 + 0) (nI 1589 + nI (cP D)) 0).bind _ = _
    rw [nI_add, e2, bs, M2.r 0 rfl, bs]
    show (ast h2 (143 + 0) (nI 1595 + nI (cP D)) (-1)).bind _ = _
    rw [nI_add, e3, bs, M3.g 22 rfl, bs, g22]
  -- behind the first words
  have tail : ∀ o h9, OV L o → (∀ z, o = .inr z → cP z.2 = cP (addP D)) → MR h1 F0 A0 (fun _ => cP D) h9 o → ∃ h', F_X9_readPerson_93 FU 142 (nI (cP D)) h9 = some h' ∧ MR h1 F0 A0 cP h' (bnd o (likesP T L (cP D) (L + 1))) := by
    intro o h9 ov op R9
    cases o with
    | inl e =>
      have e9 : F_X9_readPerson_93 FU 142 (nI (cP D)) h9 = f_X9_readPerson_b127 142 h9 := by
        obtain ⟨F5, A5, K5, s20, s21, -⟩ := R9
        show f_X9_readPerson_b93 _ _ _ _ = _
        unfold f_X9_readPerson_b93
        rw [fine1 K5.1 (by rw [s20]; exact nz ov.1 ov.2.1), bs, if_pos (by rfl)]
      obtain ⟨h10, e10, R10⟩ := p_b127 (p := cP D) R9 (fun z hz => by cases hz)
      exact ⟨h10, e9.trans e10, R10⟩
    | inr z =>
      obtain ⟨h10, e10, R10⟩ := l_likesM (p := cP D) (pc := cP D) hL f6 tx (L + 1) z.1 z.2 ov (by rw [op z rfl]; exact hp) (by omega) FU (fu_lt (by omega)) h9 R9
      obtain ⟨l1, l2⟩ := likesP_ov (T := T) (p := cP D) (L + 1) z.1 z.2 ov (by rw [op z rfl]; exact hp)
      obtain ⟨h11, e11, R11⟩ := p_b127 (p := cP D) R10 (fun y hy => (l2 y hy).2.1.trans (op z rfl))
      exact ⟨h11, e10.trans e11, R11⟩
  rw [pre]
  unfold persP
  by_cases h6 : T i = 116
  · rw [if_pos h6, if_pos h6]
    obtain ⟨x, h4, F4, e4, M4, mn, fn, g24, X4⟩ := p_number hL (K3.tx tx) M3 (K3.f6 f6) (show i + 1 ≤ L by omega) g19 g20 0 (nI (cN D) - 1)
    have K4 : MK h1 F0 A0 h4 F4 A3 := K3.to M4 X4 (fun q hq => fn q (by omega) (by omega) (by omega) (by omega)) AS.rfl
    have q22 : F4 22 = nI (cN D) := (fn 22 (by omega) (by omega) (by omega) (by omega)).trans g22
    have q23 : F4 23 = nI (cP D) := (fn 23 (by omega) (by omega) (by omega) (by omega)).trans g23
    -- the seat is laid, whatever came out
    have seat : ∀ (x : Int32) (h5 : HP) (F5 : Nat → Int32), MK h1 F0 A0 h5 F5 A3 → ∃ h6, f_X9_readPerson_b74 142 (nI (cP D)) x h5 = F_X9_readPerson_93 FU 142 (nI (cP D)) h6 ∧ MK h1 F0 A0 h6 F5 (setA A3 0 (upd (A3 0) (1595 + cP D) x)) := by
      intro x h5 F5 K5
      obtain ⟨h6, e6, M6, X6⟩ := K5.1.ast 0 (by omega) (show 1595 + cP D < 1608 by omega) x
      refine ⟨h6, ?_, K5.to M6 X6 (fun _ _ => rfl) (as_tail A3 (fun j hj => un (by omega)))⟩
      unfold f_X9_readPerson_b74
      rw [K5.1.r 0 rfl, bs]
      show (ast h5 (143 + 0) (nI 1595 + nI (cP D)) x).bind _ = _
      rw [nI_add, e6, bs]
    obtain ⟨o1, o2⟩ := seatP_ov (T := T) (p := cP D) VV3
    have key : ∃ h6, ((f_X9_number 142 0 (nI (cN D) - 1) h3).bind fun q7 => (f_X9_fine 142 q7.2).bind fun q8 => if q8.1 = 0 then f_X9_readPerson_b74 142 (nI (cP D)) q7.1 q8.2 else (f_X9_sitterIn 142 1541 (nI (cP D)) q7.1 q8.2).bind fun q9 => if q9.1 = (-1) then f_X9_readPerson_b74 142 (nI (cP D)) q7.1 q9.2 else (gI q9.2 142 9 24).bind fun v10 => (f_X9_fail 142 4 v10 q9.2).bind fun h11 => f_X9_readPerson_b74 142 (nI (cP D)) q7.1 h11) = F_X9_readPerson_93 FU 142 (nI (cP D)) h6 ∧ MR h1 F0 A0 (fun _ => cP D) h6 (seatP T L (addP D) (cP D) (i + 1)) := by
      rw [e4, bs]
      unfold seatP
      have hcn : cN (addP D) = cN D := rfl
      rw [hcn]
      cases hn : numP T L 0 (nI (cN D) - 1) (i + 1) with
      | inl e =>
        rw [hn] at mn
        obtain ⟨a, b, c⟩ := numP_inl (show i + 1 ≤ L by omega) hn
        obtain ⟨m1, m2, i3, m3, m4⟩ := mn
        have hne : ¬ F4 20 = 0 := by rw [m1]; exact nz a b
        obtain ⟨h5, e5, K5⟩ := seat x h4 F4 K4
        refine ⟨h5, ?_, ⟨F4, _, K5, m1, m2, i3, by omega, m4⟩⟩
        show (f_X9_fine 142 h4).bind _ = _
        rw [fine1 M4 hne, bs, if_pos (by rfl)]
        exact e5
      | inr z =>
        rw [hn] at mn
        obtain ⟨m1, m2, m3⟩ := mn
        obtain ⟨z1, z2, r, hr, hz⟩ := numP_room Y (show i + 1 ≤ L by omega) hn
        have hc : z.1.toNatClampNeg = r := by rw [hz]; exact nI_clamp (by omega)
        show ∃ h6, _ ∧ MR h1 F0 A0 (fun _ => cP D) h6 (if sitC (addP D) z.1.toNatClampNeg = none then _ else _)
        rw [hc, m1, hz]
        show ∃ h6, (f_X9_fine 142 h4).bind _ = _ ∧ _
        rw [fine0 M4 m2, bs, if_neg (show ¬ (1 : Int32) = 0 by decide)]
        show ∃ h6, (f_X9_sitterIn 142 (nI 1541) (nI (cP D)) (nI r) h4).bind _ = _ ∧ _
        rw [p_sitterIn3 M4 R3.un Y (by omega) (show r < 8 by omega), bs]
        cases hd : sitC D r with
        | none =>
          rw [if_pos (by rfl), if_pos (sit_add.mpr hd)]
          obtain ⟨h5, e5, K5⟩ := seat (nI r) h4 F4 K4
          refine ⟨h5, e5, ⟨F4, _, K5, m3, m2, q22, q23, ?_⟩⟩
          rw [setA_s]
          refine ⟨fun q hq => ?_, fun q hq => ?_, fun q hq k y hk => ?_, trivial⟩
          · have hq : q < cP D + 1 := hq
            show _ = enc (if q = cP D then some r else cS (addP D) q)
            by_cases hqe : q = cP D
            · rw [if_pos hqe, hqe, show 1541 + 54 + cP D = 1595 + cP D by omega, us]; rfl
            · rw [if_neg hqe, un (by omega)]; exact R3.1 q hq
          · have hq : q < cP D + 1 := hq
            rw [un (by omega)]; exact R3.2.1 q hq
          · have hq : q < cP D + 1 := hq
            have := VV3.2.1.len (show q < cP (addP D) from hq)
            have hk : (cL (addP D) q)[k]? = some y := hk
            have := (List.getElem?_eq_some_iff.mp hk).1
            rw [un (by omega)]; exact R3.2.2.1 q hq k y hk
        | some c =>
          have := (sitC_lt hd).1
          rw [if_neg (show ¬ enc (some c) = -1 from nI_neg1 (by omega)), if_neg (fun q => by rw [sit_add.mp q] at hd; cases hd)]
          obtain ⟨h5, e5, M5, X5⟩ := p_failM0 M4 m2 4 (nI (nx T L (i + 1)))
          have K5 : MK h1 F0 A0 h5 _ A3 := K4.to M5 X5 (fun q hq => (un (by omega)).trans (un (by omega))) AS.rfl
          obtain ⟨h6, e6, K6⟩ := seat (nI r) h5 _ K5
          refine ⟨h6, ?_, ⟨_, _, K6, (un (by omega)).trans us, us, z.2, by omega, (un (by omega)).trans ((un (by omega)).trans m3)⟩⟩
          show (gI h4 142 9 24).bind _ = _
          rw [M4.g 24 rfl, bs, g24]
          show (f_X9_fail 142 4 (nI (nx T L (i + 1))) h4).bind _ = _
          rw [e5, bs]
          exact e6
    obtain ⟨h6, e6, R6⟩ := key
    rw [e6]
    exact tail _ h6 o1 (fun z hz => (o2 z hz).2.1) R6
  · rw [if_neg h6, if_neg h6]
    obtain ⟨h4, e4, R4⟩ := p_readLike (p := cP D) hL f6 tx VV3 hp (pc := cP D) (h := h3) ⟨F, A3, K3, g19, g20, g22, g23, R3⟩
    obtain ⟨o1, o2⟩ := likeP_ov (T := T) (p := cP D) VV3 hp
    rw [e4, bs]
    exact tail _ h4 o1 (fun z hz => (o2 z hz).2.1) R4
/-- the end of a clause -/
theorem p_b132 (hL : L ≤ 240) (f6 : F0 6 = nI L) (tx : ∀ j, j < L → A0 1 j = T j) {o : Out} (ov : OV L o) (R : MR h1 F0 A0 cP h o) : ∃ h', f_X9_readClause_b132 142 h = some h' ∧ MR h1 F0 A0 cP h' (bnd o (semiP T L)) := by
  unfold f_X9_readClause_b132 f_X9_readClause_b157 f_X9_readClause_b167
  cases o with
  | inl e =>
    refine ⟨h, ?_, R⟩
    obtain ⟨F, A, K, g20, g21, -⟩ := R
    rw [fine1 K.1 (by rw [g20]; exact nz ov.1 ov.2.1), bs, if_pos (by rfl)]
  | inr z =>
    obtain ⟨F, A, K, g19, g20, g22, g23, R⟩ := R
    obtain ⟨a, b, d⟩ := nx_le (T := T) ov.1
    have hz := ov.1
    obtain ⟨h2, F2, e2, M2, r19, fq, X2⟩ := p_here hL (K.tx tx) K.1 (K.f6 f6) (show z.1 ≤ 300 by omega) g19
    have K2 : MK h1 F0 A0 h2 F2 A := K.to M2 X2 (fun q hq => fq q (by omega)) AS.rfl
    have r20 : F2 20 = 0 := (fq 20 (by omega)).trans g20
    have r22 := (fq 22 (by omega)).trans g22
    have r23 := (fq 23 (by omega)).trans g23
    rw [fine0 K.1 g20, bs, if_neg (show ¬ (1 : Int32) = 0 by decide)]
    show ∃ h', (f_X9_here 142 h).bind _ = _ ∧ MR h1 F0 A0 cP h' (semiP T L z.1 z.2)
    rw [e2, bs]
    unfold semiP
    by_cases hj : nx T L z.1 < L ∧ T (nx T L z.1) = 59
    · obtain ⟨h3, e3, M3, X3⟩ := M2.p 19 (nI (nx T L z.1 + 1)) rfl (by omega)
      rw [if_pos hj]
      refine ⟨h3, ?_, ⟨_, A, K2.to M3 X3 (fun q hq => un (by omega)) AS.rfl, us, (un (by omega)).trans r20, (un (by omega)).trans r22, (un (by omega)).trans r23, R⟩⟩
      rw [if_pos (by show (if nx T L z.1 < L then T (nx T L z.1) else 0) = 59; rw [if_pos hj.1]; exact hj.2)]
      show (gI h2 142 9 19).bind _ = _
      rw [M2.g 19 rfl, bs, r19, nI_1]
      show (pI h2 142 9 19 _).bind _ = _
      rw [e3, bs]
    · have hne : ¬ (if nx T L z.1 < L then T (nx T L z.1) else 0) = 59 := by
        by_cases hl : nx T L z.1 < L
        · rw [if_pos hl]; exact fun q => hj ⟨hl, q⟩
        · rw [if_neg hl]; decide
      obtain ⟨h3, e3, M3, X3⟩ := p_failM0 M2 r20 1 (nI (nx T L z.1))
      obtain ⟨h4, e4, M4, X4⟩ := M3.p 19 (nI (nx T L z.1 + 1)) rfl (by omega)
      rw [if_neg hj]
      refine ⟨h4, ?_, ⟨_, A, K2.to M4 (X3.trans X4) (fun q hq => (un (by omega)).trans ((un (by omega)).trans (un (by omega)))) AS.rfl, (un (by omega)).trans ((un (by omega)).trans us), (un (by omega)).trans us, nx T L z.1 + 1, by omega, us⟩⟩
      rw [if_neg hne]
      show (gI h2 142 9 19).bind _ = _
      rw [M2.g 19 rfl, bs, r19]
      show (f_X9_fail 142 1 _ h2).bind _ = _
      rw [e3, bs, M3.g 19 rfl, bs, (un (by omega)).trans ((un (by omega)).trans r19), nI_1, e4, bs]
end CLM
