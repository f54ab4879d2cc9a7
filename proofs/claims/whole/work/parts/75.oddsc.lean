/-! odds, the class: each number makes an order, each order is dealt -/
section ORC
variable {h : HP} {a : Nat} {S : CS}
theorem l_member {rm : Int32} {P : Nat} (hP : P ≤ 6) {st am lk od : Nat → Int32} (A : HR h a rm (nI P) st am lk od) {set : Nat} (hs : set < 256) : ∀ m i, i + m = P → ∀ n, m < n → ∀ k, k < 100 → F_X3_member_5 n a (nI set) (nI k) (nI i) h = some (enc (patL set m i k), h) := by
  intro m
  induction m with
  | zero =>
    intro i hi n hn k hk
    obtain ⟨n, rfl⟩ := sx hn
    show f_X3_member_b5 _ _ _ _ _ _ = _
    unfold f_X3_member_b5
    rw [A.g1, bs, if_pos (nI_le (by omega) (by omega))]; rfl
  | succ m ih =>
    intro i hi n hn k hk
    obtain ⟨n, rfl⟩ := sx hn
    show f_X3_member_b5 _ _ _ _ _ _ = _
    unfold f_X3_member_b5 f_X3_member_b33 patL
    rw [A.g1, bs, if_neg (nI_ge (by omega) (by omega)), p_holds hs (by omega), bs, nI_1]
    by_cases hb : set.testBit i = true
    · rw [if_neg (by show ¬ bI (set.testBit i) = 0; rw [hb]; exact b1n), if_pos hb]
      by_cases hk0 : k = 0
      · rw [if_pos hk0, hk0, if_pos (by rfl)]; rfl
      · rw [if_neg hk0, if_neg (nI_ne0 (by omega) (by omega)), show nI k + (-1) = nI (k - 1) by rw [show k = (k - 1) + 1 by omega]; exact pk_m1 _]
        exact ih (i + 1) (by omega) n (by omega) (k - 1) (by omega)
    · rw [if_pos (by show bI (set.testBit i) = 0; rw [Bool.not_eq_true _ |>.mp hb]; rfl), if_neg hb]
      exact ih (i + 1) (by omega) n (by omega) k hk
theorem p_member {rm : Int32} {P : Nat} (hP : P ≤ 6) {st am lk od : Nat → Int32} (A : HR h a rm (nI P) st am lk od) {set : Nat} (hs : set < 256) {k : Nat} (hk : k < 100) : f_X3_member a (nI set) (nI k) h = some (enc (patL set P 0 k), h) := by
  unfold f_X3_member f_X3_member_e
  rw [A.chk]
  exact l_member hP A hs P 0 (by omega) FU (fu_lt (by omega)) k hk
theorem l_orderBy {rm : Int32} {P : Nat} (hP : P ≤ 6) {st am lk : Nat → Int32} : ∀ m i, i + m = P → ∀ n, m < n → ∀ (h : HP) (od : Nat → Int32) (rest left : Nat) (l : List Nat), HR h a rm (nI P) st am lk od → rest < 2 ^ 31 → left < 256 → ordL P m rest left = some l → ∃ h' od', F_X3_orderBy_13 n a (nI rest) (nI left) (nI i) h = some h' ∧ HR h' a rm (nI P) st am lk od' ∧ Fr h h' a 5 ∧ (∀ j, j < i → od' j = od j) ∧ RWl od' i l := by
  intro m
  induction m with
  | zero =>
    intro i hi n hn h od rest left l A hr hl ho
    obtain ⟨n, rfl⟩ := sx hn
    cases ho
    refine ⟨h, od, ?_, A, Fr.rfl, fun _ _ => rfl, fun j x hj => by simp at hj⟩
    show f_X3_orderBy_b13 _ _ _ _ _ _ = _
    unfold f_X3_orderBy_b13
    rw [A.g1, bs, if_pos (nI_le (by omega) (by omega))]
  | succ m ih =>
    intro i hi n hn h od rest left l A hr hl ho
    obtain ⟨n, rfl⟩ := sx hn
    have ho : ((patL left P 0 (rest % (m + 1))).bind fun q => (ordL P m (rest / (m + 1)) (del left q)).map (fun t => q :: t)) = some l := ho
    obtain ⟨q, hq, ho⟩ := Option.bind_eq_some_iff.mp ho
    obtain ⟨t, ht, rfl⟩ := Option.map_eq_some_iff.mp ho
    have hq6 := (patL_lt _ _ _ _ hq).2
    have hmod : rest % (m + 1) < m + 1 := Nat.mod_lt _ (by omega)
    obtain ⟨h1, e1, A1, X1⟩ := A.pod (k := i) (by omega) (nI q)
    obtain ⟨h2, od2, e2, A2, X2, k2, w2⟩ := ih (i + 1) (by omega) n (by omega) h1 _ (rest / (m + 1)) (del left q) t A1 (Nat.lt_of_le_of_lt (Nat.div_le_self _ _) hr) (m_del_lt left hl q (by omega)) ht
    refine ⟨h2, od2, ?_, A2, X1.trans X2, fun j hj => ?_, fun j x hj => ?_⟩
    · have hd : nI P - nI i = nI (m + 1) := by rw [pk_sub (by omega), show P - i = m + 1 by omega]
      have hz : ¬ nI (m + 1) = 0 := nI_ne0 (by omega) (by omega)
      have hm : f_X3_member a (nI left) (nI rest - nI rest / nI (m + 1) * nI (m + 1)) h = some (nI q, h) := by
        rw [pk_rem hr (by omega) (by omega), p_member hP A hl (by omega), hq]; rfl
      show f_X3_orderBy_b13 _ _ _ _ _ _ = _
      unfold f_X3_orderBy_b13
      rw [A.g1, bs, if_neg (nI_ge (by omega) (by omega)), bs, hd, if_neg hz, hm, bs]
      show (if nI (m + 1) = 0 then none else (gR h a 3 5).bind fun r4 => (f_X8_put r4 (nI i) (nI q) h).bind fun h5 => (f_X8_without (nI left) (nI q) h5).bind fun q6 => F_X3_orderBy_13 n a (nI rest / nI (m + 1)) q6.1 (nI i + 1) q6.2) = _
      rw [if_neg hz, A.r5, bs, e1, bs, p_without hl (by omega), bs, pk_div hr (by omega) (by omega), nI_1]
      exact e2
    · rw [k2 j (by omega), un (by omega)]
    · cases j with
      | zero =>
        have hx : q = x := by simpa using hj
        rw [Nat.add_zero, k2 i (by omega), us, hx]
      | succ j =>
        have := w2 j x (by simpa using hj)
        rw [show i + (j + 1) = i + 1 + j by omega]
        exact this
theorem p_orderBy (V : HV h a S) (Y : VS S) {c : Nat} (hc : c < 2 ^ 31) {l : List Nat} (hl : ordL (cP S) (cP S) c (2 ^ cP S - 1) = some l) : ∃ h', f_X3_orderBy a (nI c) h = some h' ∧ HV h' a (setOd S l) ∧ Fr h h' a 5 := by
  have hP := Y.p6
  obtain ⟨st, am, lk, od, A, r⟩ := V.hr
  obtain ⟨h', od', e, A', X, -, w⟩ := l_orderBy (a := a) hP (cP S) 0 (by omega) FU (fu_lt (by omega)) h od c (2 ^ cP S - 1) l A hc (m_full_lt _ (by omega)) hl
  refine ⟨h', ?_, HR.hv (S := setOd S l) A' ⟨r.1, r.2.1, r.2.2.1, fun j x hj => by have := w j x hj; rwa [Nat.zero_add] at this⟩, X⟩
  unfold f_X3_orderBy f_X3_orderBy_e
  rw [A.chk, A.g1, bs, p_firstOnes (by omega), bs]
  exact e
theorem l_orders (V : HV h a S) (Y : VS S) : ∀ m i, i + m = cP S + 1 → ∀ n, m < n → ∀ t, F_X3_orders_4 n a (nI t) (nI i) h = some (nI (fld (fun a b => a * b) m i t), h) := by
  have hP := Y.p6
  intro m
  induction m with
  | zero =>
    intro i hi n hn t
    obtain ⟨n, rfl⟩ := sx hn
    show f_X3_orders_b4 _ _ _ _ _ = _
    unfold f_X3_orders_b4
    rw [V.pers, bs, if_pos (nI_lt (by omega) (by omega))]; rfl
  | succ m ih =>
    intro i hi n hn t
    obtain ⟨n, rfl⟩ := sx hn
    show f_X3_orders_b4 _ _ _ _ _ = _
    unfold f_X3_orders_b4
    rw [V.pers, bs, if_neg (nI_nlt (by omega) (by omega)), pk_mul, nI_1]
    exact ih (i + 1) (by omega) n (by omega) (t * i)
theorem p_orders (V : HV h a S) (Y : VS S) (h1 : 1 ≤ cP S) : f_X3_orders a h = some (nI (fcP (cP S)), h) := by
  have hP := Y.p6
  unfold f_X3_orders f_X3_orders_e
  rw [V.chk]
  exact l_orders V Y (cP S - 1) 2 (by omega) FU (fu_lt (by omega)) 1
theorem l_oddsC (Y : VS S) {p : Nat} (hp : p < cP S) (x : Int32) {z : Nat} (hz : z < 3000) (ho : ∀ c, c < z → ordL (cP S) (cP S) c (2 ^ cP S - 1) = some (ordG (cP S) c) ∧ okO (cP S) (ordG (cP S) c) = true) : ∀ m i, i + m = z → ∀ n, m < n → ∀ (h : HP) (l : List Nat) (c : Nat), C0 h → HV h 8 (setOd S l) → DX h 13 → ∃ h', F_X8_odds_50 n 0 (nI p) x (nI z) (nI c) (nI i) h = some (nI (c + ((List.range' i m).map (ordG (cP S))).countP (fun l => decide (gC (setOd S l) p = x))), h') ∧ HX h' 8 ∧ DX h' 13 ∧ Fr h h' 8 11 := by
  intro m
  induction m with
  | zero =>
    intro i hi n hn h l c C V D
    obtain ⟨n, rfl⟩ := sx hn
    refine ⟨h, ?_, V.hx, D, Fr.rfl⟩
    show f_X8_odds_b50 _ _ _ _ _ _ _ _ = _
    unfold f_X8_odds_b50
    rw [if_pos (nI_le (by omega) (by omega))]
    rfl
  | succ m ih =>
    intro i hi n hn h l c C V D
    obtain ⟨n, rfl⟩ := sx hn
    obtain ⟨o1, o2⟩ := ho i (by omega)
    have Y1 : VS (setOd S (ordG (cP S) i)) := Y.ok o2
    have V' : HV h 8 S ∨ True := Or.inr trivial
    obtain ⟨st, am, lk, od, A, r⟩ := V.hr
    obtain ⟨h1, od', e, A', X1, -, w⟩ := l_orderBy (a := 8) Y.p6 (cP S) 0 (by omega) FU (fu_lt (by have := Y.p6; omega)) h od i (2 ^ cP S - 1) (ordG (cP S) i) A (by omega) (m_full_lt _ (by have := Y.p6; omega)) o1
    have V1 : HV h1 8 (setOd S (ordG (cP S) i)) := HR.hv (S := setOd S (ordG (cP S) i)) A' ⟨r.1, r.2.1, r.2.2.1, fun j x hj => by have := w j x hj; rwa [Nat.zero_add] at this⟩
    have e1 : f_X3_orderBy 8 (nI i) h = some h1 := by
      unfold f_X3_orderBy f_X3_orderBy_e
      rw [A.chk, A.g1, bs, p_firstOnes (show cP (setOd S l) < 9 by show cP S < 9; have := Y.p6; omega), bs]
      exact e
    obtain ⟨h2, e2, D2, X2⟩ := p_dealA Y1 (a := 8) (by omega) V1 (D.eq (fun j _ _ => X1 j (by omega)))
    have V2 : HV h2 8 (setOd S (ordG (cP S) i)) := V1.fr X2 (by omega)
    have c1 : C0 h1 := C.eq (X1 0 (by omega))
    have c2 : C0 h2 := c1.eq (X2 0 (by omega))
    have X12 : Fr h h2 8 11 := (X1.wide (by omega) (by omega) : Fr h h1 8 11).trans (X2.wide (by omega) (by omega))
    have pre : F_X8_odds_50 (n + 1) 0 (nI p) x (nI z) (nI c) (nI i) h = F_X8_odds_50 n 0 (nI p) x (nI z) (nI (c + if gC (setOd S (ordG (cP S) i)) p = x then 1 else 0)) (nI (i + 1)) h2 := by
      show f_X8_odds_b50 _ _ _ _ _ _ _ _ = _
      unfold f_X8_odds_b50 f_X8_odds_b91
      rw [if_neg (nI_ge (by omega) (by omega)), C.r 2 rfl, bs, e1, bs, c1.r 3 rfl, bs, c1.r 2 rfl, bs, e2, bs, c2.r 3 rfl, bs, p_roomOf D2 Y1 (p := p) hp, bs, nI_1, nI_1]
      by_cases hg : gC (setOd S (ordG (cP S) i)) p = x
      · rw [if_pos hg, if_pos hg]
      · rw [if_neg hg, if_neg hg]; rfl
    obtain ⟨h3, e3, H3, D3, X3⟩ := ih (i + 1) (by omega) n (by omega) h2 (ordG (cP S) i) (c + if gC (setOd S (ordG (cP S) i)) p = x then 1 else 0) c2 V2 D2.dx
    refine ⟨h3, ?_, H3, D3, X12.trans X3⟩
    rw [pre, e3]
    show _ = some (nI (c + ((ordG (cP S) i :: (List.range' (i + 1) m).map (ordG (cP S))).countP (fun l => decide (gC (setOd S l) p = x)))), h3)
    rw [List.countP_cons]
    simp only [decide_eq_true_eq]
    congr 3
    omega
end ORC
