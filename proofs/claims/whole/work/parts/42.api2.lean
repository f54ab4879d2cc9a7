theorem OB.w {h : HP} {a ci : Nat} {fs : List MV} (O : OB h a ci fs) (k : Nat) (x : Int32) {gs : List MV} (hg : fs.set k (.inl x) = gs) (hl : k < fs.length) : ∃ h', pI h a ci k x = some h' ∧ OB h' a ci gs ∧ Fr h h' a 1 := by
  subst hg
  exact ⟨_, O.p k (.inl x) hl, O.set _, Fr.set (by omega) (by omega)⟩
theorem IA.w {h : HP} {a n : Nat} {f : Nat → Int32} (O : IA h a n f) {k : Nat} (hk : k < n) (hn : n < 2 ^ 31) (x : Int32) : ∃ h', f_X8_put a (nI k) x h = some h' ∧ IA h' a n (upd f k x) ∧ Fr h h' a 1 := ⟨_, ia_put O hk hn x, O.set _, Fr.set (by omega) (by omega)⟩
/-- behind a write of the class within its own cells, and one of the reference within its own -/
theorem s_tear : SK0 f_X8_tear f_X9_tear Inv := by
  intro h hI
  obtain ⟨F, A, S, M, I⟩ := hI
  obtain ⟨q, e, sr, sg, ep, er, t1, t2, t3, t4, t5, t6, t7, t8, t9, t10, t11⟩ := I.2.2.2.2.2.2.2.2.2.2.2.1
  obtain ⟨h1, p1, o1, X1⟩ := t3.w 0 0 (gs := [.inl 0, .inl (nI e), .inr (some 124), .inr (some 125), .inr (some 126), .inr (some 127)]) rfl (Nat.le_of_ble_eq_true rfl)
  obtain ⟨h2, p2, o2, X2⟩ := o1.w 1 0 (gs := [.inl 0, .inl 0, .inr (some 124), .inr (some 125), .inr (some 126), .inr (some 127)]) rfl (Nat.le_of_ble_eq_true rfl)
  have X : Fr h h2 123 1 := X1.trans X2
  have M2 := M.fr X (by omega)
  obtain ⟨h3, p3, M3, X3⟩ := M2.p 15 0 rfl (by omega)
  obtain ⟨h4, p4, M4, X4⟩ := M3.p 18 0 rfl (by omega)
  have XX := X3.trans X4
  refine ⟨nI q + nI e, h2, h4, ?_, ?_, ⟨_, _, S, M4, ?_⟩⟩
  · unfold f_X8_tear f_X8_tear_e f_X5_clear f_X5_clear_e
    rw [I.1.chk, I.1.r 6 rfl, bs, t3.g 0 rfl, bs, bs, t3.g 1 rfl, bs, bs, t3.chk, p1, bs, p2, bs, bs]
  · unfold f_X9_tear f_X9_tear_e
    rw [M2.chk, M2.g 15 rfl, bs, M2.g 18 rfl, bs, p3, bs, p4, bs, t8, t9]
  · have he : ∀ k, k < 142 → k ≠ 123 → h4[k]? = h[k]? := fun k h1 h2 => (XX k (by omega)).trans (X k (by omega))
    obtain ⟨i1, i2, i3, i4, i5, i6, i7, i8, i9, i10, i11, i12, i13, i14⟩ := I
    refine ⟨i1.eq (he _ (by omega) (by omega)), i2, i3.eq (fun k h1 h2 => he k (by omega) (by omega)), i4, i5, i6, i7.eq (fun k h1 h2 => he k (by omega) (by omega)), i8.eq (fun k h1 h2 => he k (by omega) (by omega)), i9.mv (he _ (by omega) (by omega)) (he _ (by omega) (by omega)), i10.mv (he _ (by omega) (by omega)) (he _ (by omega) (by omega)) rfl rfl rfl, i11.mv (fun k h1 h2 => he k (by omega) (by omega)) rfl (fun _ _ _ => rfl) rfl rfl, ?_, i13.mv (he _ (by omega) (by omega)) rfl, i14.mv (fun k h1 h2 => he k (by omega) (by omega)) rfl (fun _ _ _ => rfl) rfl rfl⟩
    exact ⟨0, 0, sr, sg, ep, er, by omega, by omega, o2.eq (XX 123 (by omega)), t4.eq (he _ (by omega) (by omega)), t5.eq (he _ (by omega) (by omega)), t6.eq (he _ (by omega) (by omega)), t7.eq (he _ (by omega) (by omega)), rfl, rfl, fun i hi => by omega, fun i hi => by omega⟩
theorem s_seed : SK1 f_X8_seed f_X9_seed Inv := by
  intro h x hI
  obtain ⟨F, A, S, M, I⟩ := id hI
  obtain ⟨s, t1, t2, t3⟩ := I.2.2.2.2.2.2.2.2.2.2.2.2.1
  by_cases hx : 0 ≤ x
  · obtain ⟨h1, p1, o1, X⟩ := t1.w 0 x (gs := [.inl x]) rfl (Nat.le_of_ble_eq_true rfl)
    have M1 := M.fr X (by omega)
    obtain ⟨h2, p2, M2, X2⟩ := M1.ast 0 (by omega) (show 66 < 1608 by omega) x
    refine ⟨s, h1, h2, ?_, ?_, ⟨_, _, S, M2, ?_⟩⟩
    · unfold f_X8_seed f_X8_seed_e
      rw [I.1.chk, if_pos hx, I.1.r 7 rfl, bs, t1.g 0 rfl, bs, bs, p1, bs]
    · unfold f_X9_seed f_X9_seed_e
      rw [M1.chk, if_pos hx, M1.r 0 rfl, bs]
      show (ald h1 (143 + 0) (nI 66)).bind _ = _
      rw [M1.ald 0 (by omega) (show 66 < 1608 by omega), bs, bs]
      show (ast h1 (143 + 0) (nI 66) x).bind _ = _
      rw [p2, bs, t2]
    · have he : ∀ k, k < 142 → k ≠ 128 → h2[k]? = h[k]? := fun k h1 h2 => (X2 k (by omega)).trans (X k (by omega))
      have ha : ∀ j, j ≠ 66 → setA A 0 (upd (A 0) 66 x) 0 j = A 0 j := fun j hj => by rw [setA_s, un hj]
      obtain ⟨i1, i2, i3, i4, i5, i6, i7, i8, i9, i10, i11, i12, i13, i14⟩ := I
      refine ⟨i1.eq (he _ (by omega) (by omega)), i2, i3.eq (fun k h1 h2 => he k (by omega) (by omega)), i4, i5, i6.eq i2 (fun j h1 h2 => ha j (by omega)), i7.eq (fun k h1 h2 => he k (by omega) (by omega)), i8.eq (fun k h1 h2 => he k (by omega) (by omega)), i9.mv (he _ (by omega) (by omega)) (he _ (by omega) (by omega)), i10.mv (he _ (by omega) (by omega)) (he _ (by omega) (by omega)) rfl rfl (setA_n _ _ (by omega)), i11.mv (fun k h1 h2 => he k (by omega) (by omega)) rfl (fun j h1 h2 => ha j (by omega)) rfl rfl, i12.mv (fun k h1 h2 => he k (by omega) (by omega)) rfl rfl (setA_n _ _ (by omega)) (setA_n _ _ (by omega)) (setA_n _ _ (by omega)) (setA_n _ _ (by omega)) rfl, ?_, i14.mv (fun k h1 h2 => he k (by omega) (by omega)) rfl (fun j h1 h2 => ha j (by omega)) rfl rfl⟩
      exact ⟨x, o1.eq (X2 128 (by omega)), by rw [setA_s, us], Int32.not_lt.mpr hx⟩
  · refine ⟨-1000000002, h, h, ?_, ?_, hI⟩
    · unfold f_X8_seed f_X8_seed_e
      rw [I.1.chk, if_neg hx]
    · unfold f_X9_seed f_X9_seed_e
      rw [M.chk, if_neg hx]
theorem s_feed : SK1 f_X8_feed f_X9_feed Inv := by
  intro h x hI
  obtain ⟨F, A, S, M, I⟩ := id hI
  have e8 : f_X8_feed 0 x h = f_X8_feed_e 0 x h := by unfold f_X8_feed; rw [I.1.chk]
  have e9 : ∀ h', (∃ F' A', MM h' F' A') → f_X9_feed 142 x h' = f_X9_feed_e 142 x h' := fun h' ⟨F', A', M'⟩ => by unfold f_X9_feed; rw [M'.chk]
  by_cases hx : ¬ x < 0 ∧ ¬ (255 : Int32) < x
  · obtain ⟨L, fa, b, c, d, lt, t1, t2, t3, t4, t5, t6⟩ := I.2.2.2.2.2.2.2.2.2.1
    have hle : x ≤ 255 := Int32.not_lt.mp hx.2
    by_cases hL : L < 240
    · obtain ⟨h1, pp, l1, X1⟩ := t3.w hL (by omega) x
      have o1 := t2.eq (X1 1 (by omega))
      obtain ⟨h2, p2, o2, X2⟩ := o1.w 0 (nI (L + 1)) (gs := [.inl (nI (L + 1)), .inl fa, .inl b, .inl c, .inl d, .inr (some 2)]) rfl (Nat.le_of_ble_eq_true rfl)
      have l2 := l1.eq (X2 2 (by omega))
      have X : Fr h h2 1 2 := (X1.wide (by omega) (by omega)).trans (X2.wide (by omega) (by omega))
      have M2 := M.fr X (by omega)
      obtain ⟨h3, p3, M3, X3⟩ := M2.ast 1 (by omega) (show L < 240 by omega) x
      obtain ⟨h4, p4, M4, X4⟩ := M3.p 6 (nI (L + 1)) rfl (by omega)
      have XX := X3.trans X4
      refine ⟨nI (L + 1), h2, h4, ?_, ?_, ⟨_, _, S, M4, ?_⟩⟩
      · rw [e8]
        unfold f_X8_feed_e f_X7_add f_X7_add_e
        rw [if_neg hx.1, if_pos hle, I.1.r 0 rfl, bs, t2.chk, t2.g 0 rfl, bs, if_pos (show nI L < (240 : Int32) from nI_lt (b := 240) hL (by omega)), t2.r 5 rfl, bs, bs, pp, bs, o1.g 0 rfl, bs, nI_1, p2, bs, o2.g 0 rfl, bs, bs]
      · rw [e9 h2 ⟨F, A, M2⟩]
        unfold f_X9_feed_e
        rw [p_in, bs, if_neg (by show ¬ bI (decide _) = 0; rw [decide_eq_true hx]; exact b1n)]
        show (gI h2 142 9 6).bind _ = _
        rw [M2.g 6 rfl, bs, t4, if_neg (show ¬ nI L = (240 : Int32) from fun z => by have := (nI_eq (a := L) (b := 240) (by omega) (by omega)).mp z; omega), M2.r 5 rfl, bs, bs]
        show (ast h2 (143 + 1) (nI L) x).bind _ = _
        rw [p3, bs, M3.g 6 rfl, bs, t4, nI_1, p4, bs, M4.g 6 rfl, bs, us]
      · have he : ∀ k, k < 142 → k ≠ 1 → k ≠ 2 → h4[k]? = h[k]? := fun k h1 h2 h3 => (XX k (by omega)).trans (X k (by omega))
        obtain ⟨i1, i2, i3, i4, i5, i6, i7, i8, i9, i10, i11, i12, i13, i14⟩ := I
        refine ⟨i1.eq (he _ (by omega) (by omega) (by omega)), i2, i3.eq (fun k h1 h2 => he k (by omega) (by omega) (by omega)), i4, i5, i6, i7.eq (fun k h1 h2 => he k (by omega) (by omega) (by omega)), i8.eq (fun k h1 h2 => he k (by omega) (by omega) (by omega)), i9.mv (he _ (by omega) (by omega) (by omega)) (he _ (by omega) (by omega) (by omega)), ?_, i11.mv (fun k h1 h2 => he k (by omega) (by omega) (by omega)) rfl (fun _ _ _ => rfl) rfl rfl, i12.mv (fun k h1 h2 => he k (by omega) (by omega) (by omega)) rfl rfl rfl rfl rfl rfl rfl, i13.mv (he _ (by omega) (by omega) (by omega)) rfl, i14.mv (fun k h1 h2 => he k (by omega) (by omega) (by omega)) rfl (fun _ _ _ => rfl) rfl rfl⟩
        refine ⟨L + 1, fa, b, c, d, upd lt L x, hL, o2.eq (XX 1 (by omega)), l2.eq (XX 2 (by omega)), us, (un (by omega)).trans t5, fun j hj => ?_⟩
        rw [setA_s]
        by_cases hjl : j = L
        · rw [hjl, us, us]; exact ⟨rfl, hx.1⟩
        · rw [un hjl, un hjl]; exact t6 j (by omega)
    · have hLe : L = 240 := by omega
      refine ⟨-1000000004, h, h, ?_, ?_, hI⟩
      · rw [e8]
        unfold f_X8_feed_e f_X7_add f_X7_add_e
        rw [if_neg hx.1, if_pos hle, I.1.r 0 rfl, bs, t2.chk, t2.g 0 rfl, bs, if_neg (show ¬ nI L < (240 : Int32) from nI_nlt (b := 240) (by omega) (by omega)), bs]
      · rw [e9 h ⟨F, A, M⟩]
        unfold f_X9_feed_e
        rw [p_in, bs, if_neg (by show ¬ bI (decide _) = 0; rw [decide_eq_true hx]; exact b1n)]
        show (gI h 142 9 6).bind _ = _
        rw [M.g 6 rfl, bs, t4, if_pos (by rw [hLe]; rfl)]
  · refine ⟨-1000000002, h, h, ?_, ?_, hI⟩
    · rw [e8]
      unfold f_X8_feed_e
      by_cases h0 : x < 0
      · rw [if_pos h0]; rfl
      · rw [if_neg h0, if_neg (fun z => hx ⟨h0, Int32.not_lt.mpr z⟩)]; rfl
    · rw [e9 h ⟨F, A, M⟩]
      unfold f_X9_feed_e
      rw [p_in, bs, if_pos (by show bI (decide _) = 0; rw [decide_eq_false hx]; rfl)]
theorem s_see : SKZ f_X8_see f_X9_see Inv := by
  intro h x y hy hI
  obtain ⟨F, A, S, M, I⟩ := id hI
  obtain ⟨t, e1, e2, ht⟩ := both_roomN M I x
  cases t with
  | false =>
    refine ⟨-1000000001, h, h, ?_, ?_, hI⟩
    · unfold f_X8_see f_X8_see_e
      rw [I.1.chk, I.1.r 1 rfl, bs, e1, bs, if_pos (by rfl)]
    · unfold f_X9_see f_X9_see_e
      rw [M.chk, e2 h F A M I.2.2.2.1, bs, if_pos (by rfl)]
  | true =>
    obtain ⟨q, e, sr, sg, ep, er, t1, t2, t3, t4, t5, t6, t7, t8, t9, t10, t11⟩ := I.2.2.2.2.2.2.2.2.2.2.2.1
    have pre8 : f_X8_see 0 x y h = (f_X5_addSeen 123 x y h).bind fun q4 => some (q4.1, q4.2) := by
      unfold f_X8_see f_X8_see_e
      rw [I.1.chk, I.1.r 1 rfl, bs, e1, bs, if_neg b1n, I.1.r 6 rfl, bs]
    by_cases hq : q < 6
    · obtain ⟨h1, pp, l1, X1⟩ := t4.w hq (by omega) x
      have o1 := t3.eq (X1 123 (by omega))
      have g1 := t5.eq (X1 125 (by omega))
      obtain ⟨h2, pp2, g2, X2⟩ := g1.w hq (by omega) y
      have o2 := o1.eq (X2 123 (by omega))
      obtain ⟨h3, p3, o3, X3⟩ := o2.w 0 (nI (q + 1)) (gs := [.inl (nI (q + 1)), .inl (nI e), .inr (some 124), .inr (some 125), .inr (some 126), .inr (some 127)]) rfl (Nat.le_of_ble_eq_true rfl)
      have l3 := (l1.eq (X2 124 (by omega))).eq (X3 124 (by omega))
      have g3 := g2.eq (X3 125 (by omega))
      have k3 := ((t6.eq (X1 126 (by omega))).eq (X2 126 (by omega))).eq (X3 126 (by omega))
      have m3 := ((t7.eq (X1 127 (by omega))).eq (X2 127 (by omega))).eq (X3 127 (by omega))
      have X : Fr h h3 123 5 := ((X1.wide (by omega) (by omega)).trans (X2.wide (by omega) (by omega))).trans (X3.wide (by omega) (by omega))
      have M3 := M.fr X (by omega)
      obtain ⟨h4, p4, M4, X4⟩ := M3.ast 6 (by omega) (show q < 6 by omega) x
      obtain ⟨h5, p5, M5, X5⟩ := M4.ast 7 (by omega) (show q < 6 by omega) y
      obtain ⟨h6, p6, M6, X6⟩ := M5.p 15 (nI (q + 1)) rfl (by omega)
      have XX := (X4.trans X5).trans X6
      have hyy : (if y = 0 then (0 : Int32) else 1) = y := by rcases hy with z | z <;> rw [z] <;> rfl
      refine ⟨nI (q + 1), h3, h6, ?_, ?_, ⟨_, _, S, M6, ?_⟩⟩
      · rw [pre8]
        unfold f_X5_addSeen f_X5_addSeen_e
        rw [t3.chk, t3.g 0 rfl, bs, if_pos (show nI q < (6 : Int32) from nI_lt (b := 6) hq (by omega)), t3.r 2 rfl, bs, bs, pp, bs, o1.r 3 rfl, bs, o1.g 0 rfl, bs]
        have jn : f_X5_addSeen_b41 123 125 (nI q) y h1 = some (nI (q + 1), h3) := by
          unfold f_X5_addSeen_b41
          rw [pp2, bs, o2.g 0 rfl, bs, nI_1, p3, bs, o3.g 0 rfl, bs]
        rcases hy with z | z
        · rw [if_pos z]; rw [z] at jn; rw [jn, bs]
        · rw [if_neg (by rw [z]; decide)]; rw [z] at jn; rw [jn, bs]
      · unfold f_X9_see f_X9_see_e
        rw [M3.chk, e2 h3 F A M3 I.2.2.2.1, bs, if_neg b1n]
        show (gI h3 142 9 15).bind _ = _
        rw [M3.g 15 rfl, bs, t8, if_neg (show ¬ nI q = (6 : Int32) from fun z => by have := (nI_eq (a := q) (b := 6) (by omega) (by omega)).mp z; omega), M3.r 13 rfl, bs, bs]
        show (ast h3 (143 + 6) (nI q) x).bind _ = _
        rw [p4, bs, M4.r 14 rfl, bs, M4.g 15 rfl, bs, t8]
        have jn : f_X9_see_b50 142 150 (nI q) y h4 = some (nI (q + 1), h6) := by
          unfold f_X9_see_b50
          show (ast h4 (143 + 7) (nI q) y).bind _ = _
          rw [p5, bs, M5.g 15 rfl, bs, t8, nI_1, p6, bs, M6.g 15 rfl, bs, us]
        rcases hy with z | z
        · rw [if_pos z]; rw [z] at jn; exact jn
        · rw [if_neg (by rw [z]; decide)]; rw [z] at jn; exact jn
      · have he : ∀ k, k < 142 → (k < 123 ∨ 128 ≤ k) → h6[k]? = h[k]? := fun k h1 h2 => (XX k (by omega)).trans (X k (by omega))
        obtain ⟨i1, i2, i3, i4, i5, i6, i7, i8, i9, i10, i11, i12, i13, i14⟩ := I
        refine ⟨i1.eq (he _ (by omega) (by omega)), i2, i3.eq (fun k h1 h2 => he k (by omega) (by omega)), i4, i5, i6, i7.eq (fun k h1 h2 => he k (by omega) (by omega)), i8.eq (fun k h1 h2 => he k (by omega) (by omega)), i9.mv (he _ (by omega) (by omega)) (he _ (by omega) (by omega)), i10.mv (he _ (by omega) (by omega)) (he _ (by omega) (by omega)) rfl rfl rfl, i11.mv (fun k h1 h2 => he k (by omega) (by omega)) rfl (fun _ _ _ => rfl) rfl rfl, ?_, i13.mv (he _ (by omega) (by omega)) rfl, i14.mv (fun k h1 h2 => he k (by omega) (by omega)) rfl (fun _ _ _ => rfl) rfl rfl⟩
        refine ⟨q + 1, e, upd sr q x, upd sg q y, ep, er, by omega, t2, o3.eq (XX 123 (by omega)), l3.eq (XX 124 (by omega)), g3.eq (XX 125 (by omega)), k3.eq (XX 126 (by omega)), m3.eq (XX 127 (by omega)), us, (un (by omega)).trans t9, fun i hi => ?_, fun i hi => ?_⟩
        · rw [setA_n _ _ (by omega), setA_s, setA_s, setA_n _ _ (by omega)]
          by_cases hiq : i = q
          · rw [hiq, us, us, us, us]; exact ⟨rfl, rfl⟩
          · rw [un hiq, un hiq, un hiq, un hiq]; exact t10 i (by omega)
        · exact t11 i hi
    · have hq6 : q = 6 := by omega
      refine ⟨-1000000004, h, h, ?_, ?_, hI⟩
      · rw [pre8]
        unfold f_X5_addSeen f_X5_addSeen_e
        rw [t3.chk, t3.g 0 rfl, bs, if_neg (show ¬ nI q < (6 : Int32) from nI_nlt (b := 6) (by omega) (by omega)), bs]
      · unfold f_X9_see f_X9_see_e
        rw [M.chk, e2 h F A M I.2.2.2.1, bs, if_neg b1n]
        show (gI h 142 9 15).bind _ = _
        rw [M.g 15 rfl, bs, t8, if_pos (by rw [hq6]; rfl)]
