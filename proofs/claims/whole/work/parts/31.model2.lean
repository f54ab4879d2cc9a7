/-- rows but that of wants -/
def AE (A A' : AT) : Prop := ∀ j, j ≠ 5 → A' j = A j
theorem AE.rfl {A : AT} : AE A A := fun _ _ => Eq.refl _
theorem AE.trans {A B C : AT} (h1 : AE A B) (h2 : AE B C) : AE A C := fun j hj => (h2 j hj).trans (h1 j hj)
theorem AE.set (A : AT) (g : Nat → Int32) : AE A (setA A 5 g) := fun j hj => setA_n A g hj
section MOD2
variable {h : HP} {F : Nat → Int32} {A : AT} {S : CS} {x : Nat}
theorem p_layWants (M : MM h F A) (R : RV (A 0) x S) (Y : VS S) (hx : x ≤ 1541) {p : Nat} (hp : p < cP S) : ∃ h' g, f_X9_layWants 142 (nI x) (nI p) h = some (nI (wantsC S p).length, h') ∧ MM h' F (setA A 5 g) ∧ Fr h h' 142 12 ∧ RWl g 0 (wantsC S p) := by
  have hP := Y.p6
  have hl := Y.len hp
  obtain ⟨h', g, e, M', F', -, g2⟩ := l_layWants (F := F) Y hx hp (cL S p) 0 rfl (by omega) FU (fu_lt (by omega)) h A M R
  refine ⟨h', g, ?_, M', F', g2⟩
  unfold f_X9_layWants f_X9_layWants_e
  rw [M.chk, M.r 0 rfl, bs, ix54, M.ald 0 (by omega) (show x + 54 + p < 1608 by omega), bs, R.1 p hp]
  rw [Nat.zero_add] at e
  exact e
theorem wants_lt (Y : VS S) {p r : Nat} (hp : p < cP S) (hr : r ∈ wantsC S p) : r < 8 := by
  have key : ∀ l : List Nat, (∀ x ∈ l, x < cN S) → r ∈ wants (cS S p) l → r < cN S := by
    intro l
    induction l with
    | nil =>
      intro _ hm
      unfold wants at hm
      cases hc : cS S p with
      | none => rw [hc] at hm; simp at hm
      | some q => rw [hc] at hm; simp at hm; rw [hm]; exact Y.2.2.1 p hp q hc
    | cons x t ih =>
      intro hx hm
      unfold wants at hm
      by_cases hq : cS S p = some x
      · rw [if_pos hq] at hm; simp at hm; rw [hm]; exact hx x List.mem_cons_self
      · rw [if_neg hq] at hm
        rcases List.mem_cons.mp hm with q | q
        · rw [q]; exact hx x List.mem_cons_self
        · exact ih (fun y hy => hx y (List.mem_cons_of_mem _ hy)) q
  have := key _ (Y.2.2.2.2.1 p hp).2 hr
  have := Y.n8
  omega
theorem wants_len (Y : VS S) {p : Nat} (hp : p < cP S) : (wantsC S p).length ≤ 9 := by
  have hl := Y.len hp
  have key : ∀ l : List Nat, (wants (cS S p) l).length ≤ l.length + 1 := by
    intro l
    induction l with
    | nil => unfold wants; cases cS S p <;> simp
    | cons x t ih =>
      unfold wants
      split
      · simp
      · simp; exact ih
  have := key (cL S p)
  unfold wantsC
  omega
theorem l_mostOf {s : Nat} (hs : s < 256) {l : List Nat} (hl : l.length ≤ 9) (hr : ∀ r ∈ l, r < 8) (M : MM h F A) (g : RWl (A 5) 0 l) : ∀ (t : List Nat) i, l.drop i = t → i ≤ l.length → ∀ n, t.length < n → F_X9_mostOf_11 n 142 (nI s) (nI l.length) (nI i) h = some (enc (bestL s t), h) := by
  intro t
  induction t with
  | nil =>
    intro i hi hi2 n hn
    obtain ⟨n, rfl⟩ := sx hn
    have : l.length ≤ i := List.drop_eq_nil_iff.mp hi
    show f_X9_mostOf_b11 _ _ _ _ _ _ = _
    unfold f_X9_mostOf_b11
    rw [if_pos (nI_le this (by omega))]; rfl
  | cons y t ih =>
    intro i hi hi2 n hn
    obtain ⟨n, rfl⟩ := sx hn
    obtain ⟨d1, d2, d3⟩ := drop_cons hi
    have hy := hr y (List.mem_of_getElem? d1)
    have hg := g i y d1
    rw [Nat.zero_add] at hg
    show f_X9_mostOf_b11 _ _ _ _ _ _ = _
    unfold f_X9_mostOf_b11 bestL
    rw [if_neg (nI_ge d3 (by omega)), M.r 12 rfl, bs]
    show (ald h (143 + 5) (nI i)).bind _ = _
    rw [M.ald 5 (by omega) (show i < 9 by omega), bs, hg, p_has hs hy, bs]
    by_cases hb : s.testBit y = true
    · rw [if_neg (by rw [hb]; exact b1n), List.find?_cons_of_pos hb]
      show (gR h 142 9 12).bind _ = _
      rw [M.r 12 rfl, bs]
      show (ald h (143 + 5) (nI i)).bind _ = _
      rw [M.ald 5 (by omega) (show i < 9 by omega), bs, hg]
      rfl
    · rw [if_pos (by rw [Bool.not_eq_true _ |>.mp hb]; rfl), List.find?_cons_of_neg hb, nI_1]
      exact ih (i + 1) d2 (by omega) n (by simp at hn; omega)
theorem p_mostOf (M : MM h F A) (R : RV (A 0) x S) (Y : VS S) (hx : x ≤ 1541) {p : Nat} (hp : p < cP S) {s : Nat} (hs : s < 256) : ∃ h' A', f_X9_mostOf 142 (nI x) (nI p) (nI s) h = some (enc (bestC S p s), h') ∧ MM h' F A' ∧ AE A A' ∧ Fr h h' 142 12 := by
  obtain ⟨h', g, e, M', F', g2⟩ := p_layWants M R Y hx hp
  have hl := wants_len Y hp
  refine ⟨h', _, ?_, M', AE.set A g, F'⟩
  unfold f_X9_mostOf f_X9_mostOf_e
  rw [M.chk, e, bs]
  exact l_mostOf hs hl (fun r hr => wants_lt Y hp hr) M' (by rw [setA_s]; exact g2) (wantsC S p) 0 rfl (by omega) FU (fu_lt (by omega))
theorem l_firstByLots (M : MM h F A) (R : RV (A 0) x S) (Y : VS S) (hx : x ≤ 1541) (hF2 : F 2 = nI (cP S)) {s : Nat} (hs : s < 256) (hF : F 25 = nI s) : ∀ (l : List Nat) i, (cO S).drop i = l → i ≤ cP S → ∀ n, l.length < n → F_X9_firstByLots_2 n 142 (nI x) (nI i) h = some (enc (l.find? (fun q => s.testBit q)), h) := by
  have hP := Y.p6
  have hO := Y.2.2.2.2.2.1
  intro l
  induction l with
  | nil =>
    intro i hi hi2 n hn
    obtain ⟨n, rfl⟩ := sx hn
    have : (cO S).length ≤ i := List.drop_eq_nil_iff.mp hi
    show f_X9_firstByLots_b2 _ _ _ _ _ = _
    unfold f_X9_firstByLots_b2
    rw [M.g 2 rfl, bs, hF2, if_pos (nI_le (by omega) (by omega))]; rfl
  | cons y t ih =>
    intro i hi hi2 n hn
    obtain ⟨n, rfl⟩ := sx hn
    obtain ⟨d1, d2, d3⟩ := drop_cons hi
    have hy := Y.ord d1
    have hw := R.2.2.2 i y d1
    show f_X9_firstByLots_b2 _ _ _ _ _ = _
    unfold f_X9_firstByLots_b2
    rw [M.g 2 rfl, bs, hF2, if_neg (nI_ge (show i < cP S by omega) (by omega)), M.g 25 rfl, bs, hF, M.r 0 rfl, bs, ix60, M.ald 0 (by omega) (show x + 60 + i < 1608 by omega), bs, hw, p_has hs (by omega), bs]
    by_cases hb : s.testBit y = true
    · rw [if_neg (by rw [hb]; exact b1n), List.find?_cons_of_pos hb]
      show (gR h 142 9 0).bind _ = _
      rw [M.r 0 rfl, bs, M.ald 0 (by omega) (show x + 60 + i < 1608 by omega), bs, hw]
      rfl
    · rw [if_pos (by rw [Bool.not_eq_true _ |>.mp hb]; rfl), List.find?_cons_of_neg hb, nI_1]
      exact ih (i + 1) d2 (by omega) n (by simp at hn; omega)
theorem p_firstByLots (M : MM h F A) (R : RV (A 0) x S) (Y : VS S) (hx : x ≤ 1541) (hF2 : F 2 = nI (cP S)) {s : Nat} (hs : s < 256) (hF : F 25 = nI s) : f_X9_firstByLots 142 (nI x) h = some (enc (firstC S s), h) := by
  have hP := Y.p6
  have hO := Y.2.2.2.2.2.1
  unfold f_X9_firstByLots f_X9_firstByLots_e
  rw [M.chk]
  exact l_firstByLots M R Y hx hF2 hs hF (cO S) 0 rfl (by omega) FU (fu_lt (by omega))
theorem p_next (M : MM h F A) (R : RV (A 0) x S) (Y : VS S) (hx : x ≤ 1541) (hF2 : F 2 = nI (cP S)) {s op : Nat} (hs : s < 256) (hop : op < 256) (hF : F 25 = nI s) (hFo : F 26 = nI op) {p : Nat} (hp : p < cP S) (hb : bestC S p op ≠ none) : ∃ h' A', f_X9_next 142 (nI x) (nI p) h = some (enc (nextC S s op p), h') ∧ MM h' F A' ∧ AE A A' ∧ Fr h h' 142 12 := by
  have hP := Y.p6
  obtain ⟨h1, A1, e1, M1, E1, F1⟩ := p_mostOf M R Y hx hp hop
  have R1 : RV (A1 0) x S := by rw [E1 0 (by omega)]; exact R
  refine ⟨h1, A1, ?_, M1, E1, F1⟩
  unfold f_X9_next f_X9_next_e
  rw [M.chk, M.g 26 rfl, bs, hFo, e1, bs]
  cases hbest : bestC S p op with
  | none => exact absurd hbest hb
  | some r =>
    have hr := (bestC_lt Y hp hbest).1
    have pa : f_X9_pointsAt 142 (nI x) (nI r) h1 = some (enc (nextC S s op p), h1) := by
      unfold f_X9_pointsAt f_X9_pointsAt_e nextC
      rw [M1.chk, M1.g 2 rfl, bs, hF2, p_sitterIn M1 R1 Y hx hr, bs, hbest]
      show (if enc (sitC S r) = -1 then _ else _) = some (enc (match sitC S r with | some q => if s.testBit q then some q else firstC S s | none => firstC S s), h1)
      cases hsit : sitC S r with
      | none =>
        rw [if_pos (by rfl)]
        unfold f_X9_pointsAt_b31
        show (f_X9_firstByLots 142 (nI x) h1).bind _ = _
        rw [p_firstByLots M1 R1 Y hx hF2 hs hF, bs]
        rfl
      | some y =>
        have hy := (sitC_lt hsit).1
        rw [if_neg (show ¬ enc (some y) = -1 from nI_neg1 (by omega))]
        show (gI h1 142 9 25).bind _ = _
        rw [M1.g 25 rfl, bs, hF]
        show (f_X9_has (nI s) (nI y) h1).bind _ = _
        rw [p_has hs (by omega), bs]
        by_cases hb2 : s.testBit y = true
        · rw [if_neg (by rw [hb2]; exact b1n)]
          show some (nI y, h1) = some (enc (if s.testBit y = true then some y else firstC S s), h1)
          rw [if_pos hb2]; rfl
        · rw [if_pos (by rw [Bool.not_eq_true _ |>.mp hb2]; rfl)]
          unfold f_X9_pointsAt_b31
          show (f_X9_firstByLots 142 (nI x) h1).bind _ = some (enc (if s.testBit y = true then some y else firstC S s), h1)
          rw [p_firstByLots M1 R1 Y hx hF2 hs hF, bs, if_neg hb2]
          rfl
    show (f_X9_pointsAt 142 (nI x) (nI r) h1).bind _ = _
    rw [pa, bs]
theorem l_ringFromM (Y : VS S) (hx : x ≤ 1541) (hF2 : F 2 = nI (cP S)) {s op : Nat} (hs : s < 256) (hop : op < 256) (hF : F 25 = nI s) (hFo : F 26 = nI op) (hbest : ∀ q, q < cP S → s.testBit q = true → bestC S q op ≠ none) {p : Nat} (hp : p < cP S) : ∀ m i, i + m = cP S → ∀ n, m < n → ∀ set q (h : HP) (A : AT), MM h F A → RV (A 0) x S → set < 256 → q < cP S → s.testBit q = true → ∃ h' A', F_X9_ringFrom_8 n 142 (nI x) (nI p) (nI set) (nI q) (nI i) h = some (nI (ringC (nxC S s op) p m set q), h') ∧ MM h' F A' ∧ AE A A' ∧ Fr h h' 142 12 := by
  have hP := Y.p6
  intro m
  induction m with
  | zero =>
    intro i hi n hn set q h A M R hset hq hq2
    obtain ⟨n, rfl⟩ := sx hn
    refine ⟨h, A, ?_, M, AE.rfl, Fr.rfl⟩
    show f_X9_ringFrom_b8 _ _ _ _ _ _ _ _ = _
    unfold f_X9_ringFrom_b8
    rw [M.g 2 rfl, bs, hF2, if_pos (nI_le (by omega) (by omega))]
    rfl
  | succ m ih =>
    intro i hi n hn set q h A M R hset hq hq2
    obtain ⟨n, rfl⟩ := sx hn
    obtain ⟨n1, n2, n3⟩ := nxC_in Y (op := op) hq hq2
    obtain ⟨h1, A1, e1, M1, E1, F1⟩ := p_next M R Y hx hF2 hs hop hF hFo hq (hbest q hq hq2)
    have R1 : RV (A1 0) x S := by rw [E1 0 (by omega)]; exact R
    have hk : enc (some (nxC S s op q)) = nI p ↔ nxC S s op q = p := nI_eq (by omega) (by omega)
    have pre : F_X9_ringFrom_8 (n + 1) 142 (nI x) (nI p) (nI set) (nI q) (nI i) h = if enc (some (nxC S s op q)) = nI p then some (nI (ins set q), h1) else F_X9_ringFrom_8 n 142 (nI x) (nI p) (nI (ins set q)) (enc (some (nxC S s op q))) (nI i + 1) h1 := by
      show f_X9_ringFrom_b8 _ _ _ _ _ _ _ _ = _
      unfold f_X9_ringFrom_b8
      rw [M.g 2 rfl, bs, hF2, if_neg (nI_ge (by omega) (by omega)), e1, bs, n1, m_ins set hset q (by omega)]
    rw [pre]
    unfold ringC
    by_cases he : nxC S s op q = p
    · rw [if_pos (hk.mpr he), if_pos he]
      exact ⟨h1, A1, rfl, M1, E1, F1⟩
    · rw [if_neg (fun z => he (hk.mp z)), if_neg he, nI_1]
      obtain ⟨h2, A2, e2, M2, E2, F2⟩ := ih (i + 1) (by omega) n (by omega) (ins set q) (nxC S s op q) h1 A1 M1 R1 (m_ins_lt set hset q (by omega)) n2 n3
      exact ⟨h2, A2, e2, M2, E1.trans E2, F1.trans F2⟩
end MOD2
