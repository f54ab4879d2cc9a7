/-! the class's bartering; the reference's groups -/
def sitM (S : CS) : Nat := gath (fun p => (cS S p).isSome) (cP S) 0 0
def envB (S : CS) (p q : Nat) : Bool := (cS S p).isSome && ((cS S q).isSome && decide (rankC S p (cS S q) < rankC S p (cS S p)))
def envC (S : CS) (p : Nat) : Nat := gath (envB S p) (cP S) 0 0
def grS (S : CS) (x : Option Nat × Nat) (set : Nat) : Option Nat × Nat := if adn set (sitM S) = 0 ∧ core6 (envC S) 6 set ≠ 0 then ((match x.1 with
  | none => some set
  | some b => if popN set < popN b then some set else some b), x.2 + 1) else x
section WEI
variable {S : CS}
theorem sitM_lt (Y : VS S) : sitM S < 2 ^ cP S := by
  refine Nat.lt_pow_two_of_testBit _ (fun i hi => ?_)
  unfold sitM
  rw [tb_gath, Nat.zero_testBit]
  simp; omega
theorem sitM_tb {q : Nat} (h : (sitM S).testBit q = true) : q < cP S ∧ ∃ r, cS S q = some r := by
  unfold sitM at h
  rw [tb_gath, Nat.zero_testBit] at h
  simp only [Bool.false_or, Bool.and_eq_true, decide_eq_true_eq] at h
  exact ⟨by omega, Option.isSome_iff_exists.mp h.2⟩
theorem p2_64 (Y : VS S) : 2 ^ cP S ≤ 64 := Nat.pow_le_pow_right (n := 2) (by omega) (show cP S ≤ 6 from Y.p6)
theorem envC_lt (Y : VS S) (p : Nat) : envC S p < 64 := by
  refine Nat.lt_of_lt_of_le (Nat.lt_pow_two_of_testBit (n := cP S) _ (fun i hi => ?_)) (p2_64 Y)
  unfold envC
  rw [tb_gath, Nat.zero_testBit]
  simp; omega
theorem envC_tb {p q : Nat} (hq : q < cP S) : (envC S p).testBit q = envB S p q := by
  unfold envC
  rw [tb_gath, Nat.zero_testBit]
  simp [hq]
theorem adn0 {s t : Nat} (hs : s < 256) (ht : t < 256) (h : adn s t = 0) : ∀ j, s.testBit j = true → t.testBit j = true := by
  intro j hj
  have hj8 : j < 8 := by
    rcases Nat.lt_or_ge j 8 with z | z
    · exact z
    · rw [Nat.testBit_lt_two_pow (Nat.lt_of_lt_of_le (show s < 2 ^ 8 by omega) (Nat.pow_le_pow_right (by omega) z))] at hj
      cases hj
  have := tb_adn (s := s) ht hj8
  rw [h, Nat.zero_testBit, hj] at this
  simpa using this
theorem adn_le {s t : Nat} (hs : s < 256) (ht : t < 256) (h : adn s t = 0) : s ≤ t := by
  rw [← sub_and (adn0 hs ht h)]
  exact Nat.and_le_right
theorem own_wants {r : Nat} : ∀ l : List Nat, r ∈ wants (some r) l := by
  intro l
  induction l with
  | nil => simp [wants]
  | cons x t ih =>
    unfold wants
    split
    · rename_i h; cases h; simp
    · exact List.mem_cons_of_mem _ ih
theorem rank_out {r : Nat} : ∀ l : List Nat, r ∉ l → rankL (some r) l = l.length := by
  intro l
  induction l with
  | nil => intro _; rfl
  | cons x t ih =>
    intro h
    unfold rankL
    rw [if_neg (fun z => h (by cases z; simp)), ih (fun z => h (List.mem_cons_of_mem _ z))]
    rfl
theorem rank_le (o : Option Nat) : ∀ l : List Nat, rankL o l ≤ l.length := by
  intro l
  induction l with
  | nil => exact Nat.le_refl _
  | cons x t ih =>
    unfold rankL
    split
    · omega
    · simp; omega
theorem rankC_lt (Y : VS S) {p : Nat} (hp : p < cP S) (o : Option Nat) : rankC S p o < 100 := by
  have h1 := wants_len Y hp
  have h2 := rank_le o (wantsC S p)
  unfold rankC; omega
theorem okM_iff (Y : VS S) {p q rp r : Nat} (hp : p < cP S) (hq : q < cP S) (h1 : cS S p = some rp) (h2 : cS S q = some r) : okM S p q = true ↔ q = p ∨ (envC S p).testBit q = true := by
  have hown : rp ∈ wantsC S p := by unfold wantsC; rw [h1]; exact own_wants _
  have hl := wants_len Y hp
  rw [envC_tb hq]
  unfold okM envB
  rw [h1, h2]
  simp only [Option.isSome_some, Bool.true_and, decide_eq_true_eq]
  show rkM S p r ≤ rkM S p rp ↔ _
  obtain ⟨k0, hk0⟩ : ∃ k, idx rp (wantsC S p) = some k := by
    cases hi : idx rp (wantsC S p) with
    | none => exact absurd hown (idx_none.mp hi)
    | some k => exact ⟨k, rfl⟩
  have hk0l := (List.getElem?_eq_some_iff.mp (idx_some hk0)).1
  have e0 : rkM S p rp = k0 := by unfold rkM; rw [hk0]; rfl
  have c0 : rankC S p (some rp) = k0 := rank_idx _ k0 hk0
  rw [e0, c0]
  cases hi : idx r (wantsC S p) with
  | none =>
    have hr := idx_none.mp hi
    have e1 : rkM S p r = 99 := by unfold rkM; rw [hi]; rfl
    have c1 : rankC S p (some r) = (wantsC S p).length := rank_out _ hr
    rw [e1, c1]
    constructor
    · intro h; omega
    · rintro (h | h)
      · subst h
        rw [h1] at h2
        cases h2
        exact absurd hown hr
      · omega
  | some k =>
    have e1 : rkM S p r = k := by unfold rkM; rw [hi]; rfl
    have c1 : rankC S p (some r) = k := rank_idx _ k hi
    rw [e1, c1]
    constructor
    · intro h
      rcases Nat.lt_or_ge k k0 with z | z
      · exact Or.inr z
      · left
        have : k = k0 := by omega
        subst this
        have hrr : r = rp := Option.some.inj ((idx_some hi).symm.trans (idx_some hk0))
        exact Y.2.2.2.1 q p hq hp (by rw [h1, h2, hrr]) (by rw [h2]; exact Option.some_ne_none _)
    · rintro (h | h)
      · subst h
        rw [h1] at h2
        cases h2
        rw [hi] at hk0
        cases hk0
        exact Nat.le_refl _
      · omega
theorem grp_iff (Y : VS S) {set : Nat} (hs : set < 2 ^ cP S) (hz : adn set (sitM S) = 0) : 2 ≤ Vv (okM S) set set ↔ core6 (envC S) 6 set ≠ 0 := by
  have h64 := p2_64 Y
  have hm := sitM_lt Y
  have hsub := adn0 (by omega) (by omega) hz
  refine ring_iff (by omega) (fun p q hp hq => ?_) (fun p hp => ?_)
  · obtain ⟨a1, rp, a2⟩ := sitM_tb (hsub p hp)
    obtain ⟨b1, r, b2⟩ := sitM_tb (hsub q hq)
    exact okM_iff Y a1 b1 a2 b2
  · obtain ⟨a1, rp, a2⟩ := sitM_tb (hsub p hp)
    rw [envC_tb a1]
    unfold envB
    simp
theorem fld_add {σ : Type} {f : σ → Nat → σ} : ∀ m n i s, fld f (m + n) i s = fld f n (i + m) (fld f m i s) := by
  intro m
  induction m with
  | zero => intro n i s; rw [Nat.zero_add]; rfl
  | succ m ih =>
    intro n i s
    rw [show m + 1 + n = (m + n) + 1 by omega]
    show fld f (m + n) (i + 1) (f s i) = _
    rw [ih, show i + 1 + m = i + (m + 1) by omega]
    rfl
theorem fld_id {σ : Type} {f : σ → Nat → σ} : ∀ m i s, (∀ k s, i ≤ k → k < i + m → f s k = s) → fld f m i s = s := by
  intro m
  induction m with
  | zero => intro i s _; rfl
  | succ m ih =>
    intro i s h
    show fld f m (i + 1) (f s i) = s
    rw [h i s (Nat.le_refl _) (by omega)]
    exact ih (i + 1) s (fun k s h1 h2 => h k s (by omega) (by omega))
theorem grp_same (Y : VS S) : fld (grS S) (2 ^ cP S - 1) 1 (none, 0) = fld (grS S) (sitM S) 1 (none, 0) := by
  have hm := sitM_lt Y
  have h64 := p2_64 Y
  rw [show 2 ^ cP S - 1 = sitM S + (2 ^ cP S - 1 - sitM S) by omega, fld_add]
  refine fld_id _ _ _ (fun k s h1 h2 => ?_)
  unfold grS
  rw [if_neg (fun w => by have := adn_le (by omega) (by omega) w.1; omega)]
theorem grS_lt {x : Option Nat × Nat} {set : Nat} (hs : set < 64) (hx : ∀ b, x.1 = some b → b < 64) : ∀ b, (grS S x set).1 = some b → b < 64 := by
  intro b hb
  unfold grS at hb
  split at hb
  · have hb : (match x.1 with | none => some set | some b => if popN set < popN b then some set else some b) = some b := hb
    split at hb
    · rw [← Option.some.inj hb]; exact hs
    · rename_i hc
      split at hb
      · rw [← Option.some.inj hb]; exact hs
      · rw [← Option.some.inj hb]; exact hx _ hc
  · exact hx b hb
end WEI
section WEC
variable {h : HP} {F : Nat → Int32} {A : AT} {S : CS}
theorem l_sitters (M : MM h F A) (R : RV (A 0) 0 S) (Y : VS S) (f2 : F 2 = nI (cP S)) : ∀ m i, i + m = cP S → ∀ n, m < n → ∀ t, t < 256 → F_X9_sitters_4 n 142 (nI t) (nI i) h = some (nI (gath (fun p => (cS S p).isSome) m i t), h) := by
  have hP := Y.p6
  intro m
  induction m with
  | zero =>
    intro i hi n hn t ht
    obtain ⟨n, rfl⟩ := sx hn
    show f_X9_sitters_b4 _ _ _ _ _ = _
    unfold f_X9_sitters_b4
    rw [M.g 2 rfl, bs, f2, if_pos (nI_le (by omega) (by omega))]; rfl
  | succ m ih =>
    intro i hi n hn t ht
    obtain ⟨n, rfl⟩ := sx hn
    have hip : i < cP S := by omega
    have hw := R.1 i hip
    rw [Nat.zero_add] at hw
    show f_X9_sitters_b4 _ _ _ _ _ = some (nI (gath _ m (i + 1) (if (cS S i).isSome then ins t i else t)), h)
    unfold f_X9_sitters_b4 f_X9_sitters_b33
    rw [M.g 2 rfl, bs, f2, if_neg (nI_ge hip (by omega)), M.r 0 rfl, bs]
    show (ald h (143 + 0) (nI 54 + nI i)).bind _ = _
    rw [nI_add, M.ald 0 (by omega) (show 54 + i < 1608 by omega), bs, hw, nI_1, m_ins t ht i (by omega), or0]
    cases hs : cS S i with
    | none =>
      rw [if_pos (by rfl)]
      exact ih (i + 1) (by omega) n (by omega) t ht
    | some r =>
      have := Y.seat hip hs
      rw [if_neg (show ¬ enc (some r) = -1 from nI_neg1 (by omega))]
      exact ih (i + 1) (by omega) n (by omega) _ (m_ins_lt t ht i (by omega))
theorem p_sitters (M : MM h F A) (R : RV (A 0) 0 S) (Y : VS S) (f2 : F 2 = nI (cP S)) : f_X9_sitters 142 h = some (nI (sitM S), h) := by
  have hP := Y.p6
  unfold f_X9_sitters f_X9_sitters_e
  rw [M.chk]
  exact l_sitters M R Y f2 (cP S) 0 (by omega) FU (fu_lt (by omega)) 0 (by omega)
theorem l_groups (Y : VS S) (f2 : F 2 = nI (cP S)) (w : Int32) : ∀ m i, i + m = 2 ^ cP S → ∀ n, m < n → ∀ (h : HP) (A : AT) (x : Option Nat × Nat), MM h F A → RV (A 0) 0 S → (∀ b, x.1 = some b → b < 64) → ∃ h' A', F_X9_groups_7 n 142 w (enc x.1) (nI x.2) (nI i) h = some ((if w = 0 then enc (fld (grS S) m i x).1 else nI (fld (grS S) m i x).2), h') ∧ MM h' F A' ∧ AW A A' ∧ Fr h h' 142 12 := by
  have hP := Y.p6
  have h64 := p2_64 Y
  have hm := sitM_lt Y
  intro m
  induction m with
  | zero =>
    intro i hi n hn h A x M R hx
    obtain ⟨n, rfl⟩ := sx hn
    refine ⟨h, A, ?_, M, AW.rfl, Fr.rfl⟩
    show f_X9_groups_b7 _ _ _ _ _ _ _ = _
    unfold f_X9_groups_b7 f_X9_groups_b82
    rw [M.g 2 rfl, bs, f2, m_one _ (by omega), Nat.one_shiftLeft, if_pos (nI_le (by omega) (by omega))]
    show _ = some ((if w = 0 then enc x.1 else nI x.2), h)
    split <;> rfl
  | succ m ih =>
    intro i hi n hn h A x M R hx
    obtain ⟨n, rfl⟩ := sx hn
    have pre : F_X9_groups_7 (n + 1) 142 w (enc x.1) (nI x.2) (nI i) h = if nI (adn i (sitM S)) = 0 then (f_X9_partings 142 (nI i) h).bind fun q3 => if q3.1 ≤ 1 then F_X9_groups_7 n 142 w (enc x.1) (nI x.2) (nI (i + 1)) q3.2 else if enc x.1 = -1 then F_X9_groups_7 n 142 w (nI i) (nI (x.2 + 1)) (nI (i + 1)) q3.2 else (f_X9_bits (nI i) q3.2).bind fun q4 => (f_X9_bits (enc x.1) q4.2).bind fun q5 => if q5.1 ≤ q4.1 then F_X9_groups_7 n 142 w (enc x.1) (nI (x.2 + 1)) (nI (i + 1)) q5.2 else F_X9_groups_7 n 142 w (nI i) (nI (x.2 + 1)) (nI (i + 1)) q5.2 else F_X9_groups_7 n 142 w (enc x.1) (nI x.2) (nI (i + 1)) h := by
      show f_X9_groups_b7 _ _ _ _ _ _ _ = _
      unfold f_X9_groups_b7 f_X9_groups_b67 f_X9_groups_b66 f_X9_groups_b60 f_X9_groups_b66 f_X9_groups_b67
      rw [M.g 2 rfl, bs, f2, m_one _ (by omega), Nat.one_shiftLeft, if_neg (nI_ge (by omega) (by omega)), p_sitters M R Y f2, bs]
      simp only [m_adn (show sitM S < 256 by omega), nI_1]
    rw [pre]
    show ∃ h' A', _ = some ((if w = 0 then enc (fld (grS S) m (i + 1) (grS S x i)).1 else nI (fld (grS S) m (i + 1) (grS S x i)).2), h') ∧ _
    have hx' := grS_lt (S := S) (x := x) (set := i) (by omega) hx
    have go : ∀ (y : Option Nat × Nat) (h1 : HP) (A1 : AT), grS S x i = y → MM h1 F A1 → AW A A1 → Fr h h1 142 12 → ∃ h' A', F_X9_groups_7 n 142 w (enc y.1) (nI y.2) (nI (i + 1)) h1 = some ((if w = 0 then enc (fld (grS S) m (i + 1) (grS S x i)).1 else nI (fld (grS S) m (i + 1) (grS S x i)).2), h') ∧ MM h' F A' ∧ AW A A' ∧ Fr h h' 142 12 := by
      intro y h1 A1 hy M1 a1 X1
      rw [hy] at hx' ⊢
      obtain ⟨h2, A2, e2, M2, a2, X2⟩ := ih (i + 1) (by omega) n (by omega) h1 A1 y M1 (by rw [a1 0 (by omega) (by omega)]; exact R) hx'
      exact ⟨h2, A2, e2, M2, a1.trans a2, X1.trans X2⟩
    have hadn : adn i (sitM S) < 256 := m_adn_lt (by omega)
    by_cases hz : adn i (sitM S) = 0
    · rw [if_pos (by rw [hz]; rfl)]
      have hsub := adn0 (s := i) (by omega) (by omega) hz
      obtain ⟨h1, A1, e1, M1, a1, X1⟩ := p_partings (set := i) Y f2 (by omega) (fun q hq => (sitM_tb (hsub q hq)).2) M R
      have hvb := vv_b (ok := okM S) (set := i) (G := i) (by omega)
      rw [e1, bs]
      have hgi := grp_iff Y (set := i) (by omega) hz
      by_cases h2 : 2 ≤ Vv (okM S) i i
      · have hcore := hgi.mp h2
        rw [if_neg (by show ¬ nI (Vv (okM S) i i) ≤ nI 1; exact nI_ge (by omega) (by omega))]
        cases hx1 : x.1 with
        | none =>
          rw [if_pos (by rfl)]
          exact go (some i, x.2 + 1) h1 A1 (by unfold grS; rw [if_pos ⟨hz, hcore⟩, hx1]) M1 a1 X1
        | some b =>
          have hb := hx b hx1
          rw [if_neg (show ¬ enc (some b) = -1 from nI_neg1 (by omega))]
          show ∃ h' A', (f_X9_bits (nI i) h1).bind _ = _ ∧ _
          rw [p_bits (by omega), bs]
          show ∃ h' A', (f_X9_bits (nI b) h1).bind _ = _ ∧ _
          rw [p_bits (by omega), bs]
          have hb6 := (pop6 b hb).1
          have hi6 := (pop6 i (by omega)).1
          by_cases hlt : popN i < popN b
          · rw [if_neg (by show ¬ nI (popN b) ≤ nI (popN i); exact nI_ge hlt (by omega))]
            exact go (some i, x.2 + 1) h1 A1 (by unfold grS; rw [if_pos ⟨hz, hcore⟩, hx1]; simp [hlt]) M1 a1 X1
          · rw [if_pos (by show nI (popN b) ≤ nI (popN i); exact nI_le (by omega) (by omega))]
            exact go (some b, x.2 + 1) h1 A1 (by unfold grS; rw [if_pos ⟨hz, hcore⟩, hx1]; simp [hlt]) M1 a1 X1
      · rw [if_pos (by show nI (Vv (okM S) i i) ≤ nI 1; exact nI_le (by omega) (by omega))]
        exact go x h1 A1 (by unfold grS; rw [if_neg (fun z => h2 (hgi.mpr z.2))]) M1 a1 X1
    · rw [if_neg (fun z => hz ((nI_0iff (by omega)).mp z))]
      exact go x h A (by unfold grS; rw [if_neg (fun z => hz z.1)]) M AW.rfl Fr.rfl
theorem p_groups (Y : VS S) (f2 : F 2 = nI (cP S)) (M : MM h F A) (R : RV (A 0) 0 S) (w : Int32) : ∃ h' A', f_X9_groups 142 w h = some ((if w = 0 then enc (fld (grS S) (sitM S) 1 (none, 0)).1 else nI (fld (grS S) (sitM S) 1 (none, 0)).2), h') ∧ MM h' F A' ∧ AW A A' ∧ Fr h h' 142 12 := by
  have h64 := p2_64 Y
  have hpos := sitM_lt Y
  obtain ⟨h', A', e, r⟩ := l_groups Y f2 w (2 ^ cP S - 1) 1 (by omega) FU (fu_lt (by omega)) h A (none, 0) M R (fun b hb => by cases hb)
  refine ⟨h', A', ?_, r⟩
  unfold f_X9_groups f_X9_groups_e
  rw [M.chk, ← grp_same Y]
  exact e
/-! the class -/
theorem l_hr13 {E : Nat → Nat} {g : Nat → Int32} {a b : Int32} (O : OB h 19 0 [.inl a, .inl b, .inr (some 20)]) (G : IA h 20 6 g) (hE : ∀ p, p < 6 → E p < 64) (K : Nat → Int32 → Int32 → HP → Option (Int32 × HP)) (z : Int32) : ∀ m i, i + m = 6 → ∀ n, m < n → ∀ r, r < 64 → (∀ p, r.testBit p = true → g p = nI (E p)) → F_X0_hasRing_13 K n 19 (nI r) z (nI i) h = K 19 (nI (fld (elim E) m i r)) (z + 1) h := by
  intro m
  induction m with
  | zero =>
    intro i hi n hn r hr hg
    obtain ⟨n, rfl⟩ := sx hn
    show f_X0_hasRing_b13 _ _ _ _ _ _ _ = _
    unfold f_X0_hasRing_b13
    rw [if_pos (show (6 : Int32) ≤ nI i from nI_le (a := 6) (by omega) (by omega))]; rfl
  | succ m ih =>
    intro i hi n hn r hr hg
    obtain ⟨n, rfl⟩ := sx hn
    show f_X0_hasRing_b13 _ _ _ _ _ _ _ = K 19 (nI (fld (elim E) m (i + 1) (elim E r i))) (z + 1) h
    unfold f_X0_hasRing_b13 f_X0_hasRing_b50
    rw [if_neg (show ¬ (6 : Int32) ≤ nI i from nI_ge (b := 6) (by omega) (by omega)), p_holds (by omega) (by omega), bs, nI_1]
    cases hb : r.testBit i with
    | false =>
      rw [if_pos (by rfl), show elim E r i = r by unfold elim; rw [if_neg (fun w => by rw [hb] at w; cases w.1)]]
      exact ih (i + 1) (by omega) n (by omega) r hr hg
    | true =>
      rw [if_neg b1n]
      show (gR h 19 0 2).bind _ = _
      rw [O.r 2 rfl, bs]
      show (f_X8_at 20 (nI i) h).bind _ = _
      rw [ia_at G (by omega) (by omega), bs, hg i hb]
      have hlt : E i &&& r < 2 ^ 31 := Nat.lt_of_le_of_lt Nat.and_le_right (by omega)
      by_cases hz : E i &&& r = 0
      · rw [if_pos (show nI (E i) &&& nI r = 0 by rw [nI_and, hz]; rfl), show elim E r i = del r i by unfold elim; rw [if_pos ⟨hb, hz⟩]]
        show (f_X8_without (nI r) (nI i) h).bind _ = _
        rw [p_without (by omega) (by omega), bs]
        exact ih (i + 1) (by omega) n (by omega) (del r i) (del64 r hr i (by omega)) (fun p hp => hg p (by
          unfold del at hp
          rw [Nat.testBit_and] at hp
          simp only [Bool.and_eq_true] at hp
          exact hp.1))
      · rw [if_neg (show ¬ nI (E i) &&& nI r = 0 from fun w => hz ((nI_0iff hlt).mp (by rw [← nI_and]; exact w))), show elim E r i = r by unfold elim; rw [if_neg (fun w => hz w.2)]]
        exact ih (i + 1) (by omega) n (by omega) r hr hg
theorem l_hr4 {E : Nat → Nat} {g : Nat → Int32} {a b : Int32} (O : OB h 19 0 [.inl a, .inl b, .inr (some 20)]) (G : IA h 20 6 g) (hE : ∀ p, p < 6 → E p < 64) : ∀ m i, i + m = 6 → ∀ n, m < n → ∀ r, r < 64 → (∀ p, r.testBit p = true → g p = nI (E p)) → F_X0_hasRing_4 n 19 (nI r) (nI i) h = some (bI (decide (core6 E m r ≠ 0)), h) := by
  intro m
  induction m with
  | zero =>
    intro i hi n hn r hr hg
    obtain ⟨n, rfl⟩ := sx hn
    show f_X0_hasRing_b4 _ _ _ _ _ = some (bI (decide (r ≠ 0)), h)
    unfold f_X0_hasRing_b4 f_X0_hasRing_b71
    rw [if_pos (show (6 : Int32) ≤ nI i from nI_le (a := 6) (by omega) (by omega))]
    by_cases hz : r = 0
    · rw [if_pos (by rw [hz]; rfl), hz]; rfl
    · rw [if_neg (fun w => hz ((nI_0iff (by omega)).mp w)), decide_eq_true hz]; rfl
  | succ m ih =>
    intro i hi n hn r hr hg
    obtain ⟨n, rfl⟩ := sx hn
    show f_X0_hasRing_b4 _ _ _ _ _ = some (bI (decide (core6 E m (pass E r) ≠ 0)), h)
    unfold f_X0_hasRing_b4
    rw [if_neg (show ¬ (6 : Int32) ≤ nI i from nI_ge (b := 6) (by omega) (by omega))]
    refine (l_hr13 O G hE _ (nI i) 6 0 (by omega) FU (fu_lt (by omega)) r hr hg).trans ?_
    rw [nI_1]
    exact ih (i + 1) (by omega) n (by omega) (pass E r) (fel_lt 6 0 r hr) (fun p hp => hg p (fel_sub 6 0 r p hp))
theorem p_hasRing {E : Nat → Nat} {g : Nat → Int32} {a b : Int32} (O : OB h 19 0 [.inl a, .inl b, .inr (some 20)]) (G : IA h 20 6 g) (hE : ∀ p, p < 6 → E p < 64) {r : Nat} (hr : r < 64) (hg : ∀ p, r.testBit p = true → g p = nI (E p)) : f_X0_hasRing 19 (nI r) h = some (bI (decide (core6 E 6 r ≠ 0)), h) := by
  unfold f_X0_hasRing f_X0_hasRing_e
  rw [O.chk]
  exact l_hr4 O G hE 6 0 (by omega) FU (fu_lt (by omega)) r hr hg
theorem l_weigh59 (Y : VS S) {g : Nat → Int32} (hg : ∀ p, p < cP S → g p = nI (envC S p)) : ∀ m i, i + m = sitM S + 1 → ∀ n, m < n → ∀ (h : HP) (x : Option Nat × Nat), OB h 19 0 [.inl (enc x.1), .inl (nI x.2), .inr (some 20)] → IA h 20 6 g → (∀ b, x.1 = some b → b < 64) → ∃ h', F_X0_weigh_59 n 19 (nI (sitM S)) (nI i) h = some h' ∧ OB h' 19 0 [.inl (enc (fld (grS S) m i x).1), .inl (nI (fld (grS S) m i x).2), .inr (some 20)] ∧ IA h' 20 6 g ∧ Fr h h' 19 2 := by
  have hP := Y.p6
  have h64 := p2_64 Y
  have hm := sitM_lt Y
  intro m
  induction m with
  | zero =>
    intro i hi n hn h x O G hx
    obtain ⟨n, rfl⟩ := sx hn
    refine ⟨h, ?_, O, G, Fr.rfl⟩
    show f_X0_weigh_b59 _ _ _ _ _ = _
    unfold f_X0_weigh_b59
    rw [if_pos (nI_lt (by omega) (by omega))]
  | succ m ih =>
    intro i hi n hn h x O G hx
    obtain ⟨n, rfl⟩ := sx hn
    have hadn : adn i (sitM S) < 256 := m_adn_lt (by omega)
    have hx' := grS_lt (S := S) (x := x) (set := i) (by omega) hx
    show ∃ h', _ = some h' ∧ OB h' 19 0 [.inl (enc (fld (grS S) m (i + 1) (grS S x i)).1), .inl (nI (fld (grS S) m (i + 1) (grS S x i)).2), .inr (some 20)] ∧ _
    have go : ∀ (y : Option Nat × Nat) (h1 : HP), grS S x i = y → OB h1 19 0 [.inl (enc y.1), .inl (nI y.2), .inr (some 20)] → IA h1 20 6 g → Fr h h1 19 2 → ∃ h', F_X0_weigh_59 n 19 (nI (sitM S)) (nI (i + 1)) h1 = some h' ∧ OB h' 19 0 [.inl (enc (fld (grS S) m (i + 1) (grS S x i)).1), .inl (nI (fld (grS S) m (i + 1) (grS S x i)).2), .inr (some 20)] ∧ IA h' 20 6 g ∧ Fr h h' 19 2 := by
      intro y h1 hy O1 G1 X1
      rw [hy] at hx' ⊢
      obtain ⟨h2, e2, O2, G2, X2⟩ := ih (i + 1) (by omega) n (by omega) h1 y O1 G1 hx'
      exact ⟨h2, e2, O2, G2, X1.trans X2⟩
    have pre : F_X0_weigh_59 (n + 1) 19 (nI (sitM S)) (nI i) h = if nI (adn i (sitM S)) = 0 then (f_X0_hasRing 19 (nI i) h).bind fun q1 => if q1.1 = 0 then F_X0_weigh_59 n 19 (nI (sitM S)) (nI (i + 1)) q1.2 else (gI q1.2 19 0 1).bind fun v2 => (pI q1.2 19 0 1 (v2 + 1)).bind fun h3 => (gI h3 19 0 0).bind fun v4 => if v4 = -1 then (pI h3 19 0 0 (nI i)).bind fun h1 => F_X0_weigh_59 n 19 (nI (sitM S)) (nI (i + 1)) h1 else (f_J6_bitCount_0f7a4 (nI i) h3).bind fun q5 => (gI q5.2 19 0 0).bind fun v6 => (f_J6_bitCount_0f7a4 v6 q5.2).bind fun q7 => if q7.1 ≤ q5.1 then F_X0_weigh_59 n 19 (nI (sitM S)) (nI (i + 1)) q7.2 else (pI q7.2 19 0 0 (nI i)).bind fun h1 => F_X0_weigh_59 n 19 (nI (sitM S)) (nI (i + 1)) h1 else F_X0_weigh_59 n 19 (nI (sitM S)) (nI (i + 1)) h := by
      show f_X0_weigh_b59 _ _ _ _ _ = _
      unfold f_X0_weigh_b59 f_X0_weigh_b112 f_X0_weigh_b117
      rw [if_neg (nI_nlt (by omega) (by omega))]
      simp only [m_adn (show sitM S < 256 by omega), nI_1]
    rw [pre]
    by_cases hz : adn i (sitM S) = 0
    · rw [if_pos (by rw [hz]; rfl)]
      have hsub := adn0 (s := i) (by omega) (by omega) hz
      rw [p_hasRing (E := envC S) O G (fun p _ => envC_lt Y p) (by omega) (fun p hp => hg p (sitM_tb (hsub p hp)).1), bs]
      by_cases hc : core6 (envC S) 6 i ≠ 0
      · rw [decide_eq_true hc, if_neg b1n]
        obtain ⟨h1, e1, O1, X1⟩ := O.w 1 (nI x.2 + 1) (gs := [.inl (enc x.1), .inl (nI x.2 + 1), .inr (some 20)]) rfl (show 1 < 3 by omega)
        have G1 := G.fr X1 (by omega)
        show ∃ h', (gI h 19 0 1).bind _ = _ ∧ _
        rw [O.g 1 rfl, bs]
        show ∃ h', (pI h 19 0 1 (nI x.2 + 1)).bind _ = _ ∧ _
        rw [e1, bs, O1.g 0 rfl, bs]
        obtain ⟨h2, e2, O2, X2⟩ := O1.w 0 (nI i) (gs := [.inl (nI i), .inl (nI x.2 + 1), .inr (some 20)]) rfl (show 0 < 3 by omega)
        have G2 := G1.fr X2 (by omega)
        have X1' : Fr h h1 19 2 := X1.wide (by omega) (by omega)
        have X12 : Fr h h2 19 2 := X1'.trans (X2.wide (by omega) (by omega))
        rw [nI_1] at O2
        cases hx1 : x.1 with
        | none =>
          rw [if_pos (by rfl), e2, bs]
          exact go (some i, x.2 + 1) h2 (by unfold grS; rw [if_pos ⟨hz, hc⟩, hx1]) O2 G2 X12
        | some b =>
          have hb := hx b hx1
          rw [if_neg (show ¬ enc (some b) = -1 from nI_neg1 (by omega)), p_bc (by omega), bs]
          show ∃ h', (gI h1 19 0 0).bind _ = _ ∧ _
          rw [O1.g 0 rfl, bs, hx1]
          show ∃ h', (f_J6_bitCount_0f7a4 (nI b) h1).bind _ = _ ∧ _
          rw [p_bc (by omega), bs]
          have hb6 := (pop6 b hb).1
          have hi6 := (pop6 i (by omega)).1
          by_cases hlt : popN i < popN b
          · rw [if_neg (by show ¬ nI (popN b) ≤ nI (popN i); exact nI_ge hlt (by omega))]
            show ∃ h', (pI h1 19 0 0 (nI i)).bind _ = _ ∧ _
            rw [e2, bs]
            exact go (some i, x.2 + 1) h2 (by unfold grS; rw [if_pos ⟨hz, hc⟩, hx1]; simp [hlt]) O2 G2 X12
          · rw [if_pos (by show nI (popN b) ≤ nI (popN i); exact nI_le (by omega) (by omega))]
            refine go (some b, x.2 + 1) h1 (by unfold grS; rw [if_pos ⟨hz, hc⟩, hx1]; simp [hlt]) ?_ G1 X1'
            rw [hx1, nI_1] at O1
            exact O1
      · rw [decide_eq_false hc, if_pos (by rfl)]
        exact go x h (by unfold grS; rw [if_neg (fun z => hc z.2)]) O G Fr.rfl
    · rw [if_neg (fun z => hz ((nI_0iff (by omega)).mp z))]
      exact go x h (by unfold grS; rw [if_neg (fun z => hz z.1)]) O G Fr.rfl
theorem l_whomEnvies (V : HV h 3 S) (Y : VS S) {p : Nat} (hp : p < cP S) : ∀ m i, i + m = cP S → ∀ n, m < n → ∀ t, t < 256 → F_X0_whomEnvies_20 n 3 (nI p) (enc (cS S p)) (nI (rankC S p (cS S p))) (nI t) (nI i) h = some (nI (gath (envB S p) m i t), h) := by
  have hP := Y.p6
  intro m
  induction m with
  | zero =>
    intro i hi n hn t ht
    obtain ⟨n, rfl⟩ := sx hn
    show f_X0_whomEnvies_b20 _ _ _ _ _ _ _ _ = _
    unfold f_X0_whomEnvies_b20
    rw [V.pers, bs, if_pos (nI_le (by omega) (by omega))]; rfl
  | succ m ih =>
    intro i hi n hn t ht
    obtain ⟨n, rfl⟩ := sx hn
    have hip : i < cP S := by omega
    show f_X0_whomEnvies_b20 _ _ _ _ _ _ _ _ = some (nI (gath _ m (i + 1) (if envB S p i then ins t i else t)), h)
    unfold f_X0_whomEnvies_b20 f_X0_whomEnvies_b69
    rw [V.pers, bs, if_neg (nI_ge hip (by omega)), p_seatOf V Y hip, bs, nI_1]
    cases hp1 : cS S p with
    | none =>
      rw [if_pos (by rfl), show envB S p i = false by unfold envB; rw [hp1]; rfl, if_neg (by decide)]
      have := ih (i + 1) (by omega) n (by omega) t ht
      rw [hp1] at this
      exact this
    | some rp =>
      have hrp := Y.seat hp hp1
      rw [if_neg (show ¬ enc (some rp) = -1 from nI_neg1 (by omega))]
      cases hi1 : cS S i with
      | none =>
        rw [if_pos (by rfl), show envB S p i = false by unfold envB; rw [hp1, hi1]; rfl, if_neg (by decide)]
        have := ih (i + 1) (by omega) n (by omega) t ht
        rw [hp1] at this
        exact this
      | some r =>
        have hr := Y.seat hip hi1
        have b1 := rankC_lt Y hp (some r)
        have b2 := rankC_lt Y hp (some rp)
        rw [if_neg (show ¬ enc (some r) = -1 from nI_neg1 (by omega))]
        show (f_X3_rank 3 (nI p) (enc (some r)) h).bind _ = _
        rw [p_rank V Y hp (fun k hk => by cases hk; exact hr), bs]
        have he : envB S p i = decide (rankC S p (some r) < rankC S p (some rp)) := by unfold envB; rw [hp1, hi1]; rfl
        rw [he]
        by_cases hlt : rankC S p (some r) < rankC S p (some rp)
        · rw [if_neg (nI_ge hlt (by omega)), if_pos (by simpa using hlt)]
          show (f_X8_with (nI t) (nI i) h).bind _ = _
          rw [p_with ht (by omega), bs]
          have := ih (i + 1) (by omega) n (by omega) _ (m_ins_lt t ht i (by omega))
          rw [hp1] at this
          exact this
        · rw [if_pos (nI_le (by omega) (by omega)), if_neg (by simpa using hlt)]
          have := ih (i + 1) (by omega) n (by omega) t ht
          rw [hp1] at this
          exact this
theorem p_whomEnvies (V : HV h 3 S) (Y : VS S) {fs : List MV} (O : OB h 19 0 fs) {p : Nat} (hp : p < cP S) : f_X0_whomEnvies 19 3 (nI p) h = some (nI (envC S p), h) := by
  have hP := Y.p6
  unfold f_X0_whomEnvies f_X0_whomEnvies_e
  rw [O.chk, p_seatOf V Y hp, bs]
  show (f_X3_rank 3 (nI p) (enc (cS S p)) h).bind _ = _
  rw [p_rank V Y hp (fun k hk => Y.seat hp hk), bs]
  exact l_whomEnvies V Y hp (cP S) 0 (by omega) FU (fu_lt (by omega)) 0 (by omega)
theorem l_weigh4 (Y : VS S) {a b : Int32} : ∀ m i, i + m = cP S → ∀ n, m < n → ∀ (h : HP) (g : Nat → Int32), HV h 3 S → OB h 19 0 [.inl a, .inl b, .inr (some 20)] → IA h 20 6 g → (∀ p, p < i → g p = nI (envC S p)) → ∀ t, t < 256 → gath (fun p => (cS S p).isSome) m i t = sitM S → ∃ h' g', F_X0_weigh_4 n 19 3 (nI t) (nI i) h = some h' ∧ OB h' 19 0 [.inl (enc (fld (grS S) (sitM S) 1 (none, 0)).1), .inl (nI (fld (grS S) (sitM S) 1 (none, 0)).2), .inr (some 20)] ∧ IA h' 20 6 g' ∧ Fr h h' 19 2 := by
  have hP := Y.p6
  have h64 := p2_64 Y
  have hm := sitM_lt Y
  intro m
  induction m with
  | zero =>
    intro i hi n hn h g V O G hg t ht hgath
    obtain ⟨n, rfl⟩ := sx hn
    have hgath : t = sitM S := hgath
    subst hgath
    obtain ⟨h1, e1, O1, X1⟩ := O.w 0 (-1) (gs := [.inl (-1), .inl b, .inr (some 20)]) rfl (show 0 < 3 by omega)
    obtain ⟨h2, e2, O2, X2⟩ := O1.w 1 0 (gs := [.inl (-1), .inl 0, .inr (some 20)]) rfl (show 1 < 3 by omega)
    have G2 := (G.fr X1 (by omega)).fr X2 (by omega)
    obtain ⟨h3, e3, O3, G3, X3⟩ := l_weigh59 Y (g := g) (fun p hp => hg p (by omega)) (sitM S) 1 (by omega) FU (fu_lt (by omega)) h2 (none, 0) O2 G2 (fun b hb => by cases hb)
    refine ⟨h3, g, ?_, O3, G3, ((X1.wide (by omega) (by omega) : Fr h h1 19 2).trans (X2.wide (by omega) (by omega))).trans X3⟩
    show f_X0_weigh_b4 _ _ _ _ _ _ = _
    unfold f_X0_weigh_b4
    rw [V.pers, bs, if_pos (nI_le (by omega) (by omega)), e1, bs, e2, bs]
    exact e3
  | succ m ih =>
    intro i hi n hn h g V O G hg t ht hgath
    obtain ⟨n, rfl⟩ := sx hn
    have hip : i < cP S := by omega
    obtain ⟨h1, e1, G1, X1⟩ := G.w (k := i) (by omega) (by omega) (nI (envC S i))
    have V1 : HV h1 3 S := V.eq (fun k _ _ => X1 k (by omega))
    have O1 := O.eq (X1 19 (by omega))
    have hg1 : ∀ p, p < i + 1 → upd g i (nI (envC S i)) p = nI (envC S p) := fun p hp => by
      by_cases hpi : p = i
      · rw [hpi, us]
      · rw [un hpi]; exact hg p (by omega)
    have X1' : Fr h h1 19 2 := X1.wide (by omega) (by omega)
    have h27 : ∀ t, f_X0_weigh_b27 (F_X0_weigh_4 n) 19 3 t (nI i) h = F_X0_weigh_4 n 19 3 t (nI (i + 1)) h1 := fun t => by
      unfold f_X0_weigh_b27
      rw [O.r 2 rfl, bs, p_whomEnvies V Y O hip, bs]
      show (f_X8_put 20 (nI i) (nI (envC S i)) h).bind _ = _
      rw [e1, bs, nI_1]
    have hgath : gath (fun p => (cS S p).isSome) m (i + 1) (if (cS S i).isSome then ins t i else t) = sitM S := hgath
    have pre : F_X0_weigh_4 (n + 1) 19 3 (nI t) (nI i) h = F_X0_weigh_4 n 19 3 (nI (if (cS S i).isSome then ins t i else t)) (nI (i + 1)) h1 := by
      show f_X0_weigh_b4 _ _ _ _ _ _ = _
      unfold f_X0_weigh_b4
      rw [V.pers, bs, if_neg (nI_ge hip (by omega)), p_seatOf V Y hip, bs]
      cases hs : cS S i with
      | none =>
        rw [if_pos (by rfl)]
        exact h27 (nI t)
      | some r =>
        have := Y.seat hip hs
        rw [if_neg (show ¬ enc (some r) = -1 from nI_neg1 (by omega))]
        show (f_X8_with (nI t) (nI i) h).bind _ = _
        rw [p_with ht (by omega), bs]
        exact h27 (nI (ins t i))
    have ht1 : (if (cS S i).isSome then ins t i else t) < 256 := by
      split
      · exact m_ins_lt t ht i (by omega)
      · exact ht
    obtain ⟨h2, g2, e2, O2, G2, X2⟩ := ih (i + 1) (by omega) n (by omega) h1 _ V1 O1 G1 hg1 _ ht1 hgath
    exact ⟨h2, g2, pre.trans e2, O2, G2, X1'.trans X2⟩
theorem p_weighed (c0 : C0 h) (V : HV h 3 S) (Y : VS S) (B : BX h) : ∃ h', f_X8_weighed 0 h = some (some 19, h') ∧ OB h' 19 0 [.inl (enc (fld (grS S) (sitM S) 1 (none, 0)).1), .inl (nI (fld (grS S) (sitM S) 1 (none, 0)).2), .inr (some 20)] ∧ BX h' ∧ Fr h h' 19 2 := by
  have hP := Y.p6
  obtain ⟨a, b, g, O, G⟩ := B
  obtain ⟨h', g', e, O', G', X⟩ := l_weigh4 Y (cP S) 0 (by omega) FU (fu_lt (by omega)) h g V O G (fun p hp => by omega) 0 (by omega) rfl
  refine ⟨h', ?_, O', ⟨_, _, _, O', G'⟩, X⟩
  unfold f_X8_weighed f_X8_weighed_e
  rw [c0.chk, c0.r 4 rfl, bs, c0.r 1 rfl, bs]
  unfold f_X0_weigh f_X0_weigh_e
  rw [O.chk]
  show (F_X0_weigh_4 FU 19 3 (nI 0) (nI 0) h).bind _ = _
  rw [e, bs, (c0.eq (X 0 (by omega)) : C0 h').r 4 rfl, bs]
end WEC
