/-! the reference's reader -/
section RDM
variable {h : HP} {F : Nat → Int32} {A : AT} {L : Nat} {T : Nat → Int32}
def FQ (F F' : Nat → Int32) : Prop := ∀ q, q ≠ 19 → F' q = F q
theorem l_here (hL : L ≤ 240) (hT : ∀ j, j < L → A 1 j = T j) : ∀ m i, L - i = m → i ≤ 300 → ∀ n, m < n → ∀ (h : HP) (F : Nat → Int32), MM h F A → F 6 = nI L → F 19 = nI i → ∃ h' F', F_X9_here_0 n 142 h = some (if skB T m i < L then T (skB T m i) else 0, h') ∧ MM h' F' A ∧ F' 19 = nI (skB T m i) ∧ FQ F F' ∧ Fr h h' 142 12 := by
  intro m
  induction m with
  | zero =>
    intro i hi hi3 n hn h F M f6 f19
    obtain ⟨n, rfl⟩ := sx hn
    refine ⟨h, F, ?_, M, f19, fun _ _ => rfl, Fr.rfl⟩
    show f_X9_here_b0 _ _ _ = some (if i < L then T i else 0, h)
    unfold f_X9_here_b0 f_X9_here_b38 f_X9_here_b62
    rw [M.g 19 rfl, bs, M.g 6 rfl, bs, f6, f19, if_pos (nI_le (by omega) (by omega)), bs, bs, if_pos (nI_le (by omega) (by omega)), if_neg (by omega)]
  | succ m ih =>
    intro i hi hi3 n hn h F M f6 f19
    obtain ⟨n, rfl⟩ := sx hn
    have hiL : i < L := by omega
    have pre : F_X9_here_0 (n + 1) 142 h = if T i = 32 then (pI h 142 9 19 (nI (i + 1))).bind fun h7 => F_X9_here_0 n 142 h7 else some (T i, h) := by
      show f_X9_here_b0 _ _ _ = _
      unfold f_X9_here_b0 f_X9_here_b38 f_X9_here_b62
      rw [M.g 19 rfl, bs, M.g 6 rfl, bs, f6, f19, if_neg (nI_ge hiL (by omega)), M.r 5 rfl, bs, bs]
      show (ald h (143 + 1) (nI i)).bind _ = _
      rw [M.ald 1 (by omega) (show i < 240 by omega), bs, hT i hiL, bs, nI_1, bs, bs, if_neg (nI_ge hiL (by omega)), bs, bs]
      show (if T i = 32 then _ else (ald h (143 + 1) (nI i)).bind _) = _
      rw [M.ald 1 (by omega) (show i < 240 by omega), bs, hT i hiL]
    rw [pre]
    unfold skB
    by_cases ht : T i = 32
    · rw [if_pos ht, if_pos ht]
      obtain ⟨h1, e1, M1, X1⟩ := M.p 19 (nI (i + 1)) rfl (by omega)
      obtain ⟨h2, F2, e2, M2, g2, q2, X2⟩ := ih (i + 1) (by omega) (by omega) n (by omega) h1 _ M1 ((un (by omega)).trans f6) us
      exact ⟨h2, F2, by rw [e1, bs, e2], M2, g2, fun q hq => (q2 q hq).trans (un hq), X1.trans X2⟩
    · rw [if_neg ht, if_neg ht]
      exact ⟨h, F, by rw [if_pos hiL], M, f19, fun _ _ => rfl, Fr.rfl⟩
theorem p_here (hL : L ≤ 240) (hT : ∀ j, j < L → A 1 j = T j) (M : MM h F A) (f6 : F 6 = nI L) {i : Nat} (hi3 : i ≤ 300) (f19 : F 19 = nI i) : ∃ h' F', f_X9_here 142 h = some (if nx T L i < L then T (nx T L i) else 0, h') ∧ MM h' F' A ∧ F' 19 = nI (nx T L i) ∧ FQ F F' ∧ Fr h h' 142 12 := by
  obtain ⟨h', F', e, r⟩ := l_here hL hT (L - i) i rfl hi3 FU (fu_lt (by omega)) h F M f6 f19
  refine ⟨h', F', ?_, r⟩
  unfold f_X9_here
  rw [M.chk]
  exact e
theorem p_fine (M : MM h F A) : f_X9_fine 142 h = some (bI (decide (F 20 = 0)), h) := by
  unfold f_X9_fine f_X9_fine_e f_X9_fine_b12
  rw [M.chk, M.g 20 rfl, bs]
  by_cases hf : F 20 = 0
  · rw [if_pos hf, if_pos (by decide), decide_eq_true hf]; rfl
  · rw [if_neg hf, if_pos (by decide), decide_eq_false hf]; rfl
theorem fine0 (M : MM h F A) (hf : F 20 = 0) : f_X9_fine 142 h = some (1, h) := by rw [p_fine M, decide_eq_true hf]; rfl
theorem fine1 (M : MM h F A) (hf : ¬ F 20 = 0) : f_X9_fine 142 h = some (0, h) := by rw [p_fine M, decide_eq_false hf]; rfl
theorem p_failM0 (M : MM h F A) (hf : F 20 = 0) (c w : Int32) : ∃ h', f_X9_fail 142 c w h = some h' ∧ MM h' (upd (upd F 20 c) 21 w) A ∧ Fr h h' 142 12 := by
  obtain ⟨h1, e1, M1, X1⟩ := M.p 20 c rfl (by omega)
  obtain ⟨h2, e2, M2, X2⟩ := M1.p 21 w rfl (by omega)
  refine ⟨h2, ?_, M2, X1.trans X2⟩
  unfold f_X9_fail f_X9_fail_e f_X9_fail_b17
  rw [M.chk, fine0 M hf, bs, if_neg (show ¬ (1 : Int32) = 0 by decide), e1, bs, e2, bs]
theorem l_numM (hL : L ≤ 240) (hT : ∀ j, j < L → A 1 j = T j) {f : Nat} {lo up fst : Int32} : ∀ m i, i + m = L → ∀ n, m < n → ∀ (h : HP) (F : Nat → Int32) (v : Int32) (k : Nat), MM h F A → F 6 = nI L → F 19 = nI i → F 24 = nI f → f + k = i → ∃ h' F', F_X9_number_25 n 142 lo up fst v h = f_X9_number_b106 142 lo up fst (num T m i v k).1 h' ∧ MM h' F' A ∧ F' 19 = nI (num T m i v k).2.1 ∧ FQ F F' ∧ Fr h h' 142 12 := by
  intro m
  induction m with
  | zero =>
    intro i hi n hn h F v k M f6 f19 f24 hk
    obtain ⟨n, rfl⟩ := sx hn
    refine ⟨h, F, ?_, M, f19, fun _ _ => rfl, Fr.rfl⟩
    show f_X9_number_b25 _ _ _ _ _ _ _ = _
    unfold f_X9_number_b25
    rw [M.g 19 rfl, bs, M.g 6 rfl, bs, f6, f19, if_pos (nI_le (by omega) (by omega))]
    rfl
  | succ m ih =>
    intro i hi n hn h F v k M f6 f19 f24 hk
    obtain ⟨n, rfl⟩ := sx hn
    have hiL : i < L := by omega
    have pre : F_X9_number_25 (n + 1) 142 lo up fst v h = if bI (dig (T i)) = 0 then f_X9_number_b106 142 lo up fst v h else if (3 : Int32) ≤ nI k then (pI h 142 9 19 (nI (i + 1))).bind fun h2 => F_X9_number_25 n 142 lo up fst v h2 else (pI h 142 9 19 (nI (i + 1))).bind fun h2 => F_X9_number_25 n 142 lo up fst (10 * v + T i - 48) h2 := by
      show f_X9_number_b25 _ _ _ _ _ _ _ = _
      unfold f_X9_number_b25 f_X9_number_b91
      rw [M.g 19 rfl, bs, M.g 6 rfl, bs, f6, f19, if_neg (nI_ge hiL (by omega)), M.r 5 rfl, bs, bs]
      show (ald h (143 + 1) (nI i)).bind _ = _
      rw [M.ald 1 (by omega) (show i < 240 by omega), bs, hT i hiL, p_in, bs]
      show (if bI (dig (T i)) = 0 then f_X9_number_b106 142 lo up fst v h else (gI h 142 9 19).bind fun v7 => (gI h 142 9 24).bind fun v8 => if 3 ≤ v7 - v8 then (gI h 142 9 19).bind _ else (gR h 142 9 5).bind fun r9 => (gI h 142 9 19).bind fun v10 => (ald h r9 v10).bind _) = _
      rw [M.g 19 rfl, bs, M.g 24 rfl, bs, f19, f24, pk_sub (by omega), show i - f = k by omega, bs, nI_1, M.r 5 rfl, bs, bs]
      show (if bI (dig (T i)) = 0 then f_X9_number_b106 142 lo up fst v h else if (3 : Int32) ≤ nI k then _ else (ald h (143 + 1) (nI i)).bind _) = _
      rw [M.ald 1 (by omega) (show i < 240 by omega), bs, hT i hiL, bs, nI_1]
    rw [pre]
    unfold num
    cases hd : dig (T i) with
    | false =>
      rw [if_pos (by rfl), if_neg (by decide)]
      exact ⟨h, F, rfl, M, f19, fun _ _ => rfl, Fr.rfl⟩
    | true =>
      rw [if_neg b1n, if_pos rfl]
      obtain ⟨h1, e1, M1, X1⟩ := M.p 19 (nI (i + 1)) rfl (by omega)
      by_cases hk3 : k < 3
      · rw [if_neg (show ¬ (3 : Int32) ≤ nI k from nI_ge (b := 3) (by omega) (by omega)), if_pos hk3, e1, bs]
        obtain ⟨h2, F2, e2, M2, g2, q2, X2⟩ := ih (i + 1) (by omega) n (by omega) h1 _ (10 * v + T i - 48) (k + 1) M1 ((un (by omega)).trans f6) us ((un (by omega)).trans f24) (by omega)
        rw [show v * 10 = 10 * v from Int32.mul_comm v 10]
        exact ⟨h2, F2, e2, M2, g2, fun q hq => (q2 q hq).trans (un hq), X1.trans X2⟩
      · rw [if_pos (show (3 : Int32) ≤ nI k from nI_le (a := 3) (by omega) (by omega)), if_neg hk3, e1, bs]
        obtain ⟨h2, F2, e2, M2, g2, q2, X2⟩ := ih (i + 1) (by omega) n (by omega) h1 _ v (k + 1) M1 ((un (by omega)).trans f6) us ((un (by omega)).trans f24) (by omega)
        exact ⟨h2, F2, e2, M2, g2, fun q hq => (q2 q hq).trans (un hq), X1.trans X2⟩
/-- as the reference holds a number or a fault -/
def MN (F' : Nat → Int32) (x : Int32) : (Nat × Nat) ⊕ (Int32 × Nat) → Prop
  | .inl e => F' 20 = nI e.1 ∧ F' 21 = nI e.2 ∧ ∃ i, i ≤ 240 ∧ F' 19 = nI i
  | .inr z => x = z.1 ∧ F' 20 = 0 ∧ F' 19 = nI z.2
def FN (F F' : Nat → Int32) : Prop := ∀ q, q ≠ 19 → q ≠ 20 → q ≠ 21 → q ≠ 24 → F' q = F q
theorem p_number (hL : L ≤ 240) (hT : ∀ j, j < L → A 1 j = T j) (M : MM h F A) (f6 : F 6 = nI L) {i : Nat} (hi : i ≤ L) (f19 : F 19 = nI i) (f20 : F 20 = 0) (lo hi9 : Int32) : ∃ x h' F', f_X9_number 142 lo hi9 h = some (x, h') ∧ MM h' F' A ∧ MN F' x (numP T L lo hi9 i) ∧ FN F F' ∧ F' 24 = nI (nx T L i) ∧ Fr h h' 142 12 := by
  obtain ⟨h1, F1, e1, M1, g1, q1, X1⟩ := p_here hL hT M f6 (by omega) f19
  obtain ⟨a, b, c⟩ := nx_le (T := T) hi
  obtain ⟨h2, e2, M2, X2⟩ := M1.p 24 (nI (nx T L i)) rfl (by omega)
  obtain ⟨h3, F3, e3, M3, g3, q3, X3⟩ := l_numM (f := nx T L i) (lo := lo) (up := hi9) (fst := if nx T L i < L then T (nx T L i) else 0) hL hT (L - nx T L i) (nx T L i) (by omega) FU (fu_lt (by omega)) h2 _ 0 0 M2 ((un (by omega)).trans ((q1 6 (by omega)).trans f6)) ((un (by omega)).trans g1) us (by omega)
  obtain ⟨n1, n2, n3⟩ := num_le (T := T) (L - nx T L i) (nx T L i) 0 0
  have n0 := num_0 (T := T) (m := L - nx T L i) (i := nx T L i) (v := 0)
  have X := (X1.trans X2).trans X3
  have q24 : F3 24 = nI (nx T L i) := (q3 24 (by omega)).trans us
  have qq : ∀ q, q ≠ 19 → q ≠ 24 → F3 q = F q := fun q h1 h2 => (q3 q h1).trans ((un h2).trans (q1 q h1))
  have q20 : F3 20 = 0 := (qq 20 (by omega) (by omega)).trans f20
  have pre : f_X9_number 142 lo hi9 h = f_X9_number_b106 142 lo hi9 (if nx T L i < L then T (nx T L i) else 0) (num T (L - nx T L i) (nx T L i) 0 0).1 h3 := by
    unfold f_X9_number f_X9_number_e
    rw [M.chk, fine0 M f20, bs, if_neg (show ¬ (1 : Int32) = 0 by decide)]
    show (f_X9_here 142 h).bind _ = _
    rw [e1, bs]
    show (gI h1 142 9 19).bind _ = _
    rw [M1.g 19 rfl, bs, g1]
    show (pI h1 142 9 24 (nI (nx T L i))).bind _ = _
    rw [e2, bs]
    exact e3
  rw [pre]
  unfold numP
  generalize num T (L - nx T L i) (nx T L i) 0 0 = z at g3 n1 n2 n3 n0 ⊢
  have hd : dig (if nx T L i < L then T (nx T L i) else 0) = true ↔ ¬ z.2.2 = 0 := by
    rw [n0]
    by_cases hl : nx T L i < L
    · rw [if_pos hl]
      constructor
      · intro hd q; exact q ⟨by omega, hd⟩
      · intro q
        rcases Decidable.em (dig (T (nx T L i)) = true) with w | w
        · exact w
        · exact absurd (fun r => w r.2) q
    · rw [if_neg hl]
      constructor
      · intro hd; exact absurd hd (by decide)
      · intro q; exact absurd (fun r => by omega) q
  have fl : ∀ c w : Int32, ∃ h', f_X9_fail 142 c w h3 = some h' ∧ MM h' (upd (upd F3 20 c) 21 w) A ∧ Fr h3 h' 142 12 := fun c w => p_failM0 M3 q20 c w
  have fn : ∀ c w : Int32, FN F (upd (upd F3 20 c) 21 w) := fun c w q h1 h2 h3 h4 => (un h3).trans ((un h2).trans (qq q h1 h4))
  unfold f_X9_number_b106 f_X9_number_b152 f_X9_number_b161
  rw [p_in, bs]
  show ∃ x h' F', (if bI (dig (if nx T L i < L then T (nx T L i) else 0)) = 0 then (gI h3 142 9 24).bind _ else (gI h3 142 9 19).bind fun v4 => (gI h3 142 9 24).bind fun v5 => if 3 < v4 - v5 then (gI h3 142 9 24).bind _ else (f_X9_in z.1 lo hi9 h3).bind fun q6 => if q6.1 = 0 then (gI q6.2 142 9 24).bind _ else _) = some (x, h') ∧ _
  rw [M3.g 24 rfl, bs, M3.g 19 rfl, bs, q24, g3, bs, pk_sub n1, show z.2.1 - nx T L i = z.2.2 by omega, bs, p_in, bs]
  by_cases h0 : z.2.2 = 0
  · have hdf : dig (if nx T L i < L then T (nx T L i) else 0) = false := by
      cases hh : dig (if nx T L i < L then T (nx T L i) else 0) with
      | false => rfl
      | true => exact absurd h0 (hd.mp hh)
    rw [if_pos (by rw [hdf]; rfl), if_pos h0]
    obtain ⟨h4, e4, M4, X4⟩ := fl 1 (nI (nx T L i))
    exact ⟨z.1, h4, _, by rw [e4, bs], M4, ⟨rfl, us, _, by omega, (un (by omega)).trans ((un (by omega)).trans g3)⟩, fn _ _, (un (by omega)).trans ((un (by omega)).trans q24), X.trans X4⟩
  · rw [if_neg (by rw [hd.mpr h0]; exact b1n), if_neg h0]
    by_cases h9 : 3 < z.2.2
    · rw [if_pos (show (3 : Int32) < nI z.2.2 from nI_lt (a := 3) h9 (by omega)), if_pos h9]
      obtain ⟨h4, e4, M4, X4⟩ := fl 2 (nI (nx T L i))
      exact ⟨z.1, h4, _, by rw [e4, bs], M4, ⟨rfl, us, _, by omega, (un (by omega)).trans ((un (by omega)).trans g3)⟩, fn _ _, (un (by omega)).trans ((un (by omega)).trans q24), X.trans X4⟩
    · rw [if_neg (show ¬ (3 : Int32) < nI z.2.2 from nI_nlt (a := 3) (by omega) (by omega)), if_neg h9]
      by_cases hb : ¬ z.1 < lo ∧ ¬ hi9 < z.1
      · rw [if_neg (by show ¬ bI (decide _) = 0; rw [decide_eq_true hb]; exact b1n), if_pos hb]
        exact ⟨z.1, h3, F3, rfl, M3, ⟨rfl, q20, g3⟩, fun q h1 h2 h3 h4 => qq q h1 h4, q24, X⟩
      · rw [if_pos (by show bI (decide _) = 0; rw [decide_eq_false hb]; rfl), if_neg hb]
        obtain ⟨h4, e4, M4, X4⟩ := fl 2 (nI (nx T L i))
        refine ⟨z.1, h4, _, ?_, M4, ⟨rfl, us, _, by omega, (un (by omega)).trans ((un (by omega)).trans g3)⟩, fn _ _, (un (by omega)).trans ((un (by omega)).trans q24), X.trans X4⟩
        show (gI h3 142 9 24).bind _ = _
        rw [M3.g 24 rfl, bs, q24, e4, bs]
end RDM
