/-! how the reference counts the partings -/
def Vv (ok : Nat → Nat → Bool) (set G : Nat) : Nat := UU ok set (popN G) G
def wT (ok : Nat → Nat → Bool) (set g i G q : Nat) : Nat := if (G.testBit q && (decide (del G q < g ∨ (del G q = g ∧ q < i)) && ctb ok set (popN (del G q)) q)) = true then Vv ok set (del G q) else 0
def Ws (ok : Nat → Nat → Bool) (set g i G : Nat) : Nat := if G = 0 then 1 else sum6 (wT ok set g i G)
section WSS
variable {ok : Nat → Nat → Bool} {set : Nat}
theorem vv_b {G : Nat} (hG : G < 64) : Vv ok set G ≤ 46656 := by
  have h := uu_b (ok := ok) (set := set) (popN G) G
  have h2 : 6 ^ popN G ≤ 6 ^ 6 := Nat.pow_le_pow_right (by omega) (pop6 G hG).1
  unfold Vv
  omega
theorem ws_full {g G : Nat} (hG : G < 64) (hg : G ≤ g) : Ws ok set g 0 G = Vv ok set G := by
  unfold Ws Vv
  by_cases h0 : G = 0
  · subst h0
    rw [if_pos rfl]
    rfl
  · rw [if_neg h0]
    obtain ⟨k, hk⟩ : ∃ k, popN G = k + 1 := ⟨popN G - 1, by
      have := (pop6 G hG).2
      have : popN G ≠ 0 := fun z => h0 (this z)
      omega⟩
    rw [hk]
    refine sum6_congr (fun q hq => ?_)
    unfold wT
    by_cases hb : G.testBit q = true
    · have h1 := popdel G hG q hq hb
      have h2 := dellt G hG q hq hb
      have h3 : popN (del G q) = k := by omega
      rw [hb, h3, decide_eq_true (show del G q < g ∨ (del G q = g ∧ q < 0) from Or.inl (by omega))]
      unfold Vv
      rw [h3]
      simp only [Bool.true_and]
    · rw [Bool.not_eq_true _ |>.mp hb]
      rfl
theorem gi_iff : ∀ g, g < 64 → ∀ i, i < 6 → ∀ G, G < 64 → ((G.testBit i = true ∧ del G i = g) ↔ (g.testBit i = false ∧ G = ins g i)) := by
  intro g hg i hi G hG
  constructor
  · rintro ⟨h1, rfl⟩
    exact ⟨by rw [tb_del (by omega) (by omega)]; simp, (insdel G hG i hi h1).symm⟩
  · rintro ⟨h1, rfl⟩
    exact ⟨by rw [tb_ins]; simp, delins g hg i hi h1⟩
theorem wt_eq {g i G q : Nat} (h : q ≠ i ∨ del G q ≠ g) : wT ok set g (i + 1) G q = wT ok set g i G q := by
  unfold wT
  have : decide (del G q < g ∨ (del G q = g ∧ q < i + 1)) = decide (del G q < g ∨ (del G q = g ∧ q < i)) := by
    by_cases h1 : del G q < g
    · simp [h1]
    · by_cases h2 : del G q = g
      · have h3 : q ≠ i := h.resolve_right (fun w => w h2)
        simp only [h2, Nat.lt_irrefl, true_and, false_or, decide_eq_decide]
        omega
      · simp [h1, h2]
  rw [this]
theorem ws_step {g i G : Nat} (hg : g < 64) (hi : i < 6) (hG : G < 64) : Ws ok set g (i + 1) G = if G = ins g i ∧ g.testBit i = false ∧ ctb ok set (popN g) i = true then Ws ok set g i G + Vv ok set g else Ws ok set g i G := by
  unfold Ws
  by_cases h0 : G = 0
  · have : ¬ (G = ins g i ∧ g.testBit i = false ∧ ctb ok set (popN g) i = true) := fun w => ins_ne (s := g) (k := i) (by rw [← w.1, h0])
    rw [if_neg this, if_pos h0, if_pos h0]
  · rw [if_neg h0, if_neg h0]
    by_cases hc : G = ins g i ∧ g.testBit i = false ∧ ctb ok set (popN g) i = true
    · rw [if_pos hc]
      obtain ⟨c1, c2, c3⟩ := hc
      obtain ⟨d1, d2⟩ := (gi_iff g hg i hi G hG).mpr ⟨c2, c1⟩
      refine sum6_add hi ?_ (fun r hr hri => wt_eq (Or.inl hri))
      unfold wT
      rw [d1, d2, c3]
      simp
    · rw [if_neg hc]
      refine sum6_congr (fun q hq => ?_)
      by_cases hqi : q = i
      · subst hqi
        by_cases hd : del G q = g
        · unfold wT
          by_cases hb : G.testBit q = true
          · have := (gi_iff g hg q hi G hG).mp ⟨hb, hd⟩
            have hcf : ctb ok set (popN g) q = false := by
              cases hx : ctb ok set (popN g) q with
              | false => rfl
              | true => exact absurd ⟨this.2, this.1, hx⟩ hc
            rw [hd, hcf]
            simp
          · rw [Bool.not_eq_true _ |>.mp hb]; rfl
        · exact wt_eq (Or.inr hd)
      · exact wt_eq (Or.inl hqi)
/-- nobody to choose, or no way there: nothing is added -/
theorem ws_skip {g i G : Nat} (hi : i ≤ 6) (h : (∀ q, i ≤ q → q < 6 → ctb ok set (popN g) q = false) ∨ Vv ok set g = 0) : Ws ok set (g + 1) 0 G = Ws ok set g i G := by
  unfold Ws
  by_cases h0 : G = 0
  · rw [if_pos h0, if_pos h0]
  · rw [if_neg h0, if_neg h0]
    refine sum6_congr (fun q hq => ?_)
    unfold wT
    by_cases hd : del G q = g
    · by_cases hqi : q < i
      · rw [decide_eq_true (show del G q < g + 1 ∨ (del G q = g + 1 ∧ q < 0) from Or.inl (by omega)), decide_eq_true (show del G q < g ∨ (del G q = g ∧ q < i) from Or.inr ⟨hd, hqi⟩)]
      · rcases h with h | h
        · rw [hd, h q (by omega) hq]
          simp
        · rw [hd, h]
          simp
    · have : decide (del G q < g + 1 ∨ (del G q = g + 1 ∧ q < 0)) = decide (del G q < g ∨ (del G q = g ∧ q < i)) := by
        rw [decide_eq_decide]
        omega
      rw [this]
theorem ws_0 {G : Nat} : Ws ok set 0 0 G = if G = 0 then 1 else 0 := by
  unfold Ws
  by_cases h0 : G = 0
  · rw [if_pos h0, if_pos h0]
  · rw [if_neg h0, if_neg h0]
    show wT ok set 0 0 G 0 + wT ok set 0 0 G 1 + wT ok set 0 0 G 2 + wT ok set 0 0 G 3 + wT ok set 0 0 G 4 + wT ok set 0 0 G 5 = 0
    have : ∀ q, wT ok set 0 0 G q = 0 := fun q => by unfold wT; simp
    rw [this, this, this, this, this, this]
end WSS
/-- a person of a set as the reference finds it -/
theorem l_personAt {set : Nat} (hs : set < 256) (h : HP) : ∀ m i, i + m = 6 → ∀ n, m < n → ∀ k, k < 100 → F_X9_personAt_4 n (nI set) (nI k) (nI i) h = some (enc (patL set m i k), h) := by
  intro m
  induction m with
  | zero =>
    intro i hi n hn k hk
    obtain ⟨n, rfl⟩ := sx hn
    show f_X9_personAt_b4 _ _ _ _ _ = _
    unfold f_X9_personAt_b4
    rw [if_pos (show (6 : Int32) ≤ nI i from nI_le (a := 6) (by omega) (by omega))]
    rfl
  | succ m ih =>
    intro i hi n hn k hk
    obtain ⟨n, rfl⟩ := sx hn
    show f_X9_personAt_b4 _ _ _ _ _ = _
    unfold f_X9_personAt_b4 f_X9_personAt_b27 patL
    rw [if_neg (show ¬ (6 : Int32) ≤ nI i from nI_ge (b := 6) (by omega) (by omega)), p_has hs (by omega), bs, nI_1]
    by_cases hb : set.testBit i = true
    · rw [if_neg (by show ¬ bI (set.testBit i) = 0; rw [hb]; exact b1n), if_pos hb]
      by_cases hk0 : k = 0
      · rw [if_pos hk0, hk0, if_pos (by rfl)]; rfl
      · rw [if_neg hk0, if_neg (nI_ne0 (by omega) (by omega)), show nI k + (-1) = nI (k - 1) by rw [show k = (k - 1) + 1 by omega]; exact pk_m1 _]
        exact ih (i + 1) (by omega) n (by omega) (k - 1) (by omega)
    · rw [if_pos (by show bI (set.testBit i) = 0; rw [Bool.not_eq_true _ |>.mp hb]; rfl), if_neg hb]
      exact ih (i + 1) (by omega) n (by omega) k hk
theorem p_personAt {set k : Nat} (hs : set < 256) (hk : k < 100) (h : HP) : f_X9_personAt (nI set) (nI k) h = some (enc (pat set k), h) := l_personAt hs h 6 0 (by omega) FU (fu_lt (by omega)) k hk
/-- what changes while it counts: what is wanted, and the ways -/
def AW (A A' : AT) : Prop := ∀ j, j ≠ 5 → j ≠ 10 → A' j = A j
theorem AW.rfl {A : AT} : AW A A := fun _ _ _ => Eq.refl _
theorem AW.trans {A B C : AT} (h1 : AW A B) (h2 : AW B C) : AW A C := fun j hj hk => (h2 j hj hk).trans (h1 j hj hk)
theorem AW.set (A : AT) (g : Nat → Int32) : AW A (setA A 10 g) := fun j _ hk => setA_n A g hk
theorem AE.aw {A A' : AT} (a : AE A A') : AW A A' := fun j hj _ => a j hj
def okM (S : CS) (p q : Nat) : Bool := decide (rkM S p ((cS S q).getD 0) ≤ rkM S p ((cS S p).getD 0))
theorem rkM_lt {S : CS} (Y : VS S) {p r : Nat} (hp : p < cP S) : rkM S p r < 100 := by
  unfold rkM
  cases hi : idx r (wantsC S p) with
  | none => show 99 < 100; omega
  | some k =>
    have hl := wants_len Y hp
    have : ∀ (l : List Nat) k, idx r l = some k → k < l.length := by
      intro l
      induction l with
      | nil => intro k hk; cases hk
      | cons x t ih =>
        intro k hk
        unfold idx at hk
        by_cases hx : x = r
        · rw [if_pos hx] at hk; cases hk; simp
        · rw [if_neg hx] at hk
          obtain ⟨j, hj, rfl⟩ := Option.map_eq_some_iff.mp hk
          have := ih j hj
          simp; omega
    have := this _ k hi
    show k < 100
    omega
section PAR
variable {F : Nat → Int32} {S : CS} {set : Nat}
/-- one row of ways as numbers -/
def WR (a : Nat → Int32) (w : Nat → Nat) : Prop := ∀ G, G < 64 → a G = nI (w G)
theorem l_part48 (Y : VS S) (f2 : F 2 = nI (cP S)) (hs : set < 2 ^ cP S) (hsit : ∀ q, set.testBit q = true → ∃ r, cS S q = some r) {g p : Nat} (hg : g < 64) (hp : pat set (popN g) = some p) (hv : 0 < Vv (okM S) set g) (K : Nat → Int32 → Int32 → HP → Option (Int32 × HP)) : ∀ m i, i + m = cP S → ∀ n, m < n → ∀ (h : HP) (A : AT), MM h F A → RV (A 0) 0 S → WR (A 10) (Ws (okM S) set g i) → ∃ h' A', F_X9_partings_48 K n 142 (nI set) (nI g) (nI p) (nI i) h = K 142 (nI set) (nI (g + 1)) h' ∧ MM h' F A' ∧ AW A A' ∧ Fr h h' 142 12 ∧ WR (A' 10) (Ws (okM S) set (g + 1) 0) := by
  have hP := Y.p6
  have hs6 : set < 64 := Nat.lt_of_lt_of_le hs (Nat.pow_le_pow_right (n := 2) (by omega) (show cP S ≤ 6 from hP))
  have hsb : ∀ q, set.testBit q = true → q < cP S := fun q hq => by
    rcases Nat.lt_or_ge q (cP S) with z | z
    · exact z
    · rw [Nat.testBit_lt_two_pow (Nat.lt_of_lt_of_le hs (Nat.pow_le_pow_right (by omega) z))] at hq
      cases hq
  have hg6 := (pop6 g hg).1
  obtain ⟨hp6, hps, -⟩ := pat_some hs6 (by omega) hp
  have hpP := hsb p hps
  obtain ⟨rp, hrp⟩ := hsit p hps
  have hrp8 := Y.seat hpP hrp
  intro m
  induction m with
  | zero =>
    intro i hi n hn h A M R W
    obtain ⟨n, rfl⟩ := sx hn
    refine ⟨h, A, ?_, M, AW.rfl, Fr.rfl, fun G hG => ?_⟩
    · show f_X9_partings_b48 _ _ _ _ _ _ _ _ = _
      unfold f_X9_partings_b48 f_X9_partings_b174
      rw [M.g 2 rfl, bs, f2, if_pos (nI_le (by omega) (by omega)), nI_1]
    · rw [W G hG, ws_skip (i := i) (by omega) (Or.inl (fun q h1 h2 => by
        rw [ctb_s hp]
        cases hq : set.testBit q with
        | false => rfl
        | true => have := hsb q hq; omega))]
  | succ m ih =>
    intro i hi n hn h A M R W
    obtain ⟨n, rfl⟩ := sx hn
    have hip : i < cP S := by omega
    have hwg : A 10 g = nI (Vv (okM S) set g) := by
      rw [W g hg]
      congr 1
      rw [← ws_full (ok := okM S) (set := set) (g := g) hg (Nat.le_refl _)]
      unfold Ws
      by_cases h0 : g = 0
      · rw [if_pos h0, if_pos h0]
      · rw [if_neg h0, if_neg h0]
        refine sum6_congr (fun q hq => ?_)
        unfold wT
        by_cases hb : g.testBit q = true
        · have := dellt g hg q hq hb
          rw [decide_eq_true (show del g q < g ∨ (del g q = g ∧ q < i) from Or.inl this), decide_eq_true (show del g q < g ∨ (del g q = g ∧ q < 0) from Or.inl this)]
        · rw [Bool.not_eq_true _ |>.mp hb]; rfl
    have hvb := vv_b (ok := okM S) (set := set) hg
    -- nothing is added
    have no : ∀ (h : HP) (A : AT), MM h F A → RV (A 0) 0 S → WR (A 10) (Ws (okM S) set g i) → (g.testBit i = false → ctb (okM S) set (popN g) i = false) → ∃ h' A', f_X9_partings_b127 (F_X9_partings_48 K n) 142 (nI set) (nI g) (nI p) (nI i) h = K 142 (nI set) (nI (g + 1)) h' ∧ MM h' F A' ∧ AW A A' ∧ Fr h h' 142 12 ∧ WR (A' 10) (Ws (okM S) set (g + 1) 0) := by
      intro h A M R W hc
      obtain ⟨h1, e1, M1, X1⟩ := M.ast 10 (by omega) (show 0 < 64 by omega) (A 10 0 + 0)
      have ha : setA A 10 (upd (A 10) 0 (A 10 0 + 0)) = A := by
        funext j
        unfold setA
        split
        · rename_i hj
          subst hj
          funext k
          unfold upd
          split
          · rename_i hk; rw [hk]; simp
          · rfl
        · rfl
      rw [ha] at M1
      obtain ⟨h2, A2, e2, M2, a2, X2, W2⟩ := ih (i + 1) (by omega) n (by omega) h1 A M1 R (fun G hG => by
        rw [W G hG, ws_step hg (by omega) hG, if_neg (fun w => by have := hc w.2.1; rw [w.2.2] at this; cases this)])
      refine ⟨h2, A2, ?_, M2, a2, X1.trans X2, W2⟩
      unfold f_X9_partings_b127 f_X9_partings_b128 f_X9_partings_b149 f_X9_partings_b166
      rw [M.r 27 rfl, bs, if_pos rfl]
      show (ald h (143 + 10) (nI 0)).bind _ = _
      rw [M.ald 10 (by omega) (show 0 < 64 by omega), bs, if_pos rfl]
      show (ast h (143 + 10) (nI 0) _).bind _ = _
      rw [e1, bs, nI_1, e2]
    -- it is added
    have yes : ∀ (h : HP) (A : AT), MM h F A → RV (A 0) 0 S → WR (A 10) (Ws (okM S) set g i) → A 10 g = nI (Vv (okM S) set g) → g.testBit i = false → ctb (okM S) set (popN g) i = true → ∃ h' A', f_X9_partings_b128 (F_X9_partings_48 K n) 142 (nI set) (nI g) (nI p) (nI i) 1 h = K 142 (nI set) (nI (g + 1)) h' ∧ MM h' F A' ∧ AW A A' ∧ Fr h h' 142 12 ∧ WR (A' 10) (Ws (okM S) set (g + 1) 0) := by
      intro h A M R W hwg hb hc
      have hi64 := ins64 g hg i (by omega)
      obtain ⟨h1, e1, M1, X1⟩ := M.ast 10 (by omega) (show ins g i < 64 from hi64) (A 10 (ins g i) + A 10 g)
      obtain ⟨h2, A2, e2, M2, a2, X2, W2⟩ := ih (i + 1) (by omega) n (by omega) h1 _ M1 (by rw [setA_n A _ (by omega)]; exact R) (fun G hG => by
        rw [setA_s, ws_step hg (by omega) hG]
        by_cases hGe : G = ins g i
        · rw [if_pos ⟨hGe, hb, hc⟩, hGe, us, W _ hi64, hwg, nI_add]
        · rw [if_neg (fun w => hGe w.1), un hGe, W G hG])
      refine ⟨h2, A2, ?_, M2, (AW.set A _).trans a2, X1.trans X2, W2⟩
      unfold f_X9_partings_b128 f_X9_partings_b149 f_X9_partings_b166
      rw [M.r 27 rfl, bs, if_neg (show ¬ (1 : Int32) = 0 by decide), m_ins g (by omega) i (by omega)]
      show (ald h (143 + 10) (nI (ins g i))).bind _ = _
      rw [M.ald 10 (by omega) (show ins g i < 64 from hi64), bs, if_neg (show ¬ (1 : Int32) = 0 by decide), bs]
      show (ald h (143 + 10) (nI g)).bind _ = _
      rw [M.ald 10 (by omega) (show g < 64 from hg), bs]
      show (ast h (143 + 10) (nI (ins g i)) _).bind _ = _
      rw [e1, bs, nI_1, e2]
    have pre : F_X9_partings_48 K (n + 1) 142 (nI set) (nI g) (nI p) (nI i) h = if bI (set.testBit i) = 0 then f_X9_partings_b127 (F_X9_partings_48 K n) 142 (nI set) (nI g) (nI p) (nI i) h else if bI (g.testBit i) = 0 then (f_X9_rankOf 142 0 (nI p) (enc (cS S i)) h).bind fun q8 => (gR q8.2 142 9 0).bind fun r9 => (ald q8.2 r9 (54 + nI p)).bind fun v10 => (f_X9_rankOf 142 0 (nI p) v10 q8.2).bind fun q11 => if q11.1 < q8.1 then f_X9_partings_b127 (F_X9_partings_48 K n) 142 (nI set) (nI g) (nI p) (nI i) q11.2 else f_X9_partings_b128 (F_X9_partings_48 K n) 142 (nI set) (nI g) (nI p) (nI i) 1 q11.2 else f_X9_partings_b127 (F_X9_partings_48 K n) 142 (nI set) (nI g) (nI p) (nI i) h := by
      have hw := R.1 i hip
      rw [Nat.zero_add] at hw
      show f_X9_partings_b48 _ _ _ _ _ _ _ _ = _
      unfold f_X9_partings_b48
      rw [M.g 2 rfl, bs, f2, if_neg (nI_ge hip (by omega)), if_neg (nI_neg1 (by omega)), M.r 27 rfl, bs]
      show (ald h (143 + 10) (nI g)).bind _ = _
      rw [M.ald 10 (by omega) (show g < 64 from hg), bs, hwg, if_neg (nI_nle hv (by omega)), p_has (by omega) (by omega), bs]
      show (if bI (set.testBit i) = 0 then _ else (f_X9_has (nI g) (nI i) h).bind _) = _
      rw [p_has (by omega) (by omega), bs]
      show (if bI (set.testBit i) = 0 then _ else if bI (g.testBit i) = 0 then (gR h 142 9 0).bind _ else _) = _
      rw [M.r 0 rfl, bs]
      show (if bI (set.testBit i) = 0 then _ else if bI (g.testBit i) = 0 then (ald h (143 + 0) (nI 54 + nI i)).bind _ else _) = _
      rw [nI_add, M.ald 0 (by omega) (show 54 + i < 1608 by omega), bs, hw]
    rw [pre]
    cases hbs : set.testBit i with
    | false =>
      rw [if_pos (by rfl)]
      exact no h A M R W (fun _ => by rw [ctb_s hp, hbs]; rfl)
    | true =>
      rw [if_neg b1n]
      cases hbg : g.testBit i with
      | true =>
        rw [if_neg b1n]
        exact no h A M R W (fun w => by rw [hbg] at w; cases w)
      | false =>
        rw [if_pos (by rfl)]
        obtain ⟨r, hr⟩ := hsit i hbs
        have hr8 := Y.seat hip hr
        obtain ⟨h1, A1, e1, M1, a1, X1⟩ := p_rankOf M R Y hpP (r := r) (by omega)
        have R1 : RV (A1 0) 0 S := by rw [a1 0 (by omega)]; exact R
        obtain ⟨h2, A2, e2, M2, a2, X2⟩ := p_rankOf M1 R1 Y hpP (r := rp) (by omega)
        have R2 : RV (A2 0) 0 S := by rw [a2 0 (by omega)]; exact R1
        have hw2 := R1.1 p hpP
        rw [Nat.zero_add] at hw2
        have W2 : WR (A2 10) (Ws (okM S) set g i) := fun G hG => by rw [a2 10 (by omega), a1 10 (by omega)]; exact W G hG
        have hwg2 : A2 10 g = nI (Vv (okM S) set g) := by rw [a2 10 (by omega), a1 10 (by omega)]; exact hwg
        have b1 := rkM_lt Y (r := r) hpP
        have b2 := rkM_lt Y (r := rp) hpP
        have hokM : okM S p i = decide (rkM S p r ≤ rkM S p rp) := by unfold okM; rw [hr, hrp]; rfl
        rw [hr]
        show ∃ h' A', (f_X9_rankOf 142 0 (nI p) (nI r) h).bind _ = _ ∧ _
        rw [e1, bs]
        show ∃ h' A', (gR h1 142 9 0).bind _ = _ ∧ _
        rw [M1.r 0 rfl, bs]
        show ∃ h' A', (ald h1 (143 + 0) (nI 54 + nI p)).bind _ = _ ∧ _
        rw [nI_add, M1.ald 0 (by omega) (show 54 + p < 1608 by omega), bs, hw2, hrp]
        show ∃ h' A', (f_X9_rankOf 142 0 (nI p) (nI rp) h1).bind _ = _ ∧ _
        rw [e2, bs]
        by_cases hlt : rkM S p rp < rkM S p r
        · rw [if_pos (nI_lt hlt (by omega))]
          obtain ⟨h3, A3, e3, M3, a3, X3, W3⟩ := no h2 A2 M2 R2 W2 (fun _ => by rw [ctb_s hp, hokM, decide_eq_false (by omega)]; simp)
          exact ⟨h3, A3, e3, M3, (a1.aw.trans a2.aw).trans a3, (X1.trans X2).trans X3, W3⟩
        · rw [if_neg (nI_nlt (by omega) (by omega))]
          obtain ⟨h3, A3, e3, M3, a3, X3, W3⟩ := yes h2 A2 M2 R2 W2 hwg2 hbg (by rw [ctb_s hp, hokM, hbs, decide_eq_true (by omega)]; rfl)
          exact ⟨h3, A3, e3, M3, (a1.aw.trans a2.aw).trans a3, (X1.trans X2).trans X3, W3⟩
theorem l_part30 (Y : VS S) (f2 : F 2 = nI (cP S)) (hs : set < 2 ^ cP S) (hsit : ∀ q, set.testBit q = true → ∃ r, cS S q = some r) : ∀ m g, g + m = 64 → ∀ n, m < n → ∀ (h : HP) (A : AT), MM h F A → RV (A 0) 0 S → WR (A 10) (Ws (okM S) set g 0) → ∃ h' A', F_X9_partings_30 n 142 (nI set) (nI g) h = some (nI (Vv (okM S) set set), h') ∧ MM h' F A' ∧ AW A A' ∧ Fr h h' 142 12 := by
  have hP := Y.p6
  have hs6 : set < 64 := Nat.lt_of_lt_of_le hs (Nat.pow_le_pow_right (n := 2) (by omega) (show cP S ≤ 6 from hP))
  intro m
  induction m with
  | zero =>
    intro g hg n hn h A M R W
    obtain ⟨n, rfl⟩ := sx hn
    refine ⟨h, A, ?_, M, AW.rfl, Fr.rfl⟩
    show f_X9_partings_b30 _ _ _ _ _ = _
    unfold f_X9_partings_b30
    rw [if_pos (show (64 : Int32) ≤ nI g from nI_le (a := 64) (by omega) (by omega)), M.r 27 rfl, bs]
    show (ald h (143 + 10) (nI set)).bind _ = _
    rw [M.ald 10 (by omega) (show set < 64 from hs6), bs, W set hs6, ws_full hs6 (by omega)]
  | succ m ih =>
    intro g hg n hn h A M R W
    obtain ⟨n, rfl⟩ := sx hn
    have hg64 : g < 64 := by omega
    have hg6 := (pop6 g hg64).1
    have hvb := vv_b (ok := okM S) (set := set) hg64
    have pre : F_X9_partings_30 (n + 1) 142 (nI set) (nI g) h = F_X9_partings_48 (F_X9_partings_30 n) FU 142 (nI set) (nI g) (enc (pat set (popN g))) (nI 0) h := by
      show f_X9_partings_b30 _ _ _ _ _ = _
      unfold f_X9_partings_b30
      rw [if_neg (show ¬ (64 : Int32) ≤ nI g from nI_ge (b := 64) (by omega) (by omega)), p_bits (by omega), bs]
      show (f_X9_personAt (nI set) (nI (popN g)) h).bind _ = _
      rw [p_personAt (by omega) (by omega), bs]
      rfl
    rw [pre]
    -- straight on
    have on : ((∀ q, 0 ≤ q → q < 6 → ctb (okM S) set (popN g) q = false) ∨ Vv (okM S) set g = 0) → F_X9_partings_48 (F_X9_partings_30 n) FU 142 (nI set) (nI g) (enc (pat set (popN g))) (nI 0) h = F_X9_partings_30 n 142 (nI set) (nI (g + 1)) h → ∃ h' A', F_X9_partings_48 (F_X9_partings_30 n) FU 142 (nI set) (nI g) (enc (pat set (popN g))) (nI 0) h = some (nI (Vv (okM S) set set), h') ∧ MM h' F A' ∧ AW A A' ∧ Fr h h' 142 12 := by
      intro hz he
      rw [he]
      exact ih (g + 1) (by omega) n (by omega) h A M R (fun G hG => by rw [W G hG, ws_skip (i := 0) (by omega) hz])
    cases hp : pat set (popN g) with
    | none =>
      rw [hp] at on
      refine on (Or.inl (fun q _ _ => by unfold ctb; rw [hp])) ?_
      show f_X9_partings_b48 _ _ _ _ _ _ _ _ = _
      unfold f_X9_partings_b48 f_X9_partings_b174
      rw [M.g 2 rfl, bs, f2, if_pos (show enc none = -1 from rfl), nI_1]
      split <;> rfl
    | some p =>
      rw [hp] at on
      rcases Nat.eq_zero_or_pos (Vv (okM S) set g) with z | z
      · refine on (Or.inr z) ?_
        obtain ⟨hp6, -, -⟩ := pat_some hs6 (by omega) hp
        show f_X9_partings_b48 _ _ _ _ _ _ _ _ = _
        unfold f_X9_partings_b48 f_X9_partings_b174
        rw [M.g 2 rfl, bs, f2, if_neg (show ¬ enc (some p) = -1 from nI_neg1 (by omega)), M.r 27 rfl, bs]
        show (if nI (cP S) ≤ nI 0 then _ else (ald h (143 + 10) (nI g)).bind _) = _
        rw [M.ald 10 (by omega) (show g < 64 from hg64), bs, W g hg64, ws_full hg64 (Nat.le_refl _), z, if_pos (show nI 0 ≤ 0 by decide), nI_1]
        split <;> rfl
      · obtain ⟨h1, A1, e1, M1, a1, X1, W1⟩ := l_part48 Y f2 hs hsit hg64 hp z (F_X9_partings_30 n) (cP S) 0 (by omega) FU (fu_lt (by omega)) h A M R W
        obtain ⟨h2, A2, e2, M2, a2, X2⟩ := ih (g + 1) (by omega) n (by omega) h1 A1 M1 (by rw [a1 0 (by omega) (by omega)]; exact R) W1
        exact ⟨h2, A2, e1.trans e2, M2, a1.trans a2, X1.trans X2⟩
theorem l_part2 (Y : VS S) (f2 : F 2 = nI (cP S)) (hs : set < 2 ^ cP S) (hsit : ∀ q, set.testBit q = true → ∃ r, cS S q = some r) : ∀ m i, i + m = 64 → ∀ n, m < n → ∀ (h : HP) (A : AT), MM h F A → RV (A 0) 0 S → (∀ G, G < i → A 10 G = 0) → ∃ h' A', F_X9_partings_2 n 142 (nI set) (nI i) h = some (nI (Vv (okM S) set set), h') ∧ MM h' F A' ∧ AW A A' ∧ Fr h h' 142 12 := by
  intro m
  induction m with
  | zero =>
    intro i hi n hn h A M R W
    obtain ⟨n, rfl⟩ := sx hn
    obtain ⟨h1, e1, M1, X1⟩ := M.ast 10 (by omega) (show 0 < 64 by omega) 1
    obtain ⟨h2, A2, e2, M2, a2, X2⟩ := l_part30 Y f2 hs hsit 64 0 (by omega) FU (fu_lt (by omega)) h1 _ M1 (by rw [setA_n A _ (by omega)]; exact R) (fun G hG => by
      rw [setA_s, ws_0]
      by_cases h0 : G = 0
      · rw [h0, us, if_pos rfl]; rfl
      · rw [un h0, if_neg h0, W G (by omega)]; rfl)
    refine ⟨h2, A2, ?_, M2, (AW.set A _).trans a2, X1.trans X2⟩
    show f_X9_partings_b2 _ _ _ _ _ = _
    unfold f_X9_partings_b2
    rw [if_pos (show (64 : Int32) ≤ nI i from nI_le (a := 64) (by omega) (by omega)), M.r 27 rfl, bs]
    show (ast h (143 + 10) (nI 0) 1).bind _ = _
    rw [e1, bs]
    exact e2
  | succ m ih =>
    intro i hi n hn h A M R W
    obtain ⟨n, rfl⟩ := sx hn
    obtain ⟨h1, e1, M1, X1⟩ := M.ast 10 (by omega) (show i < 64 by omega) 0
    obtain ⟨h2, A2, e2, M2, a2, X2⟩ := ih (i + 1) (by omega) n (by omega) h1 _ M1 (by rw [setA_n A _ (by omega)]; exact R) (fun G hG => by
      rw [setA_s]
      by_cases h0 : G = i
      · rw [h0, us]
      · rw [un h0, W G (by omega)])
    refine ⟨h2, A2, ?_, M2, (AW.set A _).trans a2, X1.trans X2⟩
    show f_X9_partings_b2 _ _ _ _ _ = _
    unfold f_X9_partings_b2
    rw [if_neg (show ¬ (64 : Int32) ≤ nI i from nI_ge (b := 64) (by omega) (by omega)), M.r 27 rfl, bs]
    show (ast h (143 + 10) (nI i) 0).bind _ = _
    rw [e1, bs, nI_1, e2]
theorem p_partings (Y : VS S) (f2 : F 2 = nI (cP S)) (hs : set < 2 ^ cP S) (hsit : ∀ q, set.testBit q = true → ∃ r, cS S q = some r) {h : HP} {A : AT} (M : MM h F A) (R : RV (A 0) 0 S) : ∃ h' A', f_X9_partings 142 (nI set) h = some (nI (Vv (okM S) set set), h') ∧ MM h' F A' ∧ AW A A' ∧ Fr h h' 142 12 := by
  obtain ⟨h', A', e, r⟩ := l_part2 Y f2 hs hsit 64 0 (by omega) FU (fu_lt (by omega)) h A M R (fun G hG => by omega)
  refine ⟨h', A', ?_, r⟩
  unfold f_X9_partings f_X9_partings_e
  rw [M.chk]
  exact e
end PAR
