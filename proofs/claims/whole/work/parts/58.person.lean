/-! what a person would have more; by lot alone -/
section PER
variable {h : HP} {F : Nat → Int32} {A : AT} {S : CS}
theorem best_mem {p s r : Nat} (hb : bestC S p s = some r) : r ∈ wantsC S p := List.mem_of_find?_eq_some hb
def GW (S : CS) (D : DS) : Prop := ∀ p, p < cP S → D.1.testBit p = false → ∀ r, r < 8 → D.2.2.1 p = nI r → r ∈ wantsC S p
theorem GW.aim (Y : VS S) (k : Nat) {D : DS} {p : Nat} (hp : p < cP S) (g : GW S D) : GW S (aimS S k D p) := by
  have hP := Y.p6
  unfold aimS
  by_cases hc : D.1.testBit p = true ∧ bestC S p D.2.1 = none
  · rw [if_pos hc]
    intro q hq hb r hr he
    have hb : (del D.1 p).testBit q = false := hb
    have he : upd D.2.2.1 p (enc none) q = nI r := he
    by_cases hqp : q = p
    · subst hqp
      rw [us] at he
      exact absurd he.symm (nI_neg1 (by omega))
    · rw [un hqp] at he
      rw [tb_del (by omega) (by omega)] at hb
      exact g q hq (by simpa [hqp] using hb) r hr he
  · rw [if_neg hc]; exact g
theorem GW.aimAll (Y : VS S) (k : Nat) : ∀ m i, i + m = cP S → ∀ D, GW S D → GW S (fld (aimS S k) m i D) := by
  intro m
  induction m with
  | zero => intro i _ D g; exact g
  | succ m ih => intro i hi D g; exact ih (i + 1) (by omega) _ (g.aim Y k (by omega))
theorem GW.round (Y : VS S) (k : Nat) {D : DS} (g : GW S D) : GW S (roundC S (cP S) k D) := by
  have hP := Y.p6
  have ga := GW.aimAll Y k (cP S) 0 (by omega) D g
  unfold roundC
  dsimp only
  generalize fld (aimS S k) (cP S) 0 D = E at ga ⊢
  have hgl := gone_lt (S := S) k E.1 E.2.1 (cP S) (cP S) 0 (0, E) (by omega) (by show (0 : Nat) < 256; omega)
  obtain ⟨c1, c2, -⟩ := close_char Y k E.1 E.2.1 (cP S) (cP S) 0 (0, E) (by omega)
  have con := fun q => gone_only (S := S) k E.1 E.2.1 (cP S) (cP S) 0 (0, E) q
  generalize fld (closeS S k E.1 E.2.1 (cP S)) (cP S) 0 (0, E) = X at hgl c1 c2 con ⊢
  intro q hq hb r hr he
  have hb : (adn E.1 X.1).testBit q = false := hb
  have he : X.2.2.2.1 q = nI r := he
  by_cases hrg : ringP S E.1 E.2.1 (cP S) q = 0
  · rw [c2 q (fun w => w.2.2 hrg)] at he
    rw [tb_adn hgl (by omega)] at hb
    refine ga q hq ?_ r hr he
    cases hE : E.1.testBit q with
    | false => rfl
    | true =>
      rw [hE] at hb
      have hx : X.1.testBit q = true := by simpa using hb
      rcases con q hx with z | z
      · have z : (0 : Nat).testBit q = true := z
        rw [Nat.zero_testBit] at z; cases z
      · exact absurd hrg z.2.2
  · rw [c1 q ⟨by omega, by omega, hrg⟩] at he
    exact best_mem ((enc_nI (fun k hk => (bestC_lt Y hq hk).1) (by omega)).mp he)
theorem GW.deal (Y : VS S) : ∀ m k D, GW S D → GW S (dealN S (cP S) m k D).2 := by
  intro m
  induction m with
  | zero => intro k D g; exact g
  | succ m ih =>
    intro k D g
    unfold dealN
    by_cases h0 : D.1 = 0
    · rw [if_pos h0]; exact g
    · rw [if_neg h0]; exact ih (k + 1) _ (g.round Y k)
theorem got_wants (Y : VS S) {p r : Nat} (hp : p < cP S) (hr : r < 8) (he : gC S p = nI r) : r ∈ wantsC S p := by
  refine GW.deal Y 6 0 _ (fun p hp hb => ?_) p hp ?_ r hr he
  · have hb : (2 ^ cP S - 1).testBit p = false := hb
    rw [tb_full] at hb; simp at hb; omega
  · have := out_done Y
    show (outC S).2.1.testBit p = false
    rw [this, Nat.zero_testBit]
def rkM (S : CS) (p r : Nat) : Nat := (idx r (wantsC S p)).getD 99
theorem l_rankOf {l : List Nat} (hl : l.length ≤ 9) (hlt : ∀ r ∈ l, r < 8) (M : MM h F A) (g : RWl (A 5) 0 l) {r : Nat} (hr : r < 2 ^ 31) : ∀ (t : List Nat) i, l.drop i = t → i ≤ l.length → ∀ n, t.length < n → F_X9_rankOf_11 n 142 (nI r) (nI l.length) (nI i) h = some (nI (((idx r t).map (i + ·)).getD 99), h) := by
  intro t
  induction t with
  | nil =>
    intro i hi hi2 n hn
    obtain ⟨n, rfl⟩ := sx hn
    have : l.length ≤ i := List.drop_eq_nil_iff.mp hi
    show f_X9_rankOf_b11 _ _ _ _ _ _ = _
    unfold f_X9_rankOf_b11
    rw [if_pos (nI_le this (by omega))]; rfl
  | cons y t ih =>
    intro i hi hi2 n hn
    obtain ⟨n, rfl⟩ := sx hn
    obtain ⟨d1, d2, d3⟩ := drop_cons hi
    have hy := hlt y (List.mem_of_getElem? d1)
    have hw := g i y d1
    rw [Nat.zero_add] at hw
    show f_X9_rankOf_b11 _ _ _ _ _ _ = _
    unfold f_X9_rankOf_b11 idx
    rw [if_neg (nI_ge d3 (by omega)), M.r 12 rfl, bs]
    show (ald h (143 + 5) (nI i)).bind _ = _
    rw [M.ald 5 (by omega) (show i < 9 by omega), bs, hw]
    by_cases hq : y = r
    · rw [if_pos (by rw [hq]), if_pos hq]; rfl
    · rw [if_neg (fun q => hq ((nI_eq (by omega) hr).mp q)), if_neg hq, nI_1, ih (i + 1) d2 (by omega) n (by simp at hn; omega), Option.map_map]
      rw [show ((fun x => i + x) ∘ fun x => x + 1) = (fun x => i + 1 + x) from funext fun k => by show i + (k + 1) = i + 1 + k; omega]
theorem p_rankOf (M : MM h F A) (R : RV (A 0) 0 S) (Y : VS S) {p : Nat} (hp : p < cP S) {r : Nat} (hr : r < 2 ^ 31) : ∃ h' A', f_X9_rankOf 142 0 (nI p) (nI r) h = some (nI (rkM S p r), h') ∧ MM h' F A' ∧ AE A A' ∧ Fr h h' 142 12 := by
  obtain ⟨h', g, e, M', X, hg⟩ := p_layWants (x := 0) M R Y (by omega) hp
  have e : f_X9_layWants 142 0 (nI p) h = _ := e
  refine ⟨h', _, ?_, M', AE.set A g, X⟩
  unfold f_X9_rankOf f_X9_rankOf_e
  rw [M.chk, e, bs]
  refine (l_rankOf (wants_len Y hp) (fun r hr => wants_lt Y hp hr) M' (by rw [setA_s]; exact hg) hr (wantsC S p) 0 rfl (by omega) FU (fu_lt (by have := wants_len Y hp; omega))).trans ?_
  unfold rkM
  simp
theorem rank_none : ∀ l : List Nat, rankL none l = l.length := by
  intro l
  induction l with
  | nil => rfl
  | cons x t ih => unfold rankL; rw [if_neg (by simp), ih]; rfl
theorem rank_idx {r : Nat} : ∀ (l : List Nat) k, idx r l = some k → rankL (some r) l = k := by
  intro l
  induction l with
  | nil => intro k hk; cases hk
  | cons x t ih =>
    intro k hk
    unfold idx at hk
    unfold rankL
    by_cases hx : x = r
    · rw [if_pos hx] at hk
      cases hk
      rw [if_pos (by rw [hx])]
    · rw [if_neg hx] at hk
      obtain ⟨j, hj, rfl⟩ := Option.map_eq_some_iff.mp hk
      rw [if_neg (by simpa using fun z : r = x => hx z.symm), ih j hj]
theorem p_better (M : MM h F A) (R : RV (A 0) 0 S) (Y : VS S) (g : ∀ p, p < cP S → A 2 p = gC S p) {p : Nat} (hp : p < cP S) : ∃ h' A', f_X9_better 142 (nI p) h = some (nI (rankC S p (oC S p)), h') ∧ MM h' F A' ∧ AE A A' ∧ Fr h h' 142 12 := by
  have hP := Y.p6
  have hN := Y.n8
  obtain ⟨o1, o2⟩ := oC_spec Y hp
  unfold f_X9_better f_X9_better_e f_X9_better_b31 rankC
  rw [M.chk, M.r 8 rfl, bs]
  cases ho : oC S p with
  | none =>
    obtain ⟨h', gg, e, M', X, hg⟩ := p_layWants (x := 0) M R Y (by omega) hp
    have e : f_X9_layWants 142 0 (nI p) h = _ := e
    refine ⟨h', _, ?_, M', AE.set A gg, X⟩
    show (ald h (143 + 2) (nI p)).bind _ = _
    rw [M.ald 2 (by omega) (show p < 6 by omega), bs, g p hp, o1, ho, if_pos (by rfl), e, bs, rank_none]
  | some r =>
    have hr := o2 r ho
    have hg : gC S p = nI r := by rw [o1, ho]; rfl
    obtain ⟨h', A', e, M', ae, X⟩ := p_rankOf M R Y hp (r := r) (by omega)
    refine ⟨h', A', ?_, M', ae, X⟩
    have hm := got_wants Y hp (by omega) hg
    have hv : rkM S p r = rankL (some r) (wantsC S p) := by
      unfold rkM
      cases hi : idx r (wantsC S p) with
      | none => exact absurd hm (idx_none.mp hi)
      | some k => rw [rank_idx _ k hi]; rfl
    show (ald h (143 + 2) (nI p)).bind _ = _
    rw [M.ald 2 (by omega) (show p < 6 by omega), bs, g p hp, hg, if_neg (nI_neg1 (by omega)), bs]
    show (ald h (143 + 2) (nI p)).bind _ = _
    rw [M.ald 2 (by omega) (show p < 6 by omega), bs, g p hp, hg, e, bs, hv]
/-! by lot alone -/
def lotC (S : CS) (p : Nat) : List Nat → Nat → Nat → Option Nat
  | [], _, _ => none
  | q :: t, left, w => if q = p then bestC S q (adn left (seatsC S (del w q))) else lotC S p t (delO left (bestC S q (adn left (seatsC S (del w q))))) (del w q)
theorem l_lotC (c0 : C0 h) (V : HV h 3 S) (Y : VS S) {p : Nat} (hp : p < cP S) : ∀ (l : List Nat) i, (cO S).drop i = l → i ≤ cP S → ∀ n, l.length < n → ∀ left w, left < 256 → w < 256 → F_X8_chosenByLot_25 n 0 (nI p) (nI left) (nI w) (nI i) h = some (enc (lotC S p l left w), h) := by
  have hP := Y.p6
  have hO := Y.2.2.2.2.2.1
  intro l
  induction l with
  | nil =>
    intro i hi hi2 n hn left w hl hw
    obtain ⟨n, rfl⟩ := sx hn
    have : (cO S).length ≤ i := List.drop_eq_nil_iff.mp hi
    show f_X8_chosenByLot_b25 _ _ _ _ _ _ _ = _
    unfold f_X8_chosenByLot_b25
    rw [c0.r 1 rfl, bs, V.pers, bs, if_pos (nI_le (by omega) (by omega))]; rfl
  | cons q t ih =>
    intro i hi hi2 n hn left w hl hw
    obtain ⟨n, rfl⟩ := sx hn
    obtain ⟨d1, d2, d3⟩ := drop_cons hi
    have hq := Y.ord d1
    have hw2 := m_del_lt w hw q (by omega)
    have hbl : ∀ k, bestC S q (adn left (seatsC S (del w q))) = some k → k < 8 := fun k hk => (bestC_lt Y hq hk).1
    show f_X8_chosenByLot_b25 _ _ _ _ _ _ _ = _
    unfold f_X8_chosenByLot_b25 lotC
    rw [c0.r 1 rfl, bs, V.pers, bs, if_neg (nI_ge (by omega) (by omega)), bs, V.r5, bs, V.ord Y d1, bs]
    show (f_X8_without (nI w) (nI q) h).bind _ = _
    rw [p_without hw (by omega), bs]
    show (gR h 0 8 1).bind _ = _
    rw [c0.r 1 rfl, bs, bs]
    show (f_X3_seatsOf 3 (nI (del w q)) h).bind _ = _
    rw [p_seatsOf V Y hw2, bs]
    show (f_X3_best 3 (nI q) (nI left &&& (nI (seatsC S (del w q)) ^^^ (-1))) h).bind _ = _
    rw [m_adn (seatsC_lt Y), p_best V Y hq (m_adn_lt hl), bs]
    by_cases hqp : q = p
    · rw [if_pos (by rw [hqp]), if_pos hqp]
    · rw [if_neg (fun z => hqp ((nI_eq (by omega) (by omega)).mp z)), if_neg hqp]
      show (f_X8_without (nI left) (enc (bestC S q (adn left (seatsC S (del w q))))) h).bind _ = _
      rw [p_withoutO hl hbl, bs, nI_1]
      exact ih (i + 1) d2 (by omega) n (by simp at hn; omega) _ _ (delO_lt hl hbl) hw2
theorem l_kept (M : MM h F A) (R : RV (A 0) 0 S) (Y : VS S) (f2 : F 2 = nI (cP S)) {c w : Nat} (hc : c < 256) (hcw : ∀ p, p < cP S → w.testBit p = !c.testBit p) : ∀ m i, i + m = cP S → ∀ n, m < n → ∀ t, t < 256 → F_X9_kept_4 n 142 (nI c) (nI t) (nI i) h = some (nI (fld (fun t p => if w.testBit p then insO t (cS S p) else t) m i t), h) := by
  have hP := Y.p6
  intro m
  induction m with
  | zero =>
    intro i hi n hn t ht
    obtain ⟨n, rfl⟩ := sx hn
    show f_X9_kept_b4 _ _ _ _ _ _ = _
    unfold f_X9_kept_b4
    rw [M.g 2 rfl, bs, f2, if_pos (nI_le (by omega) (by omega))]; rfl
  | succ m ih =>
    intro i hi n hn t ht
    obtain ⟨n, rfl⟩ := sx hn
    have hip : i < cP S := by omega
    have hw := R.1 i hip
    rw [Nat.zero_add] at hw
    show f_X9_kept_b4 _ _ _ _ _ _ = some (nI (fld _ m (i + 1) (if w.testBit i then insO t (cS S i) else t)), h)
    unfold f_X9_kept_b4 f_X9_kept_b48 f_X9_kept_b49
    rw [M.g 2 rfl, bs, f2, if_neg (nI_ge hip (by omega)), p_has hc (by omega), bs, nI_1, or0, hcw i hip]
    cases hb : c.testBit i with
    | true =>
      rw [if_neg b1n, if_neg (by decide)]
      exact ih (i + 1) (by omega) n (by omega) t ht
    | false =>
      rw [if_pos (by rfl), if_pos (by rfl)]
      show (gR h 142 9 0).bind _ = _
      rw [M.r 0 rfl, bs]
      show (ald h (143 + 0) (nI 54 + nI i)).bind _ = _
      rw [nI_add, M.ald 0 (by omega) (show 54 + i < 1608 by omega), bs, hw]
      cases hs : cS S i with
      | none =>
        rw [if_pos (by rfl)]
        exact ih (i + 1) (by omega) n (by omega) t ht
      | some y =>
        have hy := Y.seat hip hs
        rw [if_neg (show ¬ enc (some y) = -1 from nI_neg1 (by omega)), bs]
        show (ald h (143 + 0) (nI 54 + nI i)).bind _ = _
        rw [nI_add, M.ald 0 (by omega) (show 54 + i < 1608 by omega), bs, hw, hs]
        show F_X9_kept_4 n 142 (nI c) (nI t ||| (1 <<< (nI y &&& 31))) (nI (i + 1)) h = _
        rw [m_ins t ht y hy]
        exact ih (i + 1) (by omega) n (by omega) _ (m_ins_lt t ht y hy)
theorem l_lotM (Y : VS S) (f2 : F 2 = nI (cP S)) {p : Nat} (hp : p < cP S) : ∀ (l : List Nat) i, (cO S).drop i = l → i ≤ cP S → ∀ n, l.length < n → ∀ (h : HP) (A : AT) left w c, MM h F A → RV (A 0) 0 S → left < 256 → w < 256 → c < 256 → (∀ p, p < cP S → w.testBit p = !c.testBit p) → ∃ h' A', F_X9_byLot_14 n 142 (nI p) (nI left) (nI c) (nI i) h = some (enc (lotC S p l left w), h') ∧ MM h' F A' ∧ AE A A' ∧ Fr h h' 142 12 := by
  have hP := Y.p6
  have hO := Y.2.2.2.2.2.1
  intro l
  induction l with
  | nil =>
    intro i hi hi2 n hn h A left w c M R hl hw hc hcw
    obtain ⟨n, rfl⟩ := sx hn
    have : (cO S).length ≤ i := List.drop_eq_nil_iff.mp hi
    refine ⟨h, A, ?_, M, AE.rfl, Fr.rfl⟩
    show f_X9_byLot_b14 _ _ _ _ _ _ _ = _
    unfold f_X9_byLot_b14
    rw [M.g 2 rfl, bs, f2, if_pos (nI_le (by omega) (by omega))]; rfl
  | cons q t ih =>
    intro i hi hi2 n hn h A left w c M R hl hw hc hcw
    obtain ⟨n, rfl⟩ := sx hn
    obtain ⟨d1, d2, d3⟩ := drop_cons hi
    have hq := Y.ord d1
    have hod := R.2.2.2 i q d1
    rw [Nat.zero_add] at hod
    have hw2 := m_del_lt w hw q (by omega)
    have hc2 := m_ins_lt c hc q (by omega)
    have hcw2 : ∀ p, p < cP S → (del w q).testBit p = !(ins c q).testBit p := fun p hp => by
      rw [tb_del (by omega) (by omega), tb_ins, hcw p hp]
      cases c.testBit p <;> simp
    have ek : f_X9_kept 142 (nI (ins c q)) h = some (nI (seatsC S (del w q)), h) := by
      unfold f_X9_kept f_X9_kept_e
      rw [M.chk]
      exact l_kept M R Y f2 hc2 hcw2 (cP S) 0 (by omega) FU (fu_lt (by omega)) 0 (by omega)
    obtain ⟨h1, A1, e1, M1, ae1, X1⟩ := p_mostOf (x := 0) M R Y (by omega) hq (s := adn left (seatsC S (del w q))) (m_adn_lt hl)
    have e1 : f_X9_mostOf 142 0 (nI q) (nI (adn left (seatsC S (del w q)))) h = _ := e1
    have hbl : ∀ k, bestC S q (adn left (seatsC S (del w q))) = some k → k < 8 := fun k hk => (bestC_lt Y hq hk).1
    have R1 : RV (A1 0) 0 S := by rw [ae1 0 (by omega)]; exact R
    have pre : F_X9_byLot_14 (n + 1) 142 (nI p) (nI left) (nI c) (nI i) h = if q = p then some (enc (bestC S q (adn left (seatsC S (del w q)))), h1) else F_X9_byLot_14 n 142 (nI p) (nI (delO left (bestC S q (adn left (seatsC S (del w q)))))) (nI (ins c q)) (nI (i + 1)) h1 := by
      show f_X9_byLot_b14 _ _ _ _ _ _ _ = _
      unfold f_X9_byLot_b14 f_X9_byLot_b77
      rw [M.g 2 rfl, bs, f2, if_neg (nI_ge (by omega) (by omega)), M.r 0 rfl, bs]
      show (ald h (143 + 0) (nI 60 + nI i)).bind _ = _
      rw [nI_add, M.ald 0 (by omega) (show 60 + i < 1608 by omega), bs, hod, m_ins c hc q (by omega), ek, bs]
      show (f_X9_mostOf 142 0 (nI q) (nI left &&& (nI (seatsC S (del w q)) ^^^ (-1))) h).bind _ = _
      rw [m_adn (seatsC_lt Y), e1, bs, nI_1]
      have hqe : (nI q = nI p) = (q = p) := propext (nI_eq (by omega) (by omega))
      cases hb : bestC S q (adn left (seatsC S (del w q))) with
      | none =>
        rw [if_pos (by rfl)]
        simp only [hqe]
        rw [nI_and, Nat.and_self]
        rfl
      | some y =>
        have hy := hbl y hb
        rw [if_neg (show ¬ enc (some y) = -1 from nI_neg1 (by omega))]
        simp only [hqe]
        rw [show nI left &&& ((1 <<< (enc (some y) &&& 31)) ^^^ (-1)) = nI (del left y) from m_del left hl y hy]
        rfl
    unfold lotC
    by_cases hqp : q = p
    · rw [if_pos hqp] at pre
      rw [if_pos hqp]
      exact ⟨h1, A1, pre, M1, ae1, X1⟩
    · rw [if_neg hqp] at pre
      rw [if_neg hqp]
      obtain ⟨h2, A2, e2, M2, ae2, X2⟩ := ih (i + 1) d2 (by omega) n (by simp at hn; omega) h1 A1 _ (del w q) _ M1 R1 (delO_lt hl hbl) hw2 hc2 hcw2
      exact ⟨h2, A2, pre.trans e2, M2, ae1.trans ae2, X1.trans X2⟩
end PER
theorem AE.as {A A' : AT} (a : AE A A') : AS A A' := ⟨fun j _ => by rw [a 0 (by omega)], a 1 (by omega), a 6 (by omega), a 7 (by omega), a 8 (by omega), a 9 (by omega)⟩
theorem AS.trans {A B C : AT} (a : AS A B) (b : AS B C) : AS A C := ⟨fun j hj => (b.1 j hj).trans (a.1 j hj), b.2.1.trans a.2.1, b.2.2.1.trans a.2.2.1, b.2.2.2.1.trans a.2.2.2.1, b.2.2.2.2.1.trans a.2.2.2.2.1, b.2.2.2.2.2.trans a.2.2.2.2.2⟩
theorem s_person : SK2 f_X8_person f_X9_person Inv := by
  intro h x y hI
  obtain ⟨F, A, S, M, I⟩ := id hI
  have Y := I.2.1
  have hP := Y.p6
  have hN := Y.n8
  obtain ⟨t, e1, e2, ht⟩ := both_person M I x
  cases t with
  | false =>
    refine ⟨-1000000001, h, h, ?_, ?_, hI⟩
    · unfold f_X8_person f_X8_person_e
      rw [I.1.chk, I.1.r 1 rfl, bs, e1, bs, if_pos (by rfl)]
    · unfold f_X9_person f_X9_person_e
      rw [M.chk, e2 h F A M I.2.2.2.2.1, bs, if_pos (by rfl)]
  | true =>
    obtain ⟨p, hp, rfl⟩ := ht.mp rfl
    -- whichever it is: where the class does not deal
    have stay : ∀ (v : Int32), f_X8_person 0 (nI p) y h = some (v, h) → (∀ k2 F' A', MM k2 F' A' → RV (A' 0) 0 S → F' 1 = nI (cN S) → F' 2 = nI (cP S) → (∀ p, p < cP S → A' 2 p = gC S p ∧ A' 3 p = rC S p ∧ A' 4 p = zC S p) → f_X9_giveOut 142 0 h = some k2 → ∃ k3 A3, f_X9_person 142 (nI p) y h = some (v, k3) ∧ MM k3 F' A3 ∧ AE A' A3 ∧ Fr k2 k3 142 12) → ∃ r h1 h2, f_X8_person 0 (nI p) y h = some (r, h1) ∧ f_X9_person 142 (nI p) y h1 = some (r, h2) ∧ Inv h2 := by
      intro v h8 h9
      obtain ⟨k2, g2, D2, X2⟩ := p_gave M I
      obtain ⟨F', A', M', fs, as, a0, -, -, hg⟩ := id D2
      obtain ⟨k3, A3, e9, M3, ae, X3⟩ := h9 k2 F' A' M' (I.2.2.2.2.2.1.eq Y (fun j _ _ => a0 j)) (fs.1.trans I.2.2.2.1) (fs.2.1.trans I.2.2.2.2.1) hg g2
      exact ⟨v, h, k3, h8, e9, ⟨F', A3, S, M3, I.mdl (fun j hj => (X3 j (by omega)).trans (X2 j (by omega))) fs (as.trans ae.as)⟩⟩
    -- where it deals
    have deals : ∀ (v : Int32) (k1 : HP), f_X8_dealt 0 h = some (some 13, k1) → DVo k1 S → Fr h k1 13 6 → f_X8_person 0 (nI p) y h = some (v, k1) → (∀ k2 F' A', MM k1 F A → MM k2 F' A' → RV (A' 0) 0 S → F' 1 = nI (cN S) → F' 2 = nI (cP S) → (∀ p, p < cP S → A' 2 p = gC S p ∧ A' 3 p = rC S p ∧ A' 4 p = zC S p) → f_X9_giveOut 142 0 k1 = some k2 → ∃ k3 A3, f_X9_person 142 (nI p) y k1 = some (v, k3) ∧ MM k3 F' A3 ∧ AE A' A3 ∧ Fr k2 k3 142 12) → ∃ r h1 h2, f_X8_person 0 (nI p) y h = some (r, h1) ∧ f_X9_person 142 (nI p) y h1 = some (r, h2) ∧ Inv h2 := by
      intro v k1 q1 D1 X1 h8 h9
      have I1 := I.deal X1 D1.dx
      have M1 := M.fr X1 (by omega)
      obtain ⟨k2, g2, D2, X2⟩ := p_gave M1 I1
      obtain ⟨F', A', M', fs, as, a0, -, -, hg⟩ := id D2
      obtain ⟨k3, A3, e9, M3, ae, X3⟩ := h9 k2 F' A' M1 M' (I.2.2.2.2.2.1.eq Y (fun j _ _ => a0 j)) (fs.1.trans I.2.2.2.1) (fs.2.1.trans I.2.2.2.2.1) hg g2
      exact ⟨v, k1, k3, h8, e9, ⟨F', A3, S, M3, I1.mdl (fun j hj => (X3 j (by omega)).trans (X2 j (by omega))) fs (as.trans ae.as)⟩⟩
    have pre8 : f_X8_person 0 (nI p) y h = if y = nI 0 then (gR h 0 8 1).bind fun r3 => (f_X3_seatOf r3 (nI p) h).bind fun q4 => some (q4.1, q4.2) else if y = nI 1 then (gR h 0 8 1).bind fun r5 => (f_X3_amount r5 (nI p) h).bind fun q6 => some (q6.1, q6.2) else if y = nI 2 then (gR h 0 8 1).bind fun r7 => (f_X3_placeOf r7 (nI p) h).bind fun q8 => some (q8.1, q8.2) else if y = nI 3 then (f_X8_dealt 0 h).bind fun q9 => om q9.1 (none) fun r10 => (f_X1_roomOf r10 (nI p) q9.2).bind fun q11 => some (q11.1, q11.2) else if y = nI 4 then (f_X8_dealt 0 h).bind fun q12 => om q12.1 (none) fun r13 => (f_X1_roundOf r13 (nI p) q12.2).bind fun q14 => some (q14.1, q14.2) else if y = nI 5 then (f_X8_dealt 0 h).bind fun q15 => om q15.1 (none) fun r16 => (f_X1_ringOf r16 (nI p) q15.2).bind fun q17 => some (q17.1, q17.2) else if y = nI 6 then (f_X8_chosenByLot 0 (nI p) h).bind fun q18 => some (q18.1, q18.2) else if y = nI 7 then (gR h 0 8 1).bind fun r19 => (f_X8_dealt 0 h).bind fun q20 => om q20.1 (none) fun r21 => (f_X1_roomOf r21 (nI p) q20.2).bind fun q22 => (f_X3_rank r19 (nI p) q22.1 q22.2).bind fun q23 => some (q23.1, q23.2) else some (-1000000002, h) := by
      unfold f_X8_person f_X8_person_e
      rw [I.1.chk, I.1.r 1 rfl, bs, e1, bs, if_neg b1n]
      show _ = _
      rw [I.1.r 1 rfl]
    have pre9 : ∀ k1 k2, MM k1 F A → f_X9_giveOut 142 0 k1 = some k2 → f_X9_person 142 (nI p) y k1 = if y = nI 0 then (gR k2 142 9 0).bind fun r3 => (ald k2 r3 (54 + nI p)).bind fun v4 => some (v4, k2) else if y = nI 1 then (gR k2 142 9 0).bind fun r5 => (ald k2 r5 (48 + nI p)).bind fun v6 => some (v6, k2) else if y = nI 2 then (f_X9_placeInLots 142 (nI p) k2).bind fun q7 => some (q7.1, q7.2) else if y = nI 3 then (gR k2 142 9 8).bind fun r8 => (ald k2 r8 (nI p)).bind fun v9 => some (v9, k2) else if y = nI 4 then (gR k2 142 9 9).bind fun r10 => (ald k2 r10 (nI p)).bind fun v11 => some (v11, k2) else if y = nI 5 then (gR k2 142 9 10).bind fun r12 => (ald k2 r12 (nI p)).bind fun v13 => some (v13, k2) else if y = nI 6 then (f_X9_byLot 142 (nI p) k2).bind fun q14 => some (q14.1, q14.2) else if y = nI 7 then (f_X9_better 142 (nI p) k2).bind fun q15 => some (q15.1, q15.2) else some (-1000000002, k2) := by
      intro k1 k2 M1 g2
      unfold f_X9_person f_X9_person_e
      rw [M1.chk, e2 k1 F A M1 I.2.2.2.2.1, bs, if_neg b1n]
      show (f_X9_giveOut 142 0 k1).bind _ = _
      rw [g2, bs]
    obtain ⟨k1, q1, D1, X1⟩ := p_dealt I
    have I1 := I.deal X1 D1.dx
    by_cases y0 : y = nI 0
    · rw [if_pos y0, I.1.r 1 rfl, bs, p_seatOf I.2.2.1 Y hp, bs] at pre8
      refine stay _ pre8 (fun k2 F' A' M' R' f1 f2 hg g2 => ⟨k2, A', ?_, M', AE.rfl, Fr.rfl⟩)
      have hw := R'.1 p hp
      rw [Nat.zero_add] at hw
      rw [pre9 h k2 M g2, if_pos y0, M'.r 0 rfl, bs]
      show (ald k2 (143 + 0) (nI 54 + nI p)).bind _ = _
      rw [nI_add, M'.ald 0 (by omega) (show 54 + p < 1608 by omega), bs, hw]
    · rw [if_neg y0] at pre8
      by_cases y1 : y = nI 1
      · rw [if_pos y1, I.1.r 1 rfl, bs, p_amount I.2.2.1 Y hp, bs] at pre8
        refine stay _ pre8 (fun k2 F' A' M' R' f1 f2 hg g2 => ⟨k2, A', ?_, M', AE.rfl, Fr.rfl⟩)
        have hw := R'.2.1 p hp
        rw [Nat.zero_add] at hw
        rw [pre9 h k2 M g2, if_neg y0, if_pos y1, M'.r 0 rfl, bs]
        show (ald k2 (143 + 0) (nI 48 + nI p)).bind _ = _
        rw [nI_add, M'.ald 0 (by omega) (show 48 + p < 1608 by omega), bs, hw]
      · rw [if_neg y1] at pre8
        by_cases y2 : y = nI 2
        · obtain ⟨k, hk, hk2⟩ := ord_idx Y hp
          rw [if_pos y2, I.1.r 1 rfl, bs, p_placeOf I.2.2.1 Y (by omega), bs, hk] at pre8
          refine stay _ pre8 (fun k2 F' A' M' R' f1 f2 hg g2 => ⟨k2, A', ?_, M', AE.rfl, Fr.rfl⟩)
          rw [pre9 h k2 M g2, if_neg y0, if_neg y1, if_pos y2, p_placeInLots M' R' Y hp hk, bs]
          rfl
        · rw [if_neg y2] at pre8
          by_cases y3 : y = nI 3
          · rw [if_pos y3, q1, bs] at pre8
            refine deals (gC S p) k1 q1 D1 X1 (pre8.trans ?_) (fun k2 F' A' M1 M' R' f1 f2 hg g2 => ⟨k2, A', ?_, M', AE.rfl, Fr.rfl⟩)
            · show (f_X1_roomOf 13 (nI p) k1).bind _ = _
              rw [p_roomOf D1 Y hp, bs]
            · rw [pre9 k1 k2 M1 g2, if_neg y0, if_neg y1, if_neg y2, if_pos y3, M'.r 8 rfl, bs]
              show (ald k2 (143 + 2) (nI p)).bind _ = _
              rw [M'.ald 2 (by omega) (show p < 6 by omega), bs, (hg p hp).1]
          · rw [if_neg y3] at pre8
            by_cases y4 : y = nI 4
            · rw [if_pos y4, q1, bs] at pre8
              refine deals (rC S p) k1 q1 D1 X1 (pre8.trans ?_) (fun k2 F' A' M1 M' R' f1 f2 hg g2 => ⟨k2, A', ?_, M', AE.rfl, Fr.rfl⟩)
              · show (f_X1_roundOf 13 (nI p) k1).bind _ = _
                rw [p_roundOf D1 Y hp, bs]
              · rw [pre9 k1 k2 M1 g2, if_neg y0, if_neg y1, if_neg y2, if_neg y3, if_pos y4, M'.r 9 rfl, bs]
                show (ald k2 (143 + 3) (nI p)).bind _ = _
                rw [M'.ald 3 (by omega) (show p < 6 by omega), bs, (hg p hp).2.1]
            · rw [if_neg y4] at pre8
              by_cases y5 : y = nI 5
              · rw [if_pos y5, q1, bs] at pre8
                refine deals (zC S p) k1 q1 D1 X1 (pre8.trans ?_) (fun k2 F' A' M1 M' R' f1 f2 hg g2 => ⟨k2, A', ?_, M', AE.rfl, Fr.rfl⟩)
                · show (f_X1_ringOf 13 (nI p) k1).bind _ = _
                  rw [p_ringOf D1 Y hp, bs]
                · rw [pre9 k1 k2 M1 g2, if_neg y0, if_neg y1, if_neg y2, if_neg y3, if_neg y4, if_pos y5, M'.r 10 rfl, bs]
                  show (ald k2 (143 + 4) (nI p)).bind _ = _
                  rw [M'.ald 4 (by omega) (show p < 6 by omega), bs, (hg p hp).2.2]
              · rw [if_neg y5] at pre8
                have hfull : ∀ q, q < cP S → (2 ^ cP S - 1).testBit q = !(0 : Nat).testBit q := fun q hq => by rw [tb_full, Nat.zero_testBit]; simpa using hq
                by_cases y6 : y = nI 6
                · rw [if_pos y6] at pre8
                  refine stay (enc (lotC S p (cO S) (2 ^ cN S - 1) (2 ^ cP S - 1))) (pre8.trans ?_) (fun k2 F' A' M' R' f1 f2 hg g2 => ?_)
                  · unfold f_X8_chosenByLot f_X8_chosenByLot_e
                    rw [I.1.chk, I.1.r 1 rfl, bs, I.2.2.1.rooms, bs, p_firstOnes (by omega), bs]
                    show ((gR h 0 8 1).bind _).bind _ = _
                    rw [I.1.r 1 rfl, bs]
                    show ((gI h 3 3 1).bind _).bind _ = _
                    rw [I.2.2.1.pers, bs]
                    show ((f_X8_firstOnes (nI (cP S)) h).bind _).bind _ = _
                    rw [p_firstOnes (by omega), bs]
                    show (F_X8_chosenByLot_25 FU 0 (nI p) (nI (2 ^ cN S - 1)) (nI (2 ^ cP S - 1)) (nI 0) h).bind _ = _
                    rw [l_lotC I.1 I.2.2.1 Y hp (cO S) 0 rfl (by omega) FU (fu_lt (by rw [Y.2.2.2.2.2.1]; omega)) _ _ (m_full_lt _ (by omega)) (m_full_lt _ (by omega)), bs]
                  · obtain ⟨k3, A3, e3, M3, ae3, X3⟩ := l_lotM (F := F') Y f2 hp (cO S) 0 rfl (by omega) FU (fu_lt (by rw [Y.2.2.2.2.2.1]; omega)) k2 A' (2 ^ cN S - 1) (2 ^ cP S - 1) 0 M' R' (m_full_lt _ (by omega)) (m_full_lt _ (by omega)) (by omega) hfull
                    refine ⟨k3, A3, ?_, M3, ae3, X3⟩
                    rw [pre9 h k2 M g2, if_neg y0, if_neg y1, if_neg y2, if_neg y3, if_neg y4, if_neg y5, if_pos y6]
                    unfold f_X9_byLot f_X9_byLot_e
                    rw [M'.chk, M'.g 1 rfl, bs, f1, m_full _ (by omega)]
                    show (F_X9_byLot_14 FU 142 (nI p) (nI (2 ^ cN S - 1)) (nI 0) (nI 0) k2).bind _ = _
                    rw [e3, bs]
                · rw [if_neg y6] at pre8
                  by_cases y7 : y = nI 7
                  · rw [if_pos y7, I.1.r 1 rfl, bs, q1, bs] at pre8
                    obtain ⟨o1, o2⟩ := oC_spec Y hp
                    refine deals (nI (rankC S p (oC S p))) k1 q1 D1 X1 (pre8.trans ?_) (fun k2 F' A' M1 M' R' f1 f2 hg g2 => ?_)
                    · show (f_X1_roomOf 13 (nI p) k1).bind _ = _
                      rw [p_roomOf D1 Y hp, bs, o1]
                      show (f_X3_rank 3 (nI p) (enc (oC S p)) k1).bind _ = _
                      rw [p_rank I1.2.2.1 Y hp (fun k hk => by have := o2 k hk; omega), bs]
                    · obtain ⟨k3, A3, e3, M3, ae3, X3⟩ := p_better M' R' Y (fun p hp => (hg p hp).1) hp
                      refine ⟨k3, A3, ?_, M3, ae3, X3⟩
                      rw [pre9 k1 k2 M1 g2, if_neg y0, if_neg y1, if_neg y2, if_neg y3, if_neg y4, if_neg y5, if_neg y6, if_pos y7, e3, bs]
                  · rw [if_neg y7] at pre8
                    refine stay (-1000000002) pre8 (fun k2 F' A' M' R' f1 f2 hg g2 => ⟨k2, A', ?_, M', AE.rfl, Fr.rfl⟩)
                    rw [pre9 h k2 M g2, if_neg y0, if_neg y1, if_neg y2, if_neg y3, if_neg y4, if_neg y5, if_neg y6, if_neg y7]
