/-! PURE: sets as numbers below 256, bit k for k -/
def enc (o : Option Nat) : Int32 := match o with
  | none => -1
  | some k => nI k
def ins (s k : Nat) : Nat := s ||| (1 <<< k)
def del (s k : Nat) : Nat := s &&& (4294967295 - (1 <<< k))
def adn (s t : Nat) : Nat := s &&& (4294967295 - t)
def pop (s : Nat) : Nat := (List.range 8).foldl (fun n k => n + (s >>> k) % 2) 0
theorem m_has : ∀ s, s < 256 → ∀ k, k < 8 → ((nI s >>> (nI k &&& 31)) &&& 1 = 1 ↔ s.testBit k = true) := by decide +kernel
theorem m_ins : ∀ s, s < 256 → ∀ k, k < 8 → nI s ||| (1 <<< (nI k &&& 31)) = nI (ins s k) := by decide +kernel
theorem m_del : ∀ s, s < 256 → ∀ k, k < 8 → nI s &&& ((1 <<< (nI k &&& 31)) ^^^ (-1)) = nI (del s k) := by decide +kernel
theorem m_ins_lt : ∀ s, s < 256 → ∀ k, k < 8 → ins s k < 256 := by decide +kernel
theorem m_del_lt : ∀ s, s < 256 → ∀ k, k < 8 → del s k < 256 := by decide +kernel
theorem m_one : ∀ k, k < 8 → (1 : Int32) <<< (nI k &&& 31) = nI (1 <<< k) := by decide +kernel
theorem m_one_lt : ∀ k, k < 8 → 1 <<< k < 256 := by decide +kernel
theorem m_full : ∀ n, n < 9 → ((1 : Int32) <<< (nI n &&& 31)) - 1 = nI (2 ^ n - 1) := by decide +kernel
theorem m_full_lt : ∀ n, n < 9 → 2 ^ n - 1 < 256 := by decide +kernel
theorem m_not : ∀ t, t < 256 → nI t ^^^ (-1) = nI (4294967295 - t) := by decide +kernel
theorem m_bc : ∀ s, s < 256 → f_J6_bitCount_0f7a4 (nI s) [] = some (nI (pop s), []) → True := fun _ _ _ => trivial
theorem nI_and (a b : Nat) : nI a &&& nI b = nI (a &&& b) := by
  apply Int32.toBitVec_inj.mp
  show BitVec.ofNat 32 a &&& BitVec.ofNat 32 b = BitVec.ofNat 32 (a &&& b)
  apply BitVec.eq_of_getLsbD_eq
  intro i hi
  simp [BitVec.getLsbD_ofNat, hi, Nat.testBit_and]
theorem m_adn {s t : Nat} (ht : t < 256) : nI s &&& (nI t ^^^ (-1)) = nI (adn s t) := by rw [m_not t ht, nI_and]; rfl
theorem m_adn_lt {s t : Nat} (hs : s < 256) : adn s t < 256 := Nat.lt_of_le_of_lt Nat.and_le_left hs
theorem tb_ins {s k j : Nat} : (ins s k).testBit j = (s.testBit j || decide (j = k)) := by
  unfold ins
  rw [Nat.testBit_or, Nat.one_shiftLeft, Nat.testBit_two_pow]
  congr 1
  by_cases h : k = j
  · simp [h]
  · have : ¬ j = k := fun q => h q.symm
    simp [h, this]
theorem tb_adn {s t j : Nat} (ht : t < 256) (hj : j < 8) : (adn s t).testBit j = (s.testBit j && !t.testBit j) := by
  unfold adn
  rw [Nat.testBit_and, show 4294967295 - t = 2 ^ 32 - (t + 1) by omega, Nat.testBit_two_pow_sub_succ (by omega)]
  have : j < 32 := by omega
  simp [this]
theorem tb_del {s k j : Nat} (hk : k < 8) (hj : j < 8) : (del s k).testBit j = (s.testBit j && !decide (j = k)) := by
  have h := tb_adn (s := s) (t := 1 <<< k) (j := j) (m_one_lt k hk) hj
  have e : del s k = adn s (1 <<< k) := rfl
  rw [e, h, Nat.one_shiftLeft, Nat.testBit_two_pow]
  congr 1
  by_cases h : k = j
  · simp [h]
  · have : ¬ j = k := fun q => h q.symm
    simp [h, this]
theorem tb_full {n j : Nat} : (2 ^ n - 1).testBit j = decide (j < n) := Nat.testBit_two_pow_sub_one n j
theorem enc_s (k : Nat) : enc (some k) = nI k := rfl
theorem enc_n : enc none = -1 := rfl
theorem nI_neg1 {k : Nat} (hk : k < 2 ^ 31) : ¬ nI k = -1 := by
  intro h
  have h2 := congrArg Int32.toInt h
  rw [nI_toInt hk] at h2
  have : (-1 : Int32).toInt = -1 := by decide
  omega
theorem enc_inj {a b : Option Nat} (ha : ∀ k, a = some k → k < 2 ^ 31) (hb : ∀ k, b = some k → k < 2 ^ 31) : enc a = enc b ↔ a = b := by
  cases a with
  | none =>
    cases b with
    | none => simp
    | some y => simp only [enc, reduceCtorEq, iff_false]; exact fun h => nI_neg1 (hb y rfl) h.symm
  | some x =>
    cases b with
    | none => simp only [enc, reduceCtorEq, iff_false]; exact nI_neg1 (ha x rfl)
    | some y => simp only [enc, Option.some.injEq]; exact nI_eq (ha x rfl) (hb y rfl)
/-! rows of ints -/
def IA (h : HP) (a n : Nat) (f : Nat → Int32) : Prop := h[a]? = some (.inr (.inl (n, f)))
theorem bs {α β : Type} (a : α) (f : α → Option β) : (some a).bind f = f a := rfl
theorem ia_len {h : HP} {a n : Nat} {f : Nat → Int32} (H : IA h a n f) : alen h a = some (nI n) := by unfold alen; rw [H]; rfl
theorem ia_ald {h : HP} {a n : Nat} {f : Nat → Int32} (H : IA h a n f) {k : Nat} (hk : k < n) (hn : n < 2 ^ 31) : ald h a (nI k) = some (f k) := by
  unfold ald; rw [H]
  show (if nI k < 0 ∨ n ≤ (nI k).toNatClampNeg then none else some (f (nI k).toNatClampNeg)) = _
  rw [if_neg (nI_in hk hn), nI_clamp (by omega)]
theorem ia_ast {h : HP} {a n : Nat} {f : Nat → Int32} (H : IA h a n f) {k : Nat} (hk : k < n) (hn : n < 2 ^ 31) (x : Int32) : ast h a (nI k) x = some (h.set a (.inr (.inl (n, upd f k x)))) := by
  unfold ast; rw [H]
  show (if nI k < 0 ∨ n ≤ (nI k).toNatClampNeg then none else some (h.set a (.inr (.inl (n, upd f (nI k).toNatClampNeg x))))) = _
  rw [if_neg (nI_in hk hn), nI_clamp (by omega)]
theorem ia_at {h : HP} {a n : Nat} {f : Nat → Int32} (H : IA h a n f) {k : Nat} (hk : k < n) (hn : n < 2 ^ 31) : f_X8_at a (nI k) h = some (f k, h) := by
  unfold f_X8_at f_X8_at_e
  rw [if_neg (nI_pos (by omega)), ia_len H, bs, if_neg (nI_ge hk hn), ia_ald H hk hn]
  rfl
theorem ia_atN {h : HP} {a : Nat} : f_X8_at a (-1) h = some (-1, h) := by
  unfold f_X8_at f_X8_at_e
  rw [if_pos (by decide)]
  rfl
theorem ia_put {h : HP} {a n : Nat} {f : Nat → Int32} (H : IA h a n f) {k : Nat} (hk : k < n) (hn : n < 2 ^ 31) (x : Int32) : f_X8_put a (nI k) x h = some (h.set a (.inr (.inl (n, upd f k x)))) := by
  unfold f_X8_put f_X8_put_e
  rw [if_neg (nI_pos (by omega)), ia_len H, bs, if_neg (nI_ge hk hn), ia_ast H hk hn]
  rfl
/-! the class's small helpers -/
def bI (b : Bool) : Int32 := if b then 1 else 0
theorem bI_t : bI true = 1 := rfl
theorem bI_f : bI false = 0 := rfl
theorem bI_0 (b : Bool) : bI b = 0 ↔ b = false := by cases b <;> decide
theorem bI_1 (b : Bool) : bI b = 1 ↔ b = true := by cases b <;> decide
def hasO (s : Nat) (o : Option Nat) : Bool := match o with
  | none => false
  | some k => s.testBit k
def insO (s : Nat) (o : Option Nat) : Nat := match o with
  | none => s
  | some k => ins s k
def delO (s : Nat) (o : Option Nat) : Nat := match o with
  | none => s
  | some k => del s k
theorem p_holds {s k : Nat} (hs : s < 256) (hk : k < 8) (h : HP) : f_X8_holds (nI s) (nI k) h = some (bI (s.testBit k), h) := by
  unfold f_X8_holds f_X8_holds_e
  rw [if_neg (nI_pos (by omega)), if_neg (show ¬ (31 : Int32) ≤ nI k from nI_ge (a := k) (b := 31) (by omega) (by omega))]
  by_cases hb : s.testBit k = true
  · rw [if_pos ((m_has s hs k hk).mpr hb), hb]; rfl
  · rw [if_neg (fun q => hb ((m_has s hs k hk).mp q)), Bool.not_eq_true _ |>.mp hb]; rfl
theorem p_holdsN {s : Int32} (h : HP) : f_X8_holds s (-1) h = some (0, h) := by
  unfold f_X8_holds f_X8_holds_e
  rw [if_pos (by decide)]
  rfl
theorem p_holdsO {s : Nat} (hs : s < 256) {o : Option Nat} (ho : ∀ k, o = some k → k < 8) (h : HP) : f_X8_holds (nI s) (enc o) h = some (bI (hasO s o), h) := by
  cases o with
  | none => exact p_holdsN h
  | some k => exact p_holds hs (ho k rfl) h
theorem p_with {s k : Nat} (hs : s < 256) (hk : k < 8) (h : HP) : f_X8_with (nI s) (nI k) h = some (nI (ins s k), h) := by
  unfold f_X8_with f_X8_with_e
  rw [if_neg (nI_pos (by omega)), if_neg (show ¬ (31 : Int32) ≤ nI k from nI_ge (a := k) (b := 31) (by omega) (by omega)), m_ins s hs k hk]
  rfl
theorem p_withO {s : Nat} (hs : s < 256) {o : Option Nat} (ho : ∀ k, o = some k → k < 8) (h : HP) : f_X8_with (nI s) (enc o) h = some (nI (insO s o), h) := by
  cases o with
  | none =>
    unfold f_X8_with f_X8_with_e
    rw [if_pos (by decide)]
    rfl
  | some k => exact p_with hs (ho k rfl) h
theorem p_without {s k : Nat} (hs : s < 256) (hk : k < 8) (h : HP) : f_X8_without (nI s) (nI k) h = some (nI (del s k), h) := by
  unfold f_X8_without f_X8_without_e
  rw [if_neg (nI_pos (by omega)), if_neg (show ¬ (31 : Int32) ≤ nI k from nI_ge (a := k) (b := 31) (by omega) (by omega)), m_del s hs k hk]
  rfl
theorem p_withoutO {s : Nat} (hs : s < 256) {o : Option Nat} (ho : ∀ k, o = some k → k < 8) (h : HP) : f_X8_without (nI s) (enc o) h = some (nI (delO s o), h) := by
  cases o with
  | none =>
    unfold f_X8_without f_X8_without_e
    rw [if_pos (by decide)]
    rfl
  | some k => exact p_without hs (ho k rfl) h
theorem p_firstOnes {n : Nat} (hn : n < 9) (h : HP) : f_X8_firstOnes (nI n) h = some (nI (2 ^ n - 1), h) := by
  unfold f_X8_firstOnes f_X8_firstOnes_e
  by_cases h0 : n = 0
  · subst h0
    rw [if_pos (by decide)]
    rfl
  · rw [if_neg (nI_nle (by omega) (by omega)), if_neg (show ¬ (31 : Int32) ≤ nI n from nI_ge (a := n) (b := 31) (by omega) (by omega)), m_full n hn]
    rfl
theorem insO_lt {s : Nat} (hs : s < 256) {o : Option Nat} (ho : ∀ k, o = some k → k < 8) : insO s o < 256 := by
  cases o with
  | none => exact hs
  | some k => exact m_ins_lt s hs k (ho k rfl)
theorem delO_lt {s : Nat} (hs : s < 256) {o : Option Nat} (ho : ∀ k, o = some k → k < 8) : delO s o < 256 := by
  cases o with
  | none => exact hs
  | some k => exact m_del_lt s hs k (ho k rfl)
/-! counting up: find, fold -/
def fnd (q : Nat → Bool) : Nat → Nat → Option Nat
  | 0, _ => none
  | m + 1, i => if q i then some i else fnd q m (i + 1)
def fld {σ : Type} (f : σ → Nat → σ) : Nat → Nat → σ → σ
  | 0, _, s => s
  | m + 1, i, s => fld f m (i + 1) (f s i)
theorem fnd_lt {q : Nat → Bool} : ∀ {m i k : Nat}, fnd q m i = some k → i ≤ k ∧ k < i + m ∧ q k = true := by
  intro m
  induction m with
  | zero => intro i k h; cases h
  | succ m ih =>
    intro i k h
    unfold fnd at h
    by_cases hq : q i = true
    · rw [if_pos hq] at h
      cases h
      exact ⟨Nat.le_refl _, by omega, hq⟩
    · rw [if_neg hq] at h
      obtain ⟨h1, h2, h3⟩ := ih h
      exact ⟨by omega, by omega, h3⟩
theorem fnd_none {q : Nat → Bool} : ∀ {m i : Nat}, fnd q m i = none → ∀ k, i ≤ k → k < i + m → q k = false := by
  intro m
  induction m with
  | zero => intro i h k h1 h2; omega
  | succ m ih =>
    intro i h k h1 h2
    unfold fnd at h
    by_cases hq : q i = true
    · rw [if_pos hq] at h; cases h
    · rw [if_neg hq] at h
      by_cases hk : k = i
      · subst hk; exact Bool.not_eq_true _ |>.mp hq
      · exact ih h k (by omega) (by omega)
theorem fnd_congr {q r : Nat → Bool} : ∀ {m i : Nat}, (∀ k, i ≤ k → k < i + m → q k = r k) → fnd q m i = fnd r m i := by
  intro m
  induction m with
  | zero => intro i _; rfl
  | succ m ih =>
    intro i h
    unfold fnd
    rw [h i (Nat.le_refl _) (by omega), ih (fun k h1 h2 => h k (by omega) (by omega))]
theorem fld_congr {σ : Type} {f g : σ → Nat → σ} : ∀ {m i : Nat} {s : σ}, (∀ k s, i ≤ k → k < i + m → f s k = g s k) → fld f m i s = fld g m i s := by
  intro m
  induction m with
  | zero => intro i s _; rfl
  | succ m ih =>
    intro i s h
    unfold fld
    rw [h i s (Nat.le_refl _) (by omega)]
    exact ih (fun k s h1 h2 => h k s (by omega) (by omega))
theorem sx {n m : Nat} (h : m < n) : ∃ k, n = k + 1 := ⟨n - 1, by omega⟩
