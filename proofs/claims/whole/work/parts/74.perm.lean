/-! ALL ORDERS: as the class numbers them, as the reference goes from one to the next -/
def fcP (P : Nat) : Nat := fld (fun a b => a * b) (P - 1) 2 1
def ordL (P : Nat) : Nat → Nat → Nat → Option (List Nat)
  | 0, _, _ => some []
  | m + 1, rest, left => (patL left P 0 (rest % (m + 1))).bind fun q => (ordL P m (rest / (m + 1)) (del left q)).map (fun t => q :: t)
def ordG (P c : Nat) : List Nat := (ordL P P c (2 ^ P - 1)).getD []
def swapL (l : List Nat) (a b : Nat) : List Nat := (l.set a (l.getD b 0)).set b (l.getD a 0)
def nxK (l : List Nat) : Nat → Option Nat
  | 0 => none
  | c + 1 => if l.getD c 0 ≤ l.getD (c + 1) 0 then some c else nxK l c
def nxJ (l : List Nat) (k : Nat) : Nat → Nat
  | 0 => 0
  | c + 1 => if l.getD k 0 ≤ l.getD c 0 then c else nxJ l k c
def rvL : Nat → Nat → Nat → List Nat → List Nat
  | 0, _, _, l => l
  | m + 1, a, b, l => if b ≤ a then l else rvL m (a + 1) (b - 1) (swapL l a b)
def nextL (P : Nat) (l : List Nat) : Option (List Nat) := match nxK l (P - 1) with
  | none => none
  | some k => some (rvL P (k + 1) (P - 1) (swapL l k (nxJ l k P)))
def lexE (P : Nat) : Nat → List Nat → Option (List (List Nat))
  | 0, _ => none
  | n + 1, l => match nextL P l with
    | none => some [l]
    | some l' => (lexE P n l').map (fun t => l :: t)
def okO (P : Nat) (l : List Nat) : Bool := decide (l.length = P) && (decide l.Nodup && l.all (fun q => decide (q < P)))
/-- the number that the class has for an order -/
def codeL : List Nat → Nat
  | [] => 0
  | q :: t => (t.filter (fun y => decide (y < q))).length + (t.length + 1) * codeL t
def chkO (P : Nat) : Bool := match lexE P 720 (List.range P) with
  | none => false
  | some ls => decide (ls.length = fcP P) && (ls.all (fun l => decide (ordL P P (codeL l) (2 ^ P - 1) = some l) && okO P l) && decide ((ls.map codeL).foldl ins 0 = 2 ^ fcP P - 1))
set_option maxRecDepth 100000 in
theorem chk_all : ∀ P, P < 7 → 1 ≤ P → chkO P = true := by decide +kernel
theorem fcP_le : ∀ P, P < 7 → fcP P ≤ 720 := by decide +kernel
theorem mask_mem : ∀ (cs : List Nat) m c, (cs.foldl ins m).testBit c = true → m.testBit c = true ∨ c ∈ cs := by
  intro cs
  induction cs with
  | nil => intro m c h; exact Or.inl h
  | cons a t ih =>
    intro m c h
    rcases ih (ins m a) c h with z | z
    · rw [tb_ins] at z
      simp only [Bool.or_eq_true, decide_eq_true_eq] at z
      rcases z with z | z
      · exact Or.inl z
      · exact Or.inr (by rw [z]; exact List.mem_cons_self)
    · exact Or.inr (List.mem_cons_of_mem _ z)
theorem perm_of : ∀ (l cs : List Nat), l.Nodup → (∀ x ∈ l, x ∈ cs) → cs.length ≤ l.length → l.Perm cs := by
  intro l
  induction l with
  | nil =>
    intro cs _ _ h
    have : cs = [] := List.length_eq_zero_iff.mp (Nat.le_zero.mp h)
    rw [this]
  | cons a t ih =>
    intro cs hn hs hl
    have ha : a ∈ cs := hs a List.mem_cons_self
    obtain ⟨hat, htn⟩ := List.nodup_cons.mp hn
    have h1 : t.Perm (cs.erase a) := ih (cs.erase a) htn (fun x hx => by
      have hxa : x ≠ a := fun z => hat (by rw [← z]; exact hx)
      exact (List.mem_erase_of_ne hxa).mpr (hs x (List.mem_cons_of_mem _ hx))) (by
      rw [List.length_erase_of_mem ha]
      rw [List.length_cons] at hl
      omega)
    exact (h1.cons a).trans (List.perm_cons_erase ha).symm
theorem orders_all {P : Nat} (h1 : 1 ≤ P) (h6 : P ≤ 6) : ∃ ls, lexE P 720 (List.range P) = some ls ∧ (∀ l ∈ ls, okO P l = true) ∧ ls.Perm ((List.range (fcP P)).map (ordG P)) ∧ ∀ c, c < fcP P → ordL P P c (2 ^ P - 1) = some (ordG P c) ∧ okO P (ordG P c) = true := by
  have hc := chk_all P (by omega) h1
  unfold chkO at hc
  cases hl : lexE P 720 (List.range P) with
  | none => rw [hl] at hc; cases hc
  | some ls =>
    rw [hl] at hc
    have hc : (decide (ls.length = fcP P) && (ls.all (fun l => decide (ordL P P (codeL l) (2 ^ P - 1) = some l) && okO P l) && decide ((ls.map codeL).foldl ins 0 = 2 ^ fcP P - 1))) = true := hc
    simp only [Bool.and_eq_true, decide_eq_true_eq, List.all_eq_true] at hc
    obtain ⟨c1, c2, c3⟩ := hc
    have mem : ∀ c, c < fcP P → c ∈ ls.map codeL := fun c hc => by
      have : ((ls.map codeL).foldl ins 0).testBit c = true := by rw [c3, tb_full]; simpa using hc
      rcases mask_mem _ 0 c this with z | z
      · rw [Nat.zero_testBit] at z; cases z
      · exact z
    have hp : (List.range (fcP P)).Perm (ls.map codeL) := perm_of _ _ List.nodup_range (fun x hx => mem x (List.mem_range.mp hx)) (by rw [List.length_map, List.length_range, c1]; exact Nat.le_refl _)
    have hg : ∀ l ∈ ls, ordG P (codeL l) = l := fun l hl => by unfold ordG; rw [(c2 l hl).1]; rfl
    refine ⟨ls, rfl, fun l hl => (c2 l hl).2, ?_, fun c hc => ?_⟩
    · have hm := hp.map (ordG P)
      rw [List.map_map] at hm
      have e : ls.map (ordG P ∘ codeL) = ls := by
        exact (List.map_congr_left (f := ordG P ∘ codeL) (g := id) (fun l hl => hg l hl)).trans (List.map_id _)
      rw [e] at hm
      exact hm.symm
    · obtain ⟨l, hl, rfl⟩ := List.mem_map.mp (mem c hc)
      rw [hg l hl]
      exact c2 l hl
theorem VS.ok {S : CS} (Y : VS S) {l : List Nat} (h : okO (cP S) l = true) : VS (setOd S l) := by
  unfold okO at h
  simp only [Bool.and_eq_true, decide_eq_true_eq, List.all_eq_true] at h
  exact ⟨Y.1, Y.2.1, Y.2.2.1, Y.2.2.2.1, Y.2.2.2.2.1, h.1, h.2.1, h.2.2⟩
theorem ok_spec {P : Nat} {l : List Nat} (h : okO P l = true) : l.length = P ∧ l.Nodup ∧ ∀ q ∈ l, q < P := by
  unfold okO at h
  simp only [Bool.and_eq_true, decide_eq_true_eq, List.all_eq_true] at h
  exact h
theorem gd_lt {l : List Nat} {n j : Nat} (h : ∀ q ∈ l, q < n) (h0 : 0 < n) : l.getD j 0 < n := by
  rw [List.getD_eq_getElem?_getD]
  cases hj : l[j]? with
  | none => exact h0
  | some x => exact h x (List.mem_of_getElem? hj)
theorem patL_lt {set : Nat} : ∀ m i k q, patL set m i k = some q → i ≤ q ∧ q < i + m := by
  intro m
  induction m with
  | zero => intro i k q h; cases h
  | succ m ih =>
    intro i k q h
    unfold patL at h
    by_cases hb : set.testBit i = true
    · rw [if_pos hb] at h
      by_cases hk : k = 0
      · rw [if_pos hk] at h; cases h; exact ⟨Nat.le_refl _, by omega⟩
      · rw [if_neg hk] at h
        have := ih _ _ _ h
        omega
    · rw [if_neg hb] at h
      have := ih _ _ _ h
      omega
