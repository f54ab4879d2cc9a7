/-! odds, the reference: from one order to the next -/
def pz (c : Nat) : Int32 := match c with
  | 0 => -1
  | c + 1 => nI c
theorem pz_d (c : Nat) : nI c + (-1) = pz c := by
  cases c with
  | zero => decide
  | succ c => exact pk_m1 c
theorem pz_1 {P : Nat} (h : 1 ≤ P) : nI P - 1 = pz P := by
  obtain ⟨c, rfl⟩ : ∃ c, P = c + 1 := ⟨P - 1, by omega⟩
  show nI (c + 1) - nI 1 = nI c
  rw [pk_sub (by omega), Nat.add_sub_cancel]
theorem pz_2 : ∀ P, P < 7 → 1 ≤ P → nI P - 2 = pz (P - 1) := by decide +kernel
theorem rwl_at {f : Nat → Int32} {b : Nat} {l : List Nat} (h : RWl f b l) {j : Nat} (hj : j < l.length) : f (b + j) = nI (l.getD j 0) := by
  rw [List.getD_eq_getElem?_getD, List.getElem?_eq_getElem hj]
  exact h j _ (List.getElem?_eq_getElem hj)
theorem swapL_len (l : List Nat) (x y : Nat) : (swapL l x y).length = l.length := by
  unfold swapL
  rw [List.length_set, List.length_set]
theorem rwl_swap {f : Nat → Int32} {b : Nat} {l : List Nat} (h : RWl f b l) {x y : Nat} (hx : x < l.length) (hy : y < l.length) : RWl (upd (upd f (b + x) (f (b + y))) (b + y) (f (b + x))) b (swapL l x y) := by
  intro j v hj
  unfold swapL at hj
  by_cases h1 : j = y
  · subst h1
    rw [List.getElem?_set_self (by rw [List.length_set]; exact hy)] at hj
    cases hj
    rw [us]
    exact rwl_at h hx
  · rw [List.getElem?_set_ne (fun z => h1 z.symm)] at hj
    rw [un (by omega)]
    by_cases h2 : j = x
    · subst h2
      rw [List.getElem?_set_self hx] at hj
      cases hj
      rw [us]
      exact rwl_at h hy
    · rw [List.getElem?_set_ne (fun z => h2 z.symm)] at hj
      rw [un (by omega)]
      exact h j v hj
theorem p_swap {h : HP} {F : Nat → Int32} {A : AT} (M : MM h F A) {x y : Nat} (hx : x < 6) (hy : y < 6) : ∃ h', f_X9_swap 142 (nI x) (nI y) h = some h' ∧ MM h' F (setA A 0 (upd (upd (A 0) (1601 + x) (A 0 (1601 + y))) (1601 + y) (A 0 (1601 + x)))) ∧ Fr h h' 142 12 := by
  obtain ⟨h1, e1, M1, X1⟩ := M.ast 0 (by omega) (show 1601 + x < 1608 by omega) (A 0 (1601 + y))
  obtain ⟨h2, e2, M2, X2⟩ := M1.ast 0 (by omega) (show 1601 + y < 1608 by omega) (A 0 (1601 + x))
  rw [setA_set, setA_s] at M2
  refine ⟨h2, ?_, M2, X1.trans X2⟩
  unfold f_X9_swap f_X9_swap_e
  rw [M.chk, M.r 0 rfl, bs]
  show (ald h (143 + 0) (nI 1601 + nI x)).bind _ = _
  rw [nI_add, M.ald 0 (by omega) (show 1601 + x < 1608 by omega), bs, bs, bs]
  show (ald h (143 + 0) (nI 1601 + nI y)).bind _ = _
  rw [nI_add, M.ald 0 (by omega) (show 1601 + y < 1608 by omega), bs]
  show (ast h (143 + 0) (nI 1601 + nI x) _).bind _ = _
  rw [nI_add, e1, bs, M1.r 0 rfl, bs]
  show (ast h1 (143 + 0) (nI 1601 + nI y) _).bind _ = _
  rw [nI_add, e2, bs]
section NXT
variable {h : HP} {F : Nat → Int32} {A : AT} {l : List Nat} {P : Nat}
theorem l_next7 (M : MM h F A) (hl : l.length = P) (hP : P ≤ 6) (hb : ∀ j, l.getD j 0 < 8) (R : RWl (A 0) 1601 l) : ∀ c, c + 1 ≤ P → ∀ n, c < n → F_X9_nextLots_7 n 142 (pz c) h = f_X9_nextLots_b42 142 (enc (nxK l c)) h := by
  intro c
  induction c with
  | zero =>
    intro hc n hn
    obtain ⟨n, rfl⟩ := sx hn
    show f_X9_nextLots_b7 _ _ _ _ = _
    unfold f_X9_nextLots_b7
    rw [if_pos (show pz 0 < 0 by decide)]
    rfl
  | succ c ih =>
    intro hc n hn
    obtain ⟨n, rfl⟩ := sx hn
    have pre : F_X9_nextLots_7 (n + 1) 142 (pz (c + 1)) h = if nI (l.getD c 0) ≤ nI (l.getD (c + 1) 0) then f_X9_nextLots_b42 142 (nI c) h else F_X9_nextLots_7 n 142 (pz c) h := by
      show f_X9_nextLots_b7 (F_X9_nextLots_7 n) 142 (nI c) h = _
      unfold f_X9_nextLots_b7
      rw [if_neg (nI_pos (by omega)), M.r 0 rfl, bs]
      show (ald h (143 + 0) (nI 1601 + nI c)).bind _ = _
      rw [nI_add, M.ald 0 (by omega) (show 1601 + c < 1608 by omega), bs, bs]
      show (ald h (143 + 0) ((nI 1601 + nI c) + 1)).bind _ = _
      rw [nI_add, nI_1, show 1601 + c + 1 = 1601 + (c + 1) by omega, M.ald 0 (by omega) (show 1601 + (c + 1) < 1608 by omega), bs, rwl_at R (j := c) (by omega), rwl_at R (j := c + 1) (by omega), pz_d]
    rw [pre]
    unfold nxK
    have b0 := hb c
    have b1 := hb (c + 1)
    by_cases hle : l.getD c 0 ≤ l.getD (c + 1) 0
    · rw [if_pos (nI_le hle (by omega)), if_pos hle]
      rfl
    · rw [if_neg (nI_ge (by omega) (by omega)), if_neg hle]
      exact ih (by omega) n (by omega)
theorem l_next55 (M : MM h F A) (hl : l.length = P) (hP : P ≤ 6) (hb : ∀ j, l.getD j 0 < 8) (R : RWl (A 0) 1601 l) {k : Nat} (hk : k < P) : ∀ c, k < c → c ≤ P → ∀ n, c < n → (F_X9_nextLots_55 n 142 (nI k) (pz c) h = (f_X9_swap 142 (nI k) (nI (nxJ l k c)) h).bind fun h5 => (gI h5 142 9 2).bind fun v6 => F_X9_nextLots_102 FU 142 (nI k + 1) (v6 - 1) h5) ∧ nxJ l k c < P := by
  intro c
  induction c with
  | zero => intro h; omega
  | succ c ih =>
    intro hkc hc n hn
    obtain ⟨n, rfl⟩ := sx hn
    have pre : F_X9_nextLots_55 (n + 1) 142 (nI k) (pz (c + 1)) h = if nI (l.getD k 0) ≤ nI (l.getD c 0) then ((f_X9_swap 142 (nI k) (nI c) h).bind fun h5 => (gI h5 142 9 2).bind fun v6 => F_X9_nextLots_102 FU 142 (nI k + 1) (v6 - 1) h5) else F_X9_nextLots_55 n 142 (nI k) (pz c) h := by
      show f_X9_nextLots_b55 (F_X9_nextLots_55 n) 142 (nI k) (nI c) h = _
      unfold f_X9_nextLots_b55
      rw [M.r 0 rfl, bs]
      show (ald h (143 + 0) (nI 1601 + nI c)).bind _ = _
      rw [nI_add, M.ald 0 (by omega) (show 1601 + c < 1608 by omega), bs, bs]
      show (ald h (143 + 0) (nI 1601 + nI k)).bind _ = _
      rw [nI_add, M.ald 0 (by omega) (show 1601 + k < 1608 by omega), bs, rwl_at R (j := c) (by omega), rwl_at R (j := k) (by omega), pz_d]
    rw [pre]
    unfold nxJ
    have b0 := hb c
    have b1 := hb k
    by_cases hle : l.getD k 0 ≤ l.getD c 0
    · rw [if_pos (nI_le hle (by omega)), if_pos hle]
      exact ⟨rfl, by omega⟩
    · rw [if_neg (nI_ge (by omega) (by omega)), if_neg hle]
      have hne : k ≠ c := fun z => hle (by rw [z]; exact Nat.le_refl _)
      exact ih (by omega) (by omega) n (by omega)
theorem l_next102 (hP : P ≤ 6) : ∀ m x y, y ≤ x + m → y < P → x ≤ P → ∀ n, m < n → ∀ (h : HP) (A : AT) (l : List Nat), MM h F A → l.length = P → RWl (A 0) 1601 l → ∃ h' g, F_X9_nextLots_102 n 142 (nI x) (nI y) h = some (1, h') ∧ MM h' F (setA A 0 g) ∧ Fr h h' 142 12 ∧ RWl g 1601 (rvL m x y l) ∧ ∀ j, j < 1601 → g j = A 0 j := by
  intro m
  induction m with
  | zero =>
    intro x y hxy hy hx n hn h A l M hl R
    obtain ⟨n, rfl⟩ := sx hn
    refine ⟨h, A 0, ?_, by rw [setA_self]; exact M, Fr.rfl, R, fun _ _ => rfl⟩
    show f_X9_nextLots_b102 _ _ _ _ _ = _
    unfold f_X9_nextLots_b102
    rw [if_pos (nI_le (by omega) (by omega))]
  | succ m ih =>
    intro x y hxy hy hx n hn h A l M hl R
    obtain ⟨n, rfl⟩ := sx hn
    unfold rvL
    by_cases hle : y ≤ x
    · rw [if_pos hle]
      refine ⟨h, A 0, ?_, by rw [setA_self]; exact M, Fr.rfl, R, fun _ _ => rfl⟩
      show f_X9_nextLots_b102 _ _ _ _ _ = _
      unfold f_X9_nextLots_b102
      rw [if_pos (nI_le hle (by omega))]
    · rw [if_neg hle]
      obtain ⟨h1, e1, M1, X1⟩ := p_swap M (x := x) (y := y) (by omega) (by omega)
      obtain ⟨h2, g, e2, M2, X2, R2, k2⟩ := ih (x + 1) (y - 1) (by omega) (by omega) (by omega) n (by omega) h1 _ (swapL l x y) M1 (by rw [swapL_len]; exact hl) (by rw [setA_s]; exact rwl_swap R (by omega) (by omega))
      rw [setA_set] at M2
      refine ⟨h2, g, ?_, M2, X1.trans X2, R2, fun j hj => ?_⟩
      · show f_X9_nextLots_b102 _ _ _ _ _ = _
        unfold f_X9_nextLots_b102
        rw [if_neg (nI_ge (by omega) (by omega)), e1, bs, nI_1, show nI y + (-1) = nI (y - 1) by rw [show y = (y - 1) + 1 by omega]; exact pk_m1 _]
        exact e2
      · rw [k2 j hj, setA_s, un (by omega), un (by omega)]
theorem p_nextLots {S : CS} (Y : VS S) (M : MM h F A) (f2 : F 2 = nI (cP S)) (h1 : 1 ≤ cP S) (ok : okO (cP S) l = true) (R : RV (A 0) 1541 (setOd S l)) : (nextL (cP S) l = none → f_X9_nextLots 142 h = some (0, h)) ∧ ∀ l', nextL (cP S) l = some l' → ∃ h' g, f_X9_nextLots 142 h = some (1, h') ∧ MM h' F (setA A 0 g) ∧ Fr h h' 142 12 ∧ RV g 1541 (setOd S l') ∧ ∀ j, j < 1601 → g j = A 0 j := by
  have hP := Y.p6
  obtain ⟨o1, o2, o3⟩ := ok_spec ok
  have hb : ∀ j, l.getD j 0 < 8 := fun j => by have := gd_lt (j := j) o3 (by omega); omega
  have RW : RWl (A 0) 1601 l := R.2.2.2
  have pre : f_X9_nextLots 142 h = f_X9_nextLots_b42 142 (enc (nxK l (cP S - 1))) h := by
    unfold f_X9_nextLots f_X9_nextLots_e
    rw [M.chk, M.g 2 rfl, bs, f2, pz_2 _ (by omega) h1]
    exact l_next7 M o1 hP hb RW (cP S - 1) (by omega) FU (fu_lt (by omega))
  rw [pre]
  unfold nextL
  have hk : ∀ c k, nxK l c = some k → k < c := by
    intro c
    induction c with
    | zero => intro k hk; cases hk
    | succ c ih =>
      intro k hk
      unfold nxK at hk
      split at hk
      · cases hk; omega
      · have := ih k hk; omega
  cases hn : nxK l (cP S - 1) with
  | none =>
    refine ⟨fun _ => ?_, fun l' h' => (by cases h')⟩
    unfold f_X9_nextLots_b42
    rw [if_neg (show ¬ (0 : Int32) ≤ enc none by decide)]
  | some k =>
    have hk := hk _ _ hn
    refine ⟨fun h' => (by cases h'), fun l' h' => ?_⟩
    cases h'
    obtain ⟨e1, j1⟩ := l_next55 M o1 hP hb RW (k := k) (by omega) (cP S) (by omega) (Nat.le_refl _) FU (fu_lt (by omega))
    obtain ⟨h1', e2, M2, X2⟩ := p_swap M (x := k) (y := nxJ l k (cP S)) (by omega) (by omega)
    obtain ⟨h3, g, e3, M3, X3, R3, k3⟩ := l_next102 hP (cP S) (k + 1) (cP S - 1) (by omega) (by omega) (by omega) FU (fu_lt (by omega)) h1' _ (swapL l k (nxJ l k (cP S))) M2 (by rw [swapL_len]; exact o1) (by rw [setA_s]; exact rwl_swap RW (by omega) (by omega))
    rw [setA_set] at M3
    have kk : ∀ j, j < 1601 → g j = A 0 j := fun j hj => by rw [k3 j hj, setA_s, un (by omega), un (by omega)]
    refine ⟨h3, g, ?_, M3, X2.trans X3, ⟨fun p hp => ?_, fun p hp => ?_, fun p hp j y hj => ?_, R3⟩, kk⟩
    · unfold f_X9_nextLots_b42
      rw [if_pos (show (0 : Int32) ≤ enc (some k) from nI_pos' (by omega)), M.g 2 rfl, bs, f2, pz_1 h1]
      show F_X9_nextLots_55 FU 142 (nI k) (pz (cP S)) h = _
      rw [e1, e2, bs, M2.g 2 rfl, bs, f2, nI_1]
      show F_X9_nextLots_102 FU 142 (nI (k + 1)) (nI (cP S) - nI 1) h1' = _
      rw [pk_sub h1]
      exact e3
    · have hp : p < cP S := hp
      rw [kk _ (by omega)]; exact R.1 p hp
    · have hp : p < cP S := hp
      rw [kk _ (by omega)]; exact R.2.1 p hp
    · have hp : p < cP S := hp
      have h8 := Y.len hp
      have hj' : (cL S p)[j]? = some y := hj
      have := (List.getElem?_eq_some_iff.mp hj').1
      rw [kk _ (by omega)]; exact R.2.2.1 p hp j y hj
end NXT
theorem FS.trans {F G H : Nat → Int32} (a : FS F G) (b : FS G H) : FS F H := ⟨b.1.trans a.1, b.2.1.trans a.2.1, b.2.2.1.trans a.2.2.1, b.2.2.2.1.trans a.2.2.2.1, b.2.2.2.2.1.trans a.2.2.2.2.1, b.2.2.2.2.2.1.trans a.2.2.2.2.2.1, b.2.2.2.2.2.2.1.trans a.2.2.2.2.2.2.1, b.2.2.2.2.2.2.2.trans a.2.2.2.2.2.2.2⟩
theorem l_oddsM {S : CS} (Y : VS S) {p : Nat} (hp : p < cP S) (x : Int32) : ∀ n (l : List Nat) (ls : List (List Nat)), lexE (cP S) n l = some ls → (∀ l ∈ ls, okO (cP S) l = true) → ∀ fu, n < fu → ∀ (h : HP) (F : Nat → Int32) (A : AT) (c : Nat), MM h F A → F 1 = nI (cN S) → F 2 = nI (cP S) → RV (A 0) 1541 (setOd S l) → ∃ h' F' A', F_X9_odds_44 fu 142 (nI p) x (nI c) 1 h = some (nI (c + ls.countP (fun l => decide (gC (setOd S l) p = x))), h') ∧ MM h' F' A' ∧ FS F F' ∧ AS A A' ∧ Fr h h' 142 12 := by
  have hP := Y.p6
  intro n
  induction n with
  | zero => intro l ls h; cases h
  | succ n ih =>
    intro l ls hls hok fu hfu h F A c M f1 f2 R
    obtain ⟨fu, rfl⟩ := sx hfu
    have hin : l ∈ ls := by
      unfold lexE at hls
      split at hls
      · cases hls; exact List.mem_cons_self
      · obtain ⟨t, -, rfl⟩ := Option.map_eq_some_iff.mp hls
        exact List.mem_cons_self
    have okl := hok l hin
    have Yl : VS (setOd S l) := Y.ok okl
    obtain ⟨k1, g1, ⟨F1, A1, M1, fs, as, a0, -, -, hg⟩, X1⟩ := p_gaveX (x := 1541) (S := setOd S l) M Yl (by omega) R f1 f2
    have hgp : A1 2 p = gC (setOd S l) p := (hg p hp).1
    have R1 : RV (A1 0) 1541 (setOd S l) := R.eq Yl (fun j _ _ => a0 j)
    have pre : F_X9_odds_44 (fu + 1) 142 (nI p) x (nI c) 1 h = (f_X9_nextLots 142 k1).bind fun q1 => F_X9_odds_44 fu 142 (nI p) x (nI (c + if gC (setOd S l) p = x then 1 else 0)) q1.1 q1.2 := by
      show f_X9_odds_b44 _ _ _ _ _ _ _ = _
      unfold f_X9_odds_b44 f_X9_odds_b72
      rw [if_neg (show ¬ (1 : Int32) = 0 by decide)]
      show (f_X9_giveOut 142 (nI 1541) h).bind _ = _
      rw [g1, bs, M1.r 8 rfl, bs]
      show (ald k1 (143 + 2) (nI p)).bind _ = _
      rw [M1.ald 2 (by omega) (show p < 6 by omega), bs, hgp]
      by_cases hx : gC (setOd S l) p = x
      · rw [if_pos hx, if_pos hx, nI_1]
      · rw [if_neg hx, if_neg hx, show nI c + 0 = nI (c + 0) from nI_add c 0]
    obtain ⟨n1, n2⟩ := p_nextLots Y M1 (fs.2.1.trans f2) (by omega) okl R1
    rw [pre]
    unfold lexE at hls
    cases hnx : nextL (cP S) l with
    | none =>
      rw [hnx] at hls
      cases hls
      refine ⟨k1, F1, A1, ?_, M1, fs, as, X1⟩
      obtain ⟨fu, rfl⟩ := sx (show 0 < fu by omega)
      rw [n1 hnx, bs]
      show f_X9_odds_b44 _ _ _ _ _ 0 _ = _
      unfold f_X9_odds_b44
      rw [if_pos rfl, List.countP_cons]
      simp only [decide_eq_true_eq, List.countP_nil, Nat.zero_add]
    | some l' =>
      rw [hnx] at hls
      obtain ⟨t, ht, rfl⟩ := Option.map_eq_some_iff.mp hls
      obtain ⟨k2, g, e2, M2, X2, R2, kk⟩ := n2 l' hnx
      obtain ⟨k3, F3, A3, e3, M3, fs3, as3, X3⟩ := ih l' t ht (fun y hy => hok y (List.mem_cons_of_mem _ hy)) fu (by omega) k2 F1 _ (c + if gC (setOd S l) p = x then 1 else 0) M2 (fs.1.trans f1) (fs.2.1.trans f2) (by rw [setA_s]; exact R2)
      have as2 : AS A1 (setA A1 0 g) := ⟨fun j hj => by rw [setA_s]; exact kk j (by omega), setA_n A1 g (by omega), setA_n A1 g (by omega), setA_n A1 g (by omega), setA_n A1 g (by omega), setA_n A1 g (by omega)⟩
      refine ⟨k3, F3, A3, ?_, M3, fs.trans fs3, (as.trans as2).trans as3, (X1.trans X2).trans X3⟩
      rw [e2, bs]
      show F_X9_odds_44 fu 142 (nI p) x _ 1 k2 = _
      rw [e3, List.countP_cons]
      simp only [decide_eq_true_eq]
      congr 3
      omega
