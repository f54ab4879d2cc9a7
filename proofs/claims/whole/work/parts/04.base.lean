/-! THE SMALL HEAP: cells by their place; the machine's heap holds the cell k at the address b + k. Its rows are exact: a method's contract speaks of the small heap alone. -/
abbrev MV : Type := Int32 ⊕ Option Nat
abbrev ME : Type := (Nat × List MV) ⊕ ((Nat × (Nat → Int32)) ⊕ (Bool × Nat × (Nat → Option Nat)))
abbrev HP : Type := List ME
abbrev GT : Type := va_G × ClassId × ClassId × ClassId
def FU : Nat := 4000
/-- a cell is an object of that kind -/
def ck {α : Type} (h : HP) (a ci : Nat) (x : Option α) : Option α := match h[a]? with
  | some (.inl o) => if o.1 = ci then x else none
  | _ => none
def gI (h : HP) (a ci k : Nat) : Option Int32 := match h[a]? with
  | some (.inl o) => if o.1 = ci then (match o.2[k]? with | some (.inl x) => some x | _ => none) else none
  | _ => none
def gR (h : HP) (a ci k : Nat) : Option Nat := match h[a]? with
  | some (.inl o) => if o.1 = ci then (match o.2[k]? with | some (.inr (some x)) => some x | _ => none) else none
  | _ => none
def pF (h : HP) (a ci k : Nat) (v : MV) : Option HP := match h[a]? with
  | some (.inl o) => if o.1 = ci ∧ k < o.2.length then some (h.set a (.inl (ci, o.2.set k v))) else none
  | _ => none
abbrev pI (h : HP) (a ci k : Nat) (x : Int32) : Option HP := pF h a ci k (.inl x)
abbrev pR (h : HP) (a ci k : Nat) (r : Nat) : Option HP := pF h a ci k (.inr (some r))
def ald (h : HP) (a : Nat) (i : Int32) : Option Int32 := match h[a]? with
  | some (.inr (.inl r)) => if i < 0 ∨ r.1 ≤ i.toNatClampNeg then none else some (r.2 i.toNatClampNeg)
  | _ => none
def ast (h : HP) (a : Nat) (i x : Int32) : Option HP := match h[a]? with
  | some (.inr (.inl r)) => if i < 0 ∨ r.1 ≤ i.toNatClampNeg then none else some (h.set a (.inr (.inl (r.1, upd r.2 i.toNatClampNeg x))))
  | _ => none
def alen (h : HP) (a : Nat) : Option Int32 := match h[a]? with
  | some (.inr (.inl r)) => some (Int32.ofNat r.1)
  | some (.inr (.inr r)) => some (Int32.ofNat r.2.1)
  | _ => none
def qld (h : HP) (a : Nat) (i : Int32) : Option Nat := match h[a]? with
  | some (.inr (.inr r)) => if i < 0 ∨ r.2.1 ≤ i.toNatClampNeg then none else r.2.2 i.toNatClampNeg
  | _ => none
/-- a row of references: w false: of houses (kind 3), true: of images (kind 4) -/
def qst (h : HP) (a : Nat) (i : Int32) (x : Nat) : Option HP := match h[a]? with
  | some (.inr (.inr r)) => if i < 0 ∨ r.2.1 ≤ i.toNatClampNeg then none else ck h x (if r.1 then 4 else 3) (some (h.set a (.inr (.inr (r.1, r.2.1, va_up r.2.2 i.toNatClampNeg (some x))))))
  | _ => none
def cpy (h : HP) (a : Nat) (sp : Int32) (a2 : Nat) (dp n : Int32) : Option HP := match h[a]?, h[a2]? with
  | some (.inr (.inl r)), some (.inr (.inl t)) => if sp < 0 ∨ dp < 0 ∨ n < 0 ∨ r.1 < sp.toNatClampNeg + n.toNatClampNeg ∨ t.1 < dp.toNatClampNeg + n.toNatClampNeg then none else some (h.set a2 (.inr (.inl (t.1, va_cpy r.2 t.2 sp.toNatClampNeg dp.toNatClampNeg n.toNatClampNeg))))
  | _, _ => none
def om {α : Type} (o : Option Nat) (A : α) (B : Nat → α) : α := match o with
  | none => A
  | some r => B r
theorem om_n {α : Type} {A : Option α} {B : Nat → Option α} {r : α} (h : om none A B = some r) : A = some r := h
theorem om_s {α : Type} {A : Option α} {B : Nat → Option α} {r : α} {k : Nat} (h : om (some k) A B = some r) : B k = some r := h
theorem ob {α β : Type} {x : Option α} {f : α → Option β} {r : β} (h : x.bind f = some r) : ∃ a, x = some a ∧ f a = some r := Option.bind_eq_some_iff.mp h
theorem ip {α : Type} {c : Prop} [Decidable c] {A B : Option α} {r : α} (h : (if c then A else B) = some r) (hc : c) : A = some r := by rw [if_pos hc] at h; exact h
theorem im {α : Type} {c : Prop} [Decidable c] {A B : Option α} {r : α} (h : (if c then A else B) = some r) (hc : ¬ c) : B = some r := by rw [if_neg hc] at h; exact h
theorem ig {α : Type} {c : Prop} [Decidable c] {A : Option α} {r : α} (h : (if c then A else none) = some r) : c ∧ A = some r := by
  by_cases hc : c
  · rw [if_pos hc] at h; exact ⟨hc, h⟩
  · rw [if_neg hc] at h; cases h
theorem ign {α : Type} {c : Prop} [Decidable c] {A : Option α} {r : α} (h : (if c then none else A) = some r) : ¬ c ∧ A = some r := by
  by_cases hc : c
  · rw [if_pos hc] at h; cases h
  · rw [if_neg hc] at h; exact ⟨hc, h⟩
theorem nn {α : Type} {o : α} {P : Prop} (h : none = some o) : P := nomatch h
theorem ck_spec {α : Type} {h : HP} {a ci : Nat} {x : Option α} {r : α} (hg : ck h a ci x = some r) : (∃ fs, h[a]? = some (.inl (ci, fs))) ∧ x = some r := by
  unfold ck at hg
  split at hg
  · rename_i o ho
    obtain ⟨h1, h2⟩ := ig hg
    exact ⟨⟨o.2, by rw [ho, ← h1]⟩, h2⟩
  · cases hg
theorem gI_spec {h : HP} {a ci k : Nat} {v : Int32} (hg : gI h a ci k = some v) : ∃ fs, h[a]? = some (.inl (ci, fs)) ∧ fs[k]? = some (.inl v) := by
  unfold gI at hg
  split at hg
  · rename_i o ho
    obtain ⟨h1, h2⟩ := ig hg
    refine ⟨o.2, by rw [ho, ← h1], ?_⟩
    split at h2
    · rename_i x hx
      cases h2
      exact hx
    · cases h2
  · cases hg
theorem gR_spec {h : HP} {a ci k v : Nat} (hg : gR h a ci k = some v) : ∃ fs, h[a]? = some (.inl (ci, fs)) ∧ fs[k]? = some (.inr (some v)) := by
  unfold gR at hg
  split at hg
  · rename_i o ho
    obtain ⟨h1, h2⟩ := ig hg
    refine ⟨o.2, by rw [ho, ← h1], ?_⟩
    split at h2
    · rename_i x hx
      cases h2
      exact hx
    · cases h2
  · cases hg
theorem pF_spec {h h' : HP} {a ci k : Nat} {v : MV} (hg : pF h a ci k v = some h') : ∃ fs, h[a]? = some (.inl (ci, fs)) ∧ k < fs.length ∧ h' = h.set a (.inl (ci, fs.set k v)) := by
  unfold pF at hg
  split at hg
  · rename_i o ho
    obtain ⟨⟨h1, h2⟩, h3⟩ := ig hg
    exact ⟨o.2, by rw [ho, ← h1], h2, (Option.some.inj h3).symm⟩
  · cases hg
theorem ald_spec {h : HP} {a : Nat} {i v : Int32} (hg : ald h a i = some v) : ∃ r, h[a]? = some (.inr (.inl r)) ∧ vp_in i r.1 ∧ v = r.2 i.toNatClampNeg := by
  unfold ald at hg
  split at hg
  · rename_i r hr
    obtain ⟨h1, h2⟩ := ign hg
    exact ⟨r, hr, h1, (Option.some.inj h2).symm⟩
  · cases hg
theorem ast_spec {h h' : HP} {a : Nat} {i x : Int32} (hg : ast h a i x = some h') : ∃ r, h[a]? = some (.inr (.inl r)) ∧ vp_in i r.1 ∧ h' = h.set a (.inr (.inl (r.1, upd r.2 i.toNatClampNeg x))) := by
  unfold ast at hg
  split at hg
  · rename_i r hr
    obtain ⟨h1, h2⟩ := ign hg
    exact ⟨r, hr, h1, (Option.some.inj h2).symm⟩
  · cases hg
theorem qld_spec {h : HP} {a v : Nat} {i : Int32} (hg : qld h a i = some v) : ∃ r, h[a]? = some (.inr (.inr r)) ∧ vp_in i r.2.1 ∧ r.2.2 i.toNatClampNeg = some v := by
  unfold qld at hg
  split at hg
  · rename_i r hr
    obtain ⟨h1, h2⟩ := ign hg
    exact ⟨r, hr, h1, h2⟩
  · cases hg
theorem qst_spec {h h' : HP} {a x : Nat} {i : Int32} (hg : qst h a i x = some h') : ∃ r fs, h[a]? = some (.inr (.inr r)) ∧ vp_in i r.2.1 ∧ h[x]? = some (.inl (if r.1 then 4 else 3, fs)) ∧ h' = h.set a (.inr (.inr (r.1, r.2.1, va_up r.2.2 i.toNatClampNeg (some x)))) := by
  unfold qst at hg
  split at hg
  · rename_i r hr
    obtain ⟨h1, h2⟩ := ign hg
    obtain ⟨⟨fs, h3⟩, h4⟩ := ck_spec h2
    exact ⟨r, fs, hr, h1, h3, (Option.some.inj h4).symm⟩
  · cases hg
theorem cpy_spec {h h' : HP} {a a2 : Nat} {sp dp n : Int32} (hg : cpy h a sp a2 dp n = some h') : ∃ r t, h[a]? = some (.inr (.inl r)) ∧ h[a2]? = some (.inr (.inl t)) ∧ ¬ sp < 0 ∧ ¬ dp < 0 ∧ ¬ n < 0 ∧ sp.toNatClampNeg + n.toNatClampNeg ≤ r.1 ∧ dp.toNatClampNeg + n.toNatClampNeg ≤ t.1 ∧ h' = h.set a2 (.inr (.inl (t.1, va_cpy r.2 t.2 sp.toNatClampNeg dp.toNatClampNeg n.toNatClampNeg))) := by
  unfold cpy at hg
  split at hg
  · rename_i r t hr ht
    obtain ⟨h1, h2⟩ := ign hg
    simp only [not_or] at h1
    obtain ⟨k1, k2, k3, k4, k5⟩ := h1
    exact ⟨r, t, hr, ht, k1, k2, k3, Nat.not_lt.mp k4, Nat.not_lt.mp k5, (Option.some.inj h2).symm⟩
  · cases hg
/-! the machine's heap holds it -/
def rv (b : Nat) (v : MV) : Value := match v with
  | .inl x => .int x
  | .inr o => va_rf (o.map (fun k => b + k))
def re (G : GT) (b : Nat) (e : ME) : va_E := match e with
  | .inl o => .inr (o.1, o.2.map (rv b))
  | .inr (.inl a) => .inl (G.2.1, a.1, .inl a.2)
  | .inr (.inr q) => .inl (if q.1 then G.2.2.2 else G.2.2.1, q.2.1, .inr (.inr (.inr (.inr (fun j => (q.2.2 j).map (fun k => b + k))))))
def rwW (G : GT) (b : Nat) (h : HP) : va_W := h.mapIdx (fun k e => (b + k, re G b e))
theorem rw_get {G : GT} {b : Nat} {h : HP} (k : Nat) : (rwW G b h)[k]? = (h[k]?).map (fun e => (b + k, re G b e)) := by
  simp [rwW, List.getElem?_mapIdx]
theorem rw_len {G : GT} {b : Nat} {h : HP} : (rwW G b h).length = h.length := by simp [rwW]
theorem rw_at {G : GT} {b : Nat} {h : HP} {k : Nat} {e : ME} (hk : h[k]? = some e) : (rwW G b h)[k]? = some (b + k, re G b e) := by rw [rw_get, hk]; rfl
theorem rw_set {G : GT} {b : Nat} {h : HP} (k : Nat) (e : ME) : rwW G b (h.set k e) = (rwW G b h).set k (b + k, re G b e) := by
  apply List.ext_getElem?
  intro i
  rw [rw_get, List.getElem?_set, List.getElem?_set, rw_len, rw_get]
  by_cases hk : k = i
  · subst hk
    by_cases hl : k < h.length
    · simp [hl]
    · simp [hl]
  · simp [hk]
theorem rw_push {G : GT} {b : Nat} {h : HP} (e : ME) : rwW G b (h ++ [e]) = rwW G b h ++ [(b + h.length, re G b e)] := by
  simp [rwW, List.mapIdx_append]
def AB (b : Nat) : Nat → Prop := fun q => b ≤ q
theorem rw_D {G : GT} {b : Nat} {h : HP} : va_D (AB b) (rwW G b h) := by
  refine ⟨fun i j x y hx hy hxy => ?_, fun k q hk => ?_⟩
  · rw [rw_get] at hx hy
    obtain ⟨e1, -, rfl⟩ := Option.map_eq_some_iff.mp hx
    obtain ⟨e2, -, rfl⟩ := Option.map_eq_some_iff.mp hy
    have : b + i = b + j := hxy
    omega
  · rw [rw_get] at hk
    obtain ⟨e1, -, rfl⟩ := Option.map_eq_some_iff.mp hk
    exact Nat.le_add_right b k
/-- z: the machine's heap ends where the small heap ends (wanted where cells are made) -/
def RH (G : GT) (b : Nat) (z : Prop) (h : HP) (H : Heap) : Prop := va_P G.1 vwCl (rwW G b h) H ∧ (z → H.size = b + h.length)
abbrev RT (G : GT) : List (ClassId × FieldType) := [(G.2.1, .int), (G.2.2.1, .object RX3), (G.2.2.2, .object RX4)]
def RK (G : GT) (U : State) : Prop := va_K G.1 vwCl (RT G) U ∧ (∀ q ∈ nwL, va_Nw (nwC q) U) ∧ va_AO RX3 U ∧ va_AO RX4 U
def ST (G : GT) (b : Nat) (z : Prop) (s : State) (h : HP) (H : Heap) (locs : List Loc) : Prop := RH G b z h H ∧ va_S (AB b) s.heap H locs
/-- the words that every method's contract takes: all of the tables that a call keeps -/
def tg : List Cond := lw_tbl.filter goodWord
theorem tg_good : GoodIn tg tg := fun w h => ⟨h, good_of_word (List.mem_filter.mp h).2⟩
theorem tg_in {w : Cond} (i : Nat) (h : lw_tbl[i]? = some w) (hg : goodWord w = true) : w ∈ tg := List.mem_filter.mpr ⟨List.mem_of_getElem? h, hg⟩
theorem tg_code {w : Cond} (h : w ∈ tg) : GoodIn tg (w :: tg) := fun v hv => (List.mem_cons.mp hv).elim (fun e => by rw [e]; exact tg_good w h) (tg_good v)
/-- what a method's body stands on -/
def CX (own : String) (cc : ByteArray) (nL : Nat) (rt : Option FieldType) (p : Program) (s : State) (m : MethodId) (args : Array Value) (meth : Method) (c : Code) (G : GT) (b : Nat) : Prop :=
  p.tables.exec = Jvm.exec ∧ c.code = cc ∧ c.maxLocals = nL ∧ s.vm.findClass own = some m.cls ∧ (∀ w ∈ tg, w.before args s = true) ∧ meth.sig.returnType = rt ∧ meth.locks = false ∧ RK G s ∧ b ≤ s.heap.size
/-- a field by its link: kind ci, place k -/
def FL (own : String) (index ci k : Nat) : Prop := ∃ (C : String) (T : u_T) (N : Nat), vwCl[ci]? = some (C, T, N) ∧ (∀ w ∈ u_ws C T N, w ∈ tg) ∧ k < N ∧ Cond.fieldLink own index (T k).1 (T k).2.1 (T k).2.2.1 ∈ tg
def FP (own : String) (index ci k : Nat) (fin : Bool) (ty : FieldType) : Prop := ∃ (C : String) (T : u_T) (N : Nat) (ty0 : Nat → FieldType), vwCl[ci]? = some (C, T, N) ∧ (∀ w ∈ u_ws C T N, w ∈ tg) ∧ k < N ∧ Cond.fieldLink own index (T k).1 (T k).2.1 (T k).2.2.1 ∈ tg ∧ (∀ k, k < N → parseFieldDescriptor (T k).2.2.1 = some (ty0 k)) ∧ (∀ a, a < N → ∀ b, b < N → a ≠ b → (T a).2.1 ≠ (T b).2.1) ∧ (T k).2.2.2 = fin ∧ (fin = true → (T k).1 = own) ∧ parseFieldDescriptor (T k).2.2.1 = some ty
/-- a contract's end: the answer, the small heap behind it -/
def QQ (G : GT) (b : Nat) (z : Prop) (ro : Option Value) (h' : HP) : Array Value → State → Outcome → State → Prop := fun _ st oc t => (oc = .returned ro ∧ RH G b z h' t.heap) ∧ va_F (AB b) st t
abbrev PP (G : GT) (b : Nat) (z : Prop) (h : HP) : State → Prop := fun U => RH G b z h U.heap ∧ RK G U ∧ b ≤ U.heap.size
section RR
variable {p : Program} {l : Launch} {e : Env} {R : Room} {s : State} {m : MethodId} {args : Array Value} {below : List Frame} {meth : Method} {c : Code} {H : Heap} {locs : List Loc} {cells slots : Nat} {Q : State → Prop} {pc : Nat} {ls : Array Slot} {rest : List Value} {G : GT} {b : Nat} {z : Prop} {own : String} {cc : ByteArray} {nL : Nat} {rt : Option FieldType} {h : HP}
theorem r_getI (X : CX own cc nL rt p s m args meth c G b) (S : ST G b z s h H locs) {a ci k index : Nat} {v : Int32} (hF : FL own index ci k) (hg : gI h a ci k = some v) (hdg : decode cc pc = .ok (.getfield index, 3)) (kk : W p l e R s m args below meth c H locs cells slots Q (F0 m (pc + 3) ls (.int v :: rest))) : W p l e R s m args below meth c H locs cells slots Q (F0 m pc ls (.ref (b + a) :: rest)) := by
  obtain ⟨hx, hb, hml, hown, hts, hr, hlk, ⟨hK, -, -, -⟩, hbs⟩ := X
  obtain ⟨C, T, N, f1, f2, f3, f4⟩ := hF
  obtain ⟨fs, h1, h2⟩ := gI_spec hg
  exact va_get hx hb hts f2 hown hK S.1.1 a (rw_at h1) f1 k f3 (hts _ f4) (fun _ h9 => h9) (v := .int v) (by rw [List.getElem?_map, h2]; rfl) hdg kk
theorem r_getR (X : CX own cc nL rt p s m args meth c G b) (S : ST G b z s h H locs) {a ci k index v : Nat} (hF : FL own index ci k) (hg : gR h a ci k = some v) (hdg : decode cc pc = .ok (.getfield index, 3)) (kk : W p l e R s m args below meth c H locs cells slots Q (F0 m (pc + 3) ls (.ref (b + v) :: rest))) : W p l e R s m args below meth c H locs cells slots Q (F0 m pc ls (.ref (b + a) :: rest)) := by
  obtain ⟨hx, hb, hml, hown, hts, hr, hlk, ⟨hK, -, -, -⟩, hbs⟩ := X
  obtain ⟨C, T, N, f1, f2, f3, f4⟩ := hF
  obtain ⟨fs, h1, h2⟩ := gR_spec hg
  exact va_get hx hb hts f2 hown hK S.1.1 a (rw_at h1) f1 k f3 (hts _ f4) (fun _ h9 => h9) (v := .ref (b + v)) (by rw [List.getElem?_map, h2]; rfl) hdg kk
theorem RH.set {H1 : Heap} {a : Nat} {e1 : ME} (S : RH G b z h H) (hP : va_P G.1 vwCl ((rwW G b h).set a (b + a, re G b e1)) H1) (hz : H1.size = H.size) : RH G b z (h.set a e1) H1 := by
  refine ⟨by rw [rw_set]; exact hP, fun hh => ?_⟩
  rw [hz, S.2 hh, List.length_set]
theorem RH.set0 {H1 : Heap} {a : Nat} {e1 : ME} (hP : va_P G.1 vwCl ((rwW G b h).set a (b + a, re G b e1)) H1) : RH G b False (h.set a e1) H1 := ⟨by rw [rw_set]; exact hP, fun hh => hh.elim⟩
theorem r_put (X : CX own cc nL rt p s m args meth c G b) (S : ST G b z s h H locs) {a ci k index : Nat} {w : MV} {v : Value} {h' : HP} {fin : Bool} {ty : FieldType} (hF : FP own index ci k fin ty) (hnm : fin = true → meth.name = "<init>") (hv : rv b w = v) (hn : narrow ty v = v) (hfit : fits ty v = true) (hg : pF h a ci k w = some h') (hdg : decode cc pc = .ok (.putfield index, 3)) (kk : ∀ (H1 : Heap) (locs1 : List Loc), ST G b z s h' H1 locs1 → W p l e R s m args below meth c H1 locs1 cells slots Q (F0 m (pc + 3) ls rest)) : W p l e R s m args below meth c H locs cells slots Q (F0 m pc ls (v :: .ref (b + a) :: rest)) := by
  obtain ⟨hx, hb, hml, hown, hts, hr, hlk, ⟨hK, -, -, -⟩, hbs⟩ := X
  obtain ⟨C, T, N, ty0, f1, f2, f3, f4, f5, f6, f7, f8, f9⟩ := hF
  obtain ⟨fs, h1, h2, rfl⟩ := pF_spec hg
  have hap := va_apart (own := own) hts f2 ty0 f5 f6 hK f1
  have hat := rw_at (G := G) (b := b) h1
  obtain ⟨r, g1, cell, q1, q2, q3, q4⟩ := S.1.1 a _ hat
  have hr : r = (C, T, N) := Option.some.inj (g1.symm.trans f1)
  subst hr
  obtain ⟨hS, hfc, kC, hkC, hkind⟩ := hK.1 ci _ f1
  obtain ⟨cf, kf, fi, f, hi, hsl⟩ := hS k f3
  have hlay := hts _ (f2 _ (u_in_lay f3))
  have hst := (u_facts hfc hkC (u_lays hts f2 f3) hi).1
  have hl : k < (fs.map (rv b)).length := by rw [List.length_map]; exact h2
  have hmap : (fs.set k w).map (rv b) = (fs.map (rv b)).set k v := by rw [← hv, List.map_set]
  cases fin with
  | false =>
    unfold u_lay at hlay
    rw [if_neg (by rw [f7]; decide)] at hlay
    have h6 := u_store hfc hkC hkind hlay hi f9 hn hfit
    refine W.putK hx hb (f := f) ⟨hown, hts _ f4, ⟨_, _, _, hi⟩, hst⟩ (by rw [q2]; exact h6) q1 q3 (by rw [hsl]; exact k2_hasslot (q4 k f3)) rfl rfl hdg fun H' e1 e2 e3 => ?_
    rw [hsl] at e1 ⊢
    refine kk H' _ ⟨S.1.set ?_ e2, S.2.put e2 e3 (rw_D.2 a _ hat)⟩
    show va_P G.1 vwCl ((rwW G b h).set a (b + a, .inr (ci, (fs.set k w).map (rv b)))) H'
    rw [hmap]
    exact S.1.1.set rw_D hat ⟨_, f1, t_OB.to (V := updV (vp_V (fs.map (rv b))) k v) ⟨_, e1, q2, q3, t_set q4 hap f3 v⟩ (fun j _ => vp_updV_set hl v j)⟩ e3
  | true =>
    unfold u_lay at hlay
    rw [if_pos f7] at hlay
    have hcf : m.cls = cf := by
      obtain ⟨_, _, c', _, _, _, -, -, hf', -, -, -, hown2, -⟩ := Cond.laysFinal_spec hlay
      have e1 : c' = cf := by have := hi.symm.trans hf'; simp at this; exact this.1.symm
      rw [f8 rfl] at hown2
      rw [← e1]; exact Option.some.inj (hown.symm.trans hown2)
    have h6 := u_fits hfc hkC hkind (Or.inr hlay) hi f9 hn hfit
    refine W.putFinK hx hb hown (hts _ f4) hi hst hcf (hnm rfl) (by rw [q2]; exact h6) q1 q3 (by rw [hsl]; exact k2_hasslot (q4 k f3)) rfl rfl hdg fun H' e1 e2 e3 => ?_
    rw [hsl] at e1 ⊢
    refine kk H' _ ⟨S.1.set ?_ e2, S.2.put e2 e3 (rw_D.2 a _ hat)⟩
    show va_P G.1 vwCl ((rwW G b h).set a (b + a, .inr (ci, (fs.set k w).map (rv b)))) H'
    rw [hmap]
    exact S.1.1.set rw_D hat ⟨_, f1, t_OB.to (V := updV (vp_V (fs.map (rv b))) k v) ⟨_, e1, q2, q3, t_set q4 hap f3 v⟩ (fun j _ => vp_updV_set hl v j)⟩ e3
theorem r_ald (X : CX own cc nL rt p s m args meth c G b) (S : ST G b z s h H locs) {a : Nat} {i v : Int32} (hg : ald h a i = some v) (hdg : decode cc pc = .ok (.iaload, 1)) (kk : W p l e R s m args below meth c H locs cells slots Q (F0 m (pc + 1) ls (.int v :: rest))) : W p l e R s m args below meth c H locs cells slots Q (F0 m pc ls (.int i :: .ref (b + a) :: rest)) := by
  obtain ⟨hx, hb, hml, hown, hts, hr, hlk, ⟨hK, -, -, -⟩, hbs⟩ := X
  obtain ⟨r, h1, h2, rfl⟩ := ald_spec hg
  exact va_iald hx hb hK S.1.1 a 0 (rw_at h1) rfl h2 hdg kk
theorem r_ast (X : CX own cc nL rt p s m args meth c G b) (S : ST G b False s h H locs) {a : Nat} {i x : Int32} {h' : HP} (hg : ast h a i x = some h') (hdg : decode cc pc = .ok (.iastore, 1)) (kk : ∀ (H1 : Heap) (locs1 : List Loc), ST G b False s h' H1 locs1 → W p l e R s m args below meth c H1 locs1 cells slots Q (F0 m (pc + 1) ls rest)) : W p l e R s m args below meth c H locs cells slots Q (F0 m pc ls (.int x :: .int i :: .ref (b + a) :: rest)) := by
  obtain ⟨hx, hb, hml, hown, hts, hr, hlk, ⟨hK, -, -, -⟩, hbs⟩ := X
  obtain ⟨r, h1, h2, rfl⟩ := ast_spec hg
  exact va_iast hx hb hK S.1.1 rw_D S.2 a 0 (rw_at h1) rfl h2 hdg (fun H1 locs1 hP hD hS => kk H1 locs1 ⟨RH.set0 hP, hS⟩)
theorem r_alen (X : CX own cc nL rt p s m args meth c G b) (S : ST G b z s h H locs) {a : Nat} {v : Int32} (hg : alen h a = some v) (hdg : decode cc pc = .ok (.arraylength, 1)) (kk : W p l e R s m args below meth c H locs cells slots Q (F0 m (pc + 1) ls (.int v :: rest))) : W p l e R s m args below meth c H locs cells slots Q (F0 m pc ls (.ref (b + a) :: rest)) := by
  obtain ⟨hx, hb, hml, hown, hts, hr, hlk, ⟨hK, -, -, -⟩, hbs⟩ := X
  unfold alen at hg
  split at hg
  · rename_i r h1
    exact va_alen hx hb hK S.1.1 a 0 (rw_at h1) rfl (Option.some.inj hg) hdg kk
  · rename_i r h1
    obtain ⟨w, n, f⟩ := r
    cases w
    · exact va_alen hx hb hK S.1.1 a 1 (rw_at h1) rfl (Option.some.inj hg) hdg kk
    · exact va_alen hx hb hK S.1.1 a 2 (rw_at h1) rfl (Option.some.inj hg) hdg kk
  · cases hg
theorem r_qld (X : CX own cc nL rt p s m args meth c G b) (S : ST G b z s h H locs) {a v : Nat} {i : Int32} (hg : qld h a i = some v) (hdg : decode cc pc = .ok (.aaload, 1)) (kk : W p l e R s m args below meth c H locs cells slots Q (F0 m (pc + 1) ls (.ref (b + v) :: rest))) : W p l e R s m args below meth c H locs cells slots Q (F0 m pc ls (.int i :: .ref (b + a) :: rest)) := by
  obtain ⟨hx, hb, hml, hown, hts, hr, hlk, ⟨hK, -, -, -⟩, hbs⟩ := X
  obtain ⟨⟨w, n, f⟩, h1, h2, h3⟩ := qld_spec hg
  have h3 : f i.toNatClampNeg = some v := h3
  have hk : W p l e R s m args below meth c H locs cells slots Q (F0 m (pc + 1) ls (va_rf ((f i.toNatClampNeg).map (fun k => b + k)) :: rest)) := by rw [h3]; exact kk
  cases w
  · exact va_aldq hx hb hK S.1.1 a 1 (rw_at h1) rfl h2 hdg hk
  · exact va_aldq hx hb hK S.1.1 a 2 (rw_at h1) rfl h2 hdg hk
end RR
