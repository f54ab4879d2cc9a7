theorem RK.warm {G : GT} {s U : State} (hW : s.WarmedH U.vm) (h : RK G s) : RK G U := ⟨va_K.moved hW.alike h.1, fun q hq => va_Nw.warmM hW (h.2.1 q hq), va_AO.moved hW.alike h.2.2.1, va_AO.moved hW.alike h.2.2.2⟩
theorem RK.blind {G : GT} {U : State} {g : JFrame} {mk : MethodId} {a : Array Value} (h : RK G U) : RK G (U.calling g mk a) := ⟨va_K.moved (u := U) (U := U.calling g mk a) (Vm.Alike.refl U.vm) h.1, fun q hq => va_Nw.same rfl (u := U) rfl (h.2.1 q hq), va_AO.moved (u := U) (U := U.calling g mk a) (Vm.Alike.refl U.vm) h.2.2.1, va_AO.moved (u := U) (U := U.calling g mk a) (Vm.Alike.refl U.vm) h.2.2.2⟩
theorem PP.blind {G : GT} {b : Nat} {z : Prop} {h : HP} {av : List Value} : FrameBlind (va_Pc av (PP G b z h)) := by
  intro a U g mk q
  obtain ⟨q0, qR, qK, qb⟩ := q
  exact ⟨q0, qR, qK.blind, qb⟩
theorem ST.low {G : GT} {b : Nat} {z : Prop} {s : State} {h : HP} {H : Heap} {locs : List Loc} (S : ST G b z s h H locs) : ST G b False s h H locs := ⟨⟨S.1.1, fun q => q.elim⟩, S.2⟩
section RR2
variable {p : Program} {l : Launch} {e : Env} {R : Room} {s : State} {m : MethodId} {args : Array Value} {below : List Frame} {meth : Method} {c : Code} {H : Heap} {locs : List Loc} {cells slots : Nat} {Q : State → Prop} {pc : Nat} {ls : Array Slot} {rest : List Value} {G : GT} {b : Nat} {z z' : Prop} {own : String} {cc : ByteArray} {nL : Nat} {rt : Option FieldType} {h h' : HP}
theorem ST.size (X : CX own cc nL rt p s m args meth c G b) (S : ST G b z s h H locs) : b ≤ H.size := Nat.le_trans X.2.2.2.2.2.2.2.2 S.2.1
theorem ST.pre (X : CX own cc nL rt p s m args meth c G b) (S : ST G b z s h H locs) {av : List Value} : ∀ U : State, U.heap = H → s.WarmedH U.vm → va_Pc av (PP G b z h) av.toArray U := fun U hU hW => ⟨rfl, by rw [hU]; exact S.1, RK.warm hW X.2.2.2.2.2.2.2.1, by rw [hU]; exact S.size X⟩
theorem r_qst (X : CX own cc nL rt p s m args meth c G b) (S : ST G b z s h H locs) {a x : Nat} {i : Int32} (hg : qst h a i x = some h') (hdg : decode cc pc = .ok (.aastore, 1)) (kk : ∀ (H1 : Heap) (locs1 : List Loc), ST G b z s h' H1 locs1 → W p l e R s m args below meth c H1 locs1 cells slots Q (F0 m (pc + 1) ls rest)) : W p l e R s m args below meth c H locs cells slots Q (F0 m pc ls (.ref (b + x) :: .int i :: .ref (b + a) :: rest)) := by
  obtain ⟨hx, hb, hml, hown, hts, hr, hlk, ⟨hK, -, -, -⟩, hbs⟩ := X
  obtain ⟨⟨w, n, f⟩, fs, h1, h2, h3, rfl⟩ := qst_spec hg
  have h2 : vp_in i n := h2
  have hlt : i.toNatClampNeg < n := Nat.not_le.mp fun q => h2 (Or.inr q)
  have h0 : ¬ i < 0 := fun q => h2 (Or.inl q)
  have hat := rw_at (G := G) (b := b) h1
  have hax := rw_at (G := G) (b := b) h3
  obtain ⟨r', hr', cellV, g1, g2, g3, -⟩ := S.1.1 x _ hax
  cases w with
  | false =>
    have hcls := (hK.1 3 _ rfl).2
    obtain ⟨kA, comp, k1, k2, k3, -⟩ := (hK.2 1 _ rfl).2
    have hcomp : comp = G.1.1 3 := Option.some.inj (k3.symm.trans hcls.1)
    subst hcomp
    obtain ⟨kC, hkC, -⟩ := hcls.2
    refine W.aast hx hb (S.1.1 a _ hat) (fun q h => by cases h) (fun h => by cases h) k1 k2 rfl hkC ⟨h0, by show _ < (arrV _ _ _).slots.size; rw [arrV_size]; exact hlt⟩ g1 (fun q h => by rw [g3] at h; cases h) (by rw [g2]; exact hkC) (by rw [g2]; exact va_assign hcls) rfl rfl hdg fun H1 e z1 oq => ?_
    refine kk H1 _ ⟨S.1.set (S.1.1.set rw_D hat ?_ oq) z1, S.2.put z1 oq (rw_D.2 a _ hat)⟩
    show H1[b + a]? = some (vp_cell _ _)
    rw [e]
    show some ((vp_cell _ _).setSlot _ _) = _
    rw [vp_cell_q, vp_cell_q, arrV_store]
    congr 2
    funext q
    by_cases hq : q = i.toNatClampNeg
    · subst hq
      simp [updV, va_up, va_rf]
    · simp [updV, va_up, hq]
  | true =>
    have hcls := (hK.1 4 _ rfl).2
    obtain ⟨kA, comp, k1, k2, k3, -⟩ := (hK.2 2 _ rfl).2
    have hcomp : comp = G.1.1 4 := Option.some.inj (k3.symm.trans hcls.1)
    subst hcomp
    obtain ⟨kC, hkC, -⟩ := hcls.2
    refine W.aast hx hb (S.1.1 a _ hat) (fun q h => by cases h) (fun h => by cases h) k1 k2 rfl hkC ⟨h0, by show _ < (arrV _ _ _).slots.size; rw [arrV_size]; exact hlt⟩ g1 (fun q h => by rw [g3] at h; cases h) (by rw [g2]; exact hkC) (by rw [g2]; exact va_assign hcls) rfl rfl hdg fun H1 e z1 oq => ?_
    refine kk H1 _ ⟨S.1.set (S.1.1.set rw_D hat ?_ oq) z1, S.2.put z1 oq (rw_D.2 a _ hat)⟩
    show H1[b + a]? = some (vp_cell _ _)
    rw [e]
    show some ((vp_cell _ _).setSlot _ _) = _
    rw [vp_cell_q, vp_cell_q, arrV_store]
    congr 2
    funext q
    by_cases hq : q = i.toNatClampNeg
    · subst hq
      simp [updV, va_up, va_rf]
    · simp [updV, va_up, hq]
/-- System.arraycopy of ints -/
def CP (own : String) (index : Nat) : Prop := Cond.methodLink own index arraycopyName ∈ tg ∧ Cond.native arraycopyName ∈ tg ∧ Cond.static arraycopyName ∈ tg ∧ Cond.initialized "java/lang/System" ∈ tg
theorem r_cpy (X : CX own cc nL rt p s m args meth c G b) (S : ST G b False s h H locs) (hsz : ls.size = nL) {a a2 index : Nat} {sp dp n : Int32} (hC : CP own index) (hg : cpy h a sp a2 dp n = some h') (hfr : 1 ≤ R.frames) (hlo : (rest.map fun v => v.category).sum + 18 ≤ R.locals) (hdg : decode cc pc = .ok (.invokestatic index, 3)) (kk : ∀ (H1 : Heap) (locs1 : List Loc), ST G b False s h' H1 locs1 → W p l e R s m args below meth c H1 locs1 cells slots Q (F0 m (pc + 3) ls rest)) : W p l e R s m args below meth c H locs cells slots Q (F0 m pc ls (.int n :: .int dp :: .ref (b + a2) :: .int sp :: .ref (b + a) :: rest)) := by
  obtain ⟨hx, hb, hml, hown, hts, hr, hlk, ⟨hK, -, -, -⟩, hbs⟩ := X
  obtain ⟨r, t, h1, h2, k1, k2, k3, k4, k5, rfl⟩ := cpy_spec hg
  exact va_copyi hx hb (by rw [hml, hsz]) hown (hts _ hC.1) (hts _ hC.2.1) (hts _ hC.2.2.1) (hts _ hC.2.2.2) hK S.1.1 rw_D S.2 a a2 0 0 (ty := .int) (rw_at h1) (rw_at h2) rfl rfl rfl k1 k2 k3 k4 k5 (fun i _ => rfl) hfr (by
    have : nativeFrameWords "java/lang/System" "arraycopy" 5 = 7 := by decide
    rw [this]; exact hlo) hdg (fun H1 locs1 hP hD hS => kk H1 locs1 ⟨RH.set0 hP, hS⟩)
/-- a cell is made -/
def NW (own : String) (index ci N : Nat) (fs : List MV) : Prop := ∃ (C : String) (T : u_T) (ty : Nat → FieldType), vwCl[ci]? = some (C, T, N) ∧ (∀ w ∈ u_ws C T N, w ∈ tg) ∧ (∀ k, k < N → parseFieldDescriptor (T k).2.2.1 = some (ty k)) ∧ Cond.classLink own index C ∈ tg ∧ Cond.instantiable C N ∈ tg ∧ Cond.initialized C ∈ tg ∧ ∀ b j, j < N → defaultValue (ty j) = vp_V (fs.map (rv b)) j
theorem RH.push {H1 : Heap} {e1 : ME} (S : RH G b z h H) (hz : H.size = b + h.length) (hz1 : H1.size = b + h.length + 1) (ho : ∀ q, q < b + h.length → H1[q]? = H[q]?) (he : va_at G.1 vwCl (b + h.length, re G b e1) H1) : RH G b z (h ++ [e1]) H1 := by
  refine ⟨?_, fun _ => by rw [hz1, List.length_append]; rfl⟩
  rw [rw_push]
  refine (S.1.kept (fun k x hx => ho x.1 (by have := (S.1 k x hx).lt; omega))).app (fun k x hx => ?_)
  have hz : k < 1 := (List.getElem?_eq_some_iff.mp hx).1
  rw [show k = 0 by omega] at hx
  cases hx
  exact he
theorem ST.grow {H1 : Heap} {e1 : ME} (X : CX own cc nL rt p s m args meth c G b) (S : ST G b True s h H locs) (hz1 : H1.size = b + h.length + 1) (ho : ∀ q, q < b + h.length → H1[q]? = H[q]?) (he : va_at G.1 vwCl (b + h.length, re G b e1) H1) : ST G b True s (h ++ [e1]) H1 locs := by
  have hz := S.1.2 trivial
  have h0 := S.2.1
  exact ⟨S.1.push hz hz1 ho he, ⟨by omega, fun x h1 h2 => (ho x (by omega)).trans (S.2.2.1 x h1 h2), S.2.2.2⟩⟩
theorem r_new (X : CX own cc nL rt p s m args meth c G b) (S : ST G b True s h H locs) {index ci N : Nat} {fs : List MV} (hN : NW own index ci N fs) (hcells : cells + 1 ≤ R.cells) (hslots : slots + N ≤ R.slots) (hdg : decode cc pc = .ok (.new index, 3)) (kk : ∀ (H1 : Heap) (locs1 : List Loc), ST G b True s (h ++ [.inl (ci, fs)]) H1 locs1 → W p l e R s m args below meth c H1 locs1 (cells + 1) (slots + N) Q (F0 m (pc + 3) ls (.ref (b + h.length) :: rest))) : W p l e R s m args below meth c H locs cells slots Q (F0 m pc ls rest) := by
  have X0 := X
  obtain ⟨hx, hb, hml, hown, hts, hr, hlk, ⟨hK, -, -, -⟩, hbs⟩ := X
  obtain ⟨C, T, ty, f1, f2, f3, f4, f5, f6, f7⟩ := hN
  have hKn := hK.1 ci _ f1
  refine W.newcK hx hb hown (hts _ f4) (hts _ f5) (hts _ f6) rfl hdg hcells hslots hKn.2.1 (S.1.2 trivial) fun H1 kC hkC e1 z1 o1 => ?_
  exact kk H1 locs (S.grow X0 z1 o1 ⟨_, f1, (u_born ty hts f2 hKn hkC e1 f3).to (f7 b)⟩)
theorem r_newI (X : CX own cc nL rt p s m args meth c G b) (S : ST G b True s h H locs) {n : Int32} {N : Nat} (harr : Cond.arrayClass .int ∈ tg) (hn : ¬ n < 0) (hN : n.toNatClampNeg = N) (hby : N * 4 ≤ 536870912) (hcells : cells + 1 ≤ R.cells) (hslots : slots + N ≤ R.slots) (hdg : decode cc pc = .ok (.newarray .int, 2)) (kk : ∀ (H1 : Heap) (locs1 : List Loc), ST G b True s (h ++ [.inr (.inl (N, fun _ => 0))]) H1 locs1 → W p l e R s m args below meth c H1 locs1 (cells + 1) (slots + N) Q (F0 m (pc + 2) ls (.ref (b + h.length) :: rest))) : W p l e R s m args below meth c H locs cells slots Q (F0 m pc ls (.int n :: rest)) := by
  have X0 := X
  obtain ⟨hx, hb, hml, hown, hts, hr, hlk, ⟨hK, -, -, -⟩, hbs⟩ := X
  refine va_newaK hx hb (atype := .int) (hts _ harr) rfl hdg rfl hn hN hby hcells hslots (S.1.2 trivial) fun H1 cA e1 z1 o1 hAr hNm => ?_
  have hcA : cA = G.2.1 := Option.some.inj (hNm.symm.trans (hK.2 0 _ rfl).2)
  subst hcA
  refine kk H1 locs (S.grow X0 z1 o1 ?_)
  show H1[b + h.length]? = some (vp_cell _ _)
  rw [vp_cell_i]
  exact e1
theorem r_newQ (X : CX own cc nL rt p s m args meth c G b) (S : ST G b True s h H locs) {n : Int32} {N index : Nat} (w : Bool) (hcl : Cond.classLink own index (if w then RX4 else RX3) ∈ tg) (hn : ¬ n < 0) (hN : n.toNatClampNeg = N) (hby : N * 4 ≤ 536870912) (hcells : cells + 1 ≤ R.cells) (hslots : slots + N ≤ R.slots) (hdg : decode cc pc = .ok (.anewarray index, 3)) (kk : ∀ (H1 : Heap) (locs1 : List Loc), ST G b True s (h ++ [.inr (.inr (w, N, fun _ => none))]) H1 locs1 → W p l e R s m args below meth c H1 locs1 (cells + 1) (slots + N) Q (F0 m (pc + 3) ls (.ref (b + h.length) :: rest))) : W p l e R s m args below meth c H locs cells slots Q (F0 m pc ls (.int n :: rest)) := by
  have X0 := X
  obtain ⟨hx, hb, hml, hown, hts, hr, hlk, ⟨hK, -, hA3, hA4⟩, hbs⟩ := X
  have hz := S.1.2 trivial
  subst hN
  have key : ∀ (H1 : Heap) (cA : ClassId), cA = (if w then G.2.2.2 else G.2.2.1) → H1 = H.push ({ cls := cA, slots := Array.replicate n.toNatClampNeg .null, vm := .none } : Cell) → ST G b True s (h ++ [.inr (.inr (w, n.toNatClampNeg, fun _ => none))]) H1 locs := by
    intro H1 cA hcA hH1
    have z1 : H1.size = b + h.length + 1 := by rw [hH1, Array.size_push, hz]
    have e1 : H1[b + h.length]? = some (arrV cA n.toNatClampNeg (fun _ => .null)) := by rw [hH1, ← hz, Array.getElem?_push_size, ← arrV_new]
    have o1 : ∀ q : Nat, q < b + h.length → H1[q]? = H[q]? := fun q hq => by rw [hH1, Array.getElem?_push, if_neg (by omega)]
    refine S.grow X0 z1 o1 ?_
    show H1[b + h.length]? = some (vp_cell _ _)
    rw [vp_cell_q, e1, hcA]
    rfl
  cases w with
  | false =>
    obtain ⟨kA', comp', k1, k2, k3, k4⟩ := (hK.2 1 _ rfl).2
    refine W.anew hx hb hown (hts _ hcl) (va_AO.use hA3) rfl hdg rfl hn hby hcells hslots fun cA kA comp f1 f2 f3 f4 => ?_
    have hS := key _ cA (Option.some.inj (f1.symm.trans k4)) rfl
    refine W.eq (g2 := F0 m (pc + 3) ls (.ref (b + h.length) :: rest)) (by rw [hz]) (kk _ locs hS)
  | true =>
    obtain ⟨kA', comp', k1, k2, k3, k4⟩ := (hK.2 2 _ rfl).2
    refine W.anew hx hb hown (hts _ hcl) (va_AO.use hA4) rfl hdg rfl hn hby hcells hslots fun cA kA comp f1 f2 f3 f4 => ?_
    have hS := key _ cA (Option.some.inj (f1.symm.trans k4)) rfl
    refine W.eq (g2 := F0 m (pc + 3) ls (.ref (b + h.length) :: rest)) (by rw [hz]) (kk _ locs hS)
/-! calls -/
theorem r_run (X : CX own cc nL rt p s m args meth c G b) (S : ST G b z s h H locs) {mc ms : Nat} {a : Array Value} {ro : Option Value} {st0 : List Value} (hr : va_Run p l e R s m args below meth c H locs cells slots mc ms (F0 m pc ls st0) rest (QQ G b z' ro h' a) (AB b)) (kk : ∀ (H1 : Heap) (locs1 : List Loc), ST G b z' s h' H1 locs1 → W p l e R s m args below meth c H1 locs1 (cells + mc) (slots + ms) Q (F0 m (pc + 3) ls (ro.toList ++ rest))) : W p l e R s m args below meth c H locs cells slots Q (F0 m pc ls st0) := by
  intro T hT X0
  obtain ⟨v, st₀, t, T', L, h0, X', hL, e1, e2, ⟨⟨hv, hR⟩, hz, hk⟩, st⟩ := hr T hT X0
  have hv : v = ro := by cases hv; rfl
  subst hv
  rw [h0] at hz hk
  obtain ⟨t2, a1, b1⟩ := kk T'.heap (locs ++ L) ⟨by rw [e1]; exact hR, Nat.le_trans S.2.1 (by rw [e1]; exact hz), fun q h1 h2 => by rw [e1, hk q (Nat.lt_of_lt_of_le h1 S.2.1) h2]; exact S.2.2.1 q h1 h2, fun q hq => by
      rcases List.mem_append.mp hq with h | h
      · exact S.2.2.2 q h
      · exact hL q h⟩ T' rfl X'
  exact ⟨t2, st t2 a1, b1⟩
/-- a called method: its name, code, its number of arguments; st: static, or the words for a call on an object -/
abbrev MT (l : Launch) (G : GT) (b : Nat) (z z' : Prop) (y : MethodName) (bytes : ByteArray) (maxL : Nat) (rt : Option FieldType) (rm : Room) (av : List Value) (h : HP) (ro : Option Value) (h' : HP) (mc ms : Nat) : Prop := Met l y (.code y bytes maxL rt :: tg) rm (va_Pc av (PP G b z h)) (QQ G b z' ro h') mc ms (AB b)
/-- what is fixed of a method that is called -/
def MY (y : MethodName) (bytes : ByteArray) (maxL : Nat) (rt : Option FieldType) (n : Nat) : Prop := Cond.code y bytes maxL rt ∈ tg ∧ Cond.initialized y.cls ∈ tg ∧ y.cls ≠ "java/lang/invoke/MethodHandle" ∧ y.cls ≠ "java/lang/invoke/VarHandle" ∧ (parseMethodDescriptor y.desc).map (fun d => d.parameters.length) = some n
def MV1 (y : MethodName) : Prop := Cond.instanceMethod y ∈ tg ∧ Cond.selects y.cls y y ∈ tg
theorem my_B {own : String} {y : MethodName} {bytes : ByteArray} {maxL n index : Nat} {rt' : Option FieldType} {rm : Room} {mc ms : Nat} (hts : ∀ w ∈ tg, w.before args s = true) (hy : MY y bytes maxL rt' n) (hl : Cond.methodLink own index y ∈ tg) (hrm : rm.cells = mc ∧ rm.slots = ms ∧ rm.frames + 1 ≤ R.frames ∧ 8 + (maxL + 11) + rm.locals ≤ R.locals) : CallB R s args own index y bytes maxL rt' (.code y bytes maxL rt' :: tg) rm mc ms n :=
  callB_of n hts (tg_code hy.1) rfl hrm.1 hrm.2.1 (hts _ hy.2.1) (hts _ hl) ⟨hy.2.2.1, hy.2.2.2.1, hy.2.2.2.2⟩ hrm.2.2
theorem my_N {own host : String} {y : MethodName} {bytes : ByteArray} {maxL n index : Nat} {rt' : Option FieldType} {rm : Room} {mc ms : Nat} (hK : RK G s) (hts : ∀ w ∈ tg, w.before args s = true) (hy : MY y bytes maxL rt' n) (hl : (own, index, y, host) ∈ nwL) (hrm : rm.cells = mc ∧ rm.slots = ms ∧ rm.frames + 1 ≤ R.frames ∧ 8 + (maxL + 11) + rm.locals ≤ R.locals) : va_CN R s args own index y host bytes maxL rt' (.code y bytes maxL rt' :: tg) rm mc ms n :=
  va_cnB n hts (tg_code hy.1) rfl hrm.1 hrm.2.1 (hK.2.1 _ hl) (hts _ hy.2.1) ⟨hy.2.2.1, hy.2.2.2.1, hy.2.2.2.2⟩ hrm.2.2
theorem r_recv (X : CX own cc nL rt p s m args meth c G b) (S : ST G b z s h H locs) {a ci N : Nat} {C : String} {T : u_T} (hc : vwCl[ci]? = some (C, T, N)) (ho : ∃ fs, h[a]? = some (.inl (ci, fs))) : ∃ cell : Cell, H[b + a]? = some cell ∧ cell.vm.isStatics = false ∧ s.vm.findClass C = some cell.cls := by
  obtain ⟨fs, ho⟩ := ho
  exact va_recv X.2.2.2.2.2.2.2.1.1 S.1.1 hc (rw_at ho)
theorem r_callV (X : CX own cc nL rt p s m args meth c G b) (S : ST G b z s h H locs) (hsz : ls.size = nL) {y : MethodName} {bytes : ByteArray} {maxL n index a ci N : Nat} {rt' : Option FieldType} {rm : Room} {mc ms : Nat} {As st0 : List Value} {ro : Option Value} {T : u_T} (hM : MT l G b z z' y bytes maxL rt' rm (.ref (b + a) :: As) h ro h' mc ms) (hy : MY y bytes maxL rt' n) (hv : MV1 y) (hl : Cond.methodLink own index y ∈ tg) (hc : vwCl[ci]? = some (y.cls, T, N)) (ho : ∃ fs, h[a]? = some (.inl (ci, fs))) (hrm : rm.cells = mc ∧ rm.slots = ms ∧ rm.frames + 1 ≤ R.frames ∧ 8 + (maxL + 11) + rm.locals ≤ R.locals) (hn : As.length = n) (hst : st0 = As.reverse ++ .ref (b + a) :: rest) (hw : (rest.map fun v => v.category).sum ≤ 8) (hdg : decode cc pc = .ok (.invokevirtual index, 3)) (hroom : cells + mc ≤ R.cells ∧ slots + ms ≤ R.slots) (kk : ∀ (H1 : Heap) (locs1 : List Loc), ST G b z' s h' H1 locs1 → W p l e R s m args below meth c H1 locs1 (cells + mc) (slots + ms) Q (F0 m (pc + 3) ls (ro.toList ++ rest))) : W p l e R s m args below meth c H locs cells slots Q (F0 m pc ls st0) := by
  have X0 := X
  obtain ⟨hx, hb, hml, hown, hts, hr, hlk, hK, hbs⟩ := X
  exact r_run X0 S (va_runV (As := As) (rest := rest) ⟨hx, hb, hml, hown, hts⟩ hM ⟨my_B hts hy hl hrm, hts _ hv.1, hts _ hv.2⟩ ⟨PP.blind, r_recv X0 S hc ho, S.pre X0⟩ rfl hn hsz hst (lv_room hw) hdg hroom) kk
theorem r_callVN (X : CX own cc nL rt p s m args meth c G b) (S : ST G b z s h H locs) (hsz : ls.size = nL) {y : MethodName} {host : String} {bytes : ByteArray} {maxL n index a ci N : Nat} {rt' : Option FieldType} {rm : Room} {mc ms : Nat} {As st0 : List Value} {ro : Option Value} {T : u_T} (hM : MT l G b z z' y bytes maxL rt' rm (.ref (b + a) :: As) h ro h' mc ms) (hy : MY y bytes maxL rt' n) (hv : MV1 y) (hl : (own, index, y, host) ∈ nwL) (hc : vwCl[ci]? = some (y.cls, T, N)) (ho : ∃ fs, h[a]? = some (.inl (ci, fs))) (hrm : rm.cells = mc ∧ rm.slots = ms ∧ rm.frames + 1 ≤ R.frames ∧ 8 + (maxL + 11) + rm.locals ≤ R.locals) (hn : As.length = n) (hst : st0 = As.reverse ++ .ref (b + a) :: rest) (hw : (rest.map fun v => v.category).sum ≤ 8) (hdg : decode cc pc = .ok (.invokevirtual index, 3)) (hroom : cells + mc ≤ R.cells ∧ slots + ms ≤ R.slots) (kk : ∀ (H1 : Heap) (locs1 : List Loc), ST G b z' s h' H1 locs1 → W p l e R s m args below meth c H1 locs1 (cells + mc) (slots + ms) Q (F0 m (pc + 3) ls (ro.toList ++ rest))) : W p l e R s m args below meth c H locs cells slots Q (F0 m pc ls st0) := by
  have X0 := X
  obtain ⟨hx, hb, hml, hown, hts, hr, hlk, hK, hbs⟩ := X
  exact r_run X0 S (va_runVN (As := As) (rest := rest) ⟨hx, hb, hml, hown, hts⟩ hM ⟨my_N hK hts hy hl hrm, hts _ hv.1, hts _ hv.2⟩ ⟨PP.blind, r_recv X0 S hc ho, S.pre X0⟩ rfl hn hsz hst (lv_room hw) hdg hroom) kk
theorem r_callS (X : CX own cc nL rt p s m args meth c G b) (S : ST G b z s h H locs) (hsz : ls.size = nL) {y : MethodName} {bytes : ByteArray} {maxL n index : Nat} {rt' : Option FieldType} {rm : Room} {mc ms : Nat} {As st0 : List Value} {ro : Option Value} (hM : MT l G b z z' y bytes maxL rt' rm As h ro h' mc ms) (hy : MY y bytes maxL rt' n) (hv : Cond.static y ∈ tg) (hl : Cond.methodLink own index y ∈ tg) (hrm : rm.cells = mc ∧ rm.slots = ms ∧ rm.frames + 1 ≤ R.frames ∧ 8 + (maxL + 11) + rm.locals ≤ R.locals) (hn : As.length = n) (hst : st0 = As.reverse ++ rest) (hw : (rest.map fun v => v.category).sum ≤ 8) (hdg : decode cc pc = .ok (.invokestatic index, 3)) (hroom : cells + mc ≤ R.cells ∧ slots + ms ≤ R.slots) (kk : ∀ (H1 : Heap) (locs1 : List Loc), ST G b z' s h' H1 locs1 → W p l e R s m args below meth c H1 locs1 (cells + mc) (slots + ms) Q (F0 m (pc + 3) ls (ro.toList ++ rest))) : W p l e R s m args below meth c H locs cells slots Q (F0 m pc ls st0) := by
  have X0 := X
  obtain ⟨hx, hb, hml, hown, hts, hr, hlk, hK, hbs⟩ := X
  exact r_run X0 S (va_runS (As := As) (rest := rest) ⟨hx, hb, hml, hown, hts⟩ hM ⟨my_B hts hy hl hrm, hts _ hv⟩ ⟨PP.blind, S.pre X0⟩ rfl hn hsz hst (lv_room hw) hdg hroom) kk
theorem r_callSN (X : CX own cc nL rt p s m args meth c G b) (S : ST G b z s h H locs) (hsz : ls.size = nL) {y : MethodName} {host : String} {bytes : ByteArray} {maxL n index : Nat} {rt' : Option FieldType} {rm : Room} {mc ms : Nat} {As st0 : List Value} {ro : Option Value} (hM : MT l G b z z' y bytes maxL rt' rm As h ro h' mc ms) (hy : MY y bytes maxL rt' n) (hv : Cond.static y ∈ tg) (hl : (own, index, y, host) ∈ nwL) (hrm : rm.cells = mc ∧ rm.slots = ms ∧ rm.frames + 1 ≤ R.frames ∧ 8 + (maxL + 11) + rm.locals ≤ R.locals) (hn : As.length = n) (hst : st0 = As.reverse ++ rest) (hw : (rest.map fun v => v.category).sum ≤ 8) (hdg : decode cc pc = .ok (.invokestatic index, 3)) (hroom : cells + mc ≤ R.cells ∧ slots + ms ≤ R.slots) (kk : ∀ (H1 : Heap) (locs1 : List Loc), ST G b z' s h' H1 locs1 → W p l e R s m args below meth c H1 locs1 (cells + mc) (slots + ms) Q (F0 m (pc + 3) ls (ro.toList ++ rest))) : W p l e R s m args below meth c H locs cells slots Q (F0 m pc ls st0) := by
  have X0 := X
  obtain ⟨hx, hb, hml, hown, hts, hr, hlk, hK, hbs⟩ := X
  exact r_run X0 S (va_runSN (As := As) (rest := rest) ⟨hx, hb, hml, hown, hts⟩ hM ⟨my_N hK hts hy hl hrm, hts _ hv, trivial⟩ ⟨PP.blind, S.pre X0⟩ rfl hn hsz hst (lv_room hw) hdg hroom) kk
theorem r_callI (X : CX own cc nL rt p s m args meth c G b) (S : ST G b z s h H locs) (hsz : ls.size = nL) {y : MethodName} {bytes : ByteArray} {maxL n index a : Nat} {rm : Room} {mc ms : Nat} {As st0 : List Value} (hM : MT l G b z z' y bytes maxL none rm (.ref (b + a) :: As) h none h' mc ms) (hy : MY y bytes maxL none n) (hi : y.name = "<init>") (hv : Cond.instanceMethod y ∈ tg) (hl : Cond.methodLink own index y ∈ tg) (hrm : rm.cells = mc ∧ rm.slots = ms ∧ rm.frames + 1 ≤ R.frames ∧ 8 + (maxL + 11) + rm.locals ≤ R.locals) (hn : As.length = n) (hst : st0 = As.reverse ++ .ref (b + a) :: rest) (hw : (rest.map fun v => v.category).sum ≤ 8) (hdg : decode cc pc = .ok (.invokespecial index, 3)) (hroom : cells + mc ≤ R.cells ∧ slots + ms ≤ R.slots) (kk : ∀ (H1 : Heap) (locs1 : List Loc), ST G b z' s h' H1 locs1 → W p l e R s m args below meth c H1 locs1 (cells + mc) (slots + ms) Q (F0 m (pc + 3) ls rest)) : W p l e R s m args below meth c H locs cells slots Q (F0 m pc ls st0) := by
  have X0 := X
  obtain ⟨hx, hb, hml, hown, hts, hr, hlk, hK, hbs⟩ := X
  exact r_run X0 S (va_runI (As := As) (rest := rest) ⟨hx, hb, hml, hown, hts⟩ hM ⟨my_B hts hy hl hrm, hi, hts _ hv⟩ ⟨PP.blind, S.pre X0⟩ rfl hn hsz hst (lv_room hw) hdg hroom) kk
theorem r_callIN (X : CX own cc nL rt p s m args meth c G b) (S : ST G b z s h H locs) (hsz : ls.size = nL) {y : MethodName} {host : String} {bytes : ByteArray} {maxL n index a : Nat} {rm : Room} {mc ms : Nat} {As st0 : List Value} (hM : MT l G b z z' y bytes maxL none rm (.ref (b + a) :: As) h none h' mc ms) (hy : MY y bytes maxL none n) (hi : y.name = "<init>") (hv : Cond.instanceMethod y ∈ tg) (hl : (own, index, y, host) ∈ nwL) (hrm : rm.cells = mc ∧ rm.slots = ms ∧ rm.frames + 1 ≤ R.frames ∧ 8 + (maxL + 11) + rm.locals ≤ R.locals) (hn : As.length = n) (hst : st0 = As.reverse ++ .ref (b + a) :: rest) (hw : (rest.map fun v => v.category).sum ≤ 8) (hdg : decode cc pc = .ok (.invokespecial index, 3)) (hroom : cells + mc ≤ R.cells ∧ slots + ms ≤ R.slots) (kk : ∀ (H1 : Heap) (locs1 : List Loc), ST G b z' s h' H1 locs1 → W p l e R s m args below meth c H1 locs1 (cells + mc) (slots + ms) Q (F0 m (pc + 3) ls rest)) : W p l e R s m args below meth c H locs cells slots Q (F0 m pc ls st0) := by
  have X0 := X
  obtain ⟨hx, hb, hml, hown, hts, hr, hlk, hK, hbs⟩ := X
  exact r_run X0 S (va_runIN (As := As) (rest := rest) ⟨hx, hb, hml, hown, hts⟩ hM ⟨my_N hK hts hy hl hrm, hi, hts _ hv⟩ ⟨PP.blind, S.pre X0⟩ rfl hn hsz hst (lv_room hw) hdg hroom) kk
/-! a body's end -/
abbrev ZI (p : Program) (l : Launch) (e : Env) (R : Room) (s : State) (m : MethodId) (args : Array Value) (below : List Frame) (meth : Method) (c : Code) (cc : ByteArray) (G : GT) (b : Nat) (z : Prop) (mc ms : Nat) (Q : State → Prop) (out : Int32 × HP) : Prop := ∀ (pc : Nat) (H : Heap) (locs : List Loc) (ls : Array Slot), decode cc pc = .ok (.ireturn, 1) → ST G b z s out.2 H locs → W p l e R s m args below meth c H locs mc ms Q (F0 m pc ls [.int out.1])
abbrev ZR (p : Program) (l : Launch) (e : Env) (R : Room) (s : State) (m : MethodId) (args : Array Value) (below : List Frame) (meth : Method) (c : Code) (cc : ByteArray) (G : GT) (b : Nat) (z : Prop) (mc ms : Nat) (Q : State → Prop) (out : Option Nat × HP) : Prop := ∀ (pc : Nat) (H : Heap) (locs : List Loc) (ls : Array Slot), decode cc pc = .ok (.areturn, 1) → ST G b z s out.2 H locs → W p l e R s m args below meth c H locs mc ms Q (F0 m pc ls [rv b (.inr out.1)])
abbrev ZV (p : Program) (l : Launch) (e : Env) (R : Room) (s : State) (m : MethodId) (args : Array Value) (below : List Frame) (meth : Method) (c : Code) (cc : ByteArray) (G : GT) (b : Nat) (z : Prop) (mc ms : Nat) (Q : State → Prop) (out : HP) : Prop := ∀ (pc : Nat) (H : Heap) (locs : List Loc) (ls : Array Slot), decode cc pc = .ok (.return_, 1) → ST G b z s out H locs → W p l e R s m args below meth c H locs mc ms Q (F0 m pc ls [])
theorem z_i (X : CX own cc nL (some .int) p s m args meth c G b) {out : Int32 × HP} {mc ms : Nat} : ZI p l e R s m args below meth c cc G b z mc ms (MQ below (QQ G b z (some (.int out.1)) out.2) args s mc ms (AB b)) out := by
  intro pc H locs ls hd S
  exact W.iret X.1 X.2.1 X.2.2.2.2.2.1 (fun t ht hW => ⟨⟨rfl, by rw [ht]; exact S.1⟩, S.2.F ht⟩) S.2.2.2 hd X.2.2.2.2.2.2.1
theorem z_z (X : CX own cc nL (some .boolean) p s m args meth c G b) {out : Int32 × HP} {mc ms : Nat} (hn : out.1 = 0 ∨ out.1 = 1) : ZI p l e R s m args below meth c cc G b z mc ms (MQ below (QQ G b z (some (.int out.1)) out.2) args s mc ms (AB b)) out := by
  intro pc H locs ls hd S
  exact W.zret X.1 X.2.1 X.2.2.2.2.2.1 (by rcases hn with h | h <;> rw [h] <;> rfl) (fun t ht hW => ⟨⟨rfl, by rw [ht]; exact S.1⟩, S.2.F ht⟩) S.2.2.2 hd X.2.2.2.2.2.2.1
theorem z_v (X : CX own cc nL none p s m args meth c G b) {out : HP} {mc ms : Nat} : ZV p l e R s m args below meth c cc G b z mc ms (MQ below (QQ G b z none out) args s mc ms (AB b)) out := by
  intro pc H locs ls hd S
  exact W.vret X.1 X.2.1 X.2.2.2.2.2.1 (fun t ht hW => ⟨⟨rfl, by rw [ht]; exact S.1⟩, S.2.F ht⟩) S.2.2.2 hd X.2.2.2.2.2.2.1
theorem z_r {n : String} (X : CX own cc nL (some (.object n)) p s m args meth c G b) {out : Option Nat × HP} {mc ms : Nat} : ZR p l e R s m args below meth c cc G b z mc ms (MQ below (QQ G b z (some (rv b (.inr out.1))) out.2) args s mc ms (AB b)) out := by
  intro pc H locs ls hd S
  refine W.aret X.1 X.2.1 X.2.2.2.2.2.1 (Or.inl ⟨n, rfl⟩) ?_ (fun t ht hW => ⟨⟨rfl, by rw [ht]; exact S.1⟩, S.2.F ht⟩) S.2.2.2 hd X.2.2.2.2.2.2.1
  cases out.1 with
  | none => exact Or.inl rfl
  | some k => exact Or.inr ⟨b + k, rfl⟩
end RR2
/-- a contract out of a walk of the body -/
theorem met_of {l : Launch} {G : GT} {b : Nat} {z z' : Prop} {y : MethodName} {cc : ByteArray} {maxL : Nat} {rt : Option FieldType} {rm : Room} {av : List Value} {h : HP} {ro : Option Value} {h' : HP} {mc ms : Nat} (hy : plainName y.cls = true) (hle : (lg_sl av).length ≤ maxL)
    (body : ∀ (p : Program) (e : Env) (s : State) (m : MethodId) (below : List Frame) (meth : Method) (c : Code) (ls : Array Slot), CX y.cls cc maxL rt p s m av.toArray meth c G b → meth.name = y.name → ST G b z s h s.heap [] → lv_has ls maxL (lv_args 0 av) → W p l e rm s m av.toArray below meth c s.heap [] 0 0 (MQ below (QQ G b z' ro h') av.toArray s mc ms (AB b)) (F0 m 0 ls [])) : MT l G b z z' y cc maxL rt rm av h ro h' mc ms := by
  refine Met.ofW (cc := cc) (maxL := maxL) (ret := rt) hy rfl ?_
  intro p e s m args below meth c s₁ B hml hv
  obtain ⟨rfl, hR, hK, hbz⟩ := hv
  have hts := atoms_spec (ws := .code y cc maxL rt :: tg) B.pre
  have hl := lv_entry av hle
  rw [lg_entry_eq]
  exact body p e s m below meth c _ ⟨B.exec, B.bytes, hml, findClass_of_methodNamed B.named, fun w hw => hts w (List.mem_cons_of_mem _ hw), B.returns, B.notSynchronized, hK, hbz⟩ (name_of_methodNamed B.named B.method).1 ⟨hR, va_S.rf⟩ hl
