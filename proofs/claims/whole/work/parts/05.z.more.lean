abbrev hpush (h : HP) (x : ME) : HP := h ++ [x]
theorem us_in {C : String} {T : u_T} {N : Nat} (h : ∀ k, k < N → u_lay C T k ∈ tg) : ∀ w ∈ u_ws C T N, w ∈ tg := by
  intro w hw
  obtain ⟨k, hk, rfl⟩ := List.mem_map.mp hw
  exact h k (List.mem_range.mp hk)
theorem sw_out {x : Int32} {n : Nat} (hn : n < 2 ^ 31) (h : ∀ k, k < n → ¬ x = nI k) : x.toInt < 0 ∨ (n : Int) - 1 < x.toInt := by
  by_cases h0 : x.toInt < 0
  · exact Or.inl h0
  · refine Or.inr ?_
    have hx : ¬ x < 0 := fun q => h0 (by simpa using Int32.lt_iff_toInt_lt.mp q)
    obtain ⟨j, hj, rfl⟩ := nI_of hx
    rw [nI_toInt hj]
    by_cases hjn : j < n
    · exact absurd rfl (h j hjn)
    · omega
abbrev ZZ (p : Program) (l : Launch) (e : Env) (R : Room) (s : State) (m : MethodId) (args : Array Value) (below : List Frame) (meth : Method) (c : Code) (cc : ByteArray) (G : GT) (b : Nat) (z : Prop) (mc ms : Nat) (Q : State → Prop) (out : Int32 × HP) : Prop := ∀ (pc : Nat) (H : Heap) (locs : List Loc) (ls : Array Slot), decode cc pc = .ok (.ireturn, 1) → ST G b z s out.2 H locs → (out.1 = 0 ∨ out.1 = 1) → W p l e R s m args below meth c H locs mc ms Q (F0 m pc ls [.int out.1])
theorem z_zz {p : Program} {l : Launch} {e : Env} {R : Room} {s : State} {m : MethodId} {args : Array Value} {below : List Frame} {meth : Method} {c : Code} {G : GT} {b : Nat} {z : Prop} {own : String} {cc : ByteArray} {nL : Nat} (X : CX own cc nL (some .boolean) p s m args meth c G b) {out : Int32 × HP} {mc ms : Nat} : ZZ p l e R s m args below meth c cc G b z mc ms (MQ below (QQ G b z (some (.int out.1)) out.2) args s mc ms (AB b)) out := fun pc H locs ls hd S hn => z_z X hn pc H locs ls hd S
theorem lk_ne {x k : Int32} {n : Int} (h : ¬ x = k) (hk : k.toInt = n) : ¬ n = x.toInt := fun q => h (Int32.toInt_inj.mp (by rw [hk]; exact q.symm))
