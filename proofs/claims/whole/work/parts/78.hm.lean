/-! WHAT HOLDS AT THE START -/
def obB (h : HP) (a ci : Nat) (fs : List MV) : Bool := match h[a]? with
  | some (.inl (c, gs)) => decide (c = ci) && decide (gs = fs)
  | _ => false
def iaB (h : HP) (a n : Nat) : Bool := match h[a]? with
  | some (.inr (.inl (m, _))) => decide (m = n)
  | _ => false
def qaB (h : HP) (a : Nat) (w : Bool) (n : Nat) (b d : Nat) : Bool := match h[a]? with
  | some (.inr (.inr (v, m, f))) => decide (v = w) && (decide (m = n) && (List.range n).all (fun i => decide (f i = some (b + d * i))))
  | _ => false
theorem obB_s {h : HP} {a ci : Nat} {fs : List MV} (e : obB h a ci fs = true) : OB h a ci fs := by
  unfold obB at e
  unfold OB
  split at e
  · rename_i c gs hc
    simp only [Bool.and_eq_true, decide_eq_true_eq] at e
    rw [hc, e.1, e.2]
  · cases e
theorem iaB_s {h : HP} {a n : Nat} (e : iaB h a n = true) : ∃ f, IA h a n f := by
  unfold iaB at e
  unfold IA
  split at e
  · rename_i m f hc
    simp only [decide_eq_true_eq] at e
    exact ⟨f, by rw [hc, e]⟩
  · cases e
theorem qaB_s {h : HP} {a : Nat} {w : Bool} {n b d : Nat} (e : qaB h a w n b d = true) : ∃ f, QA h a w n f ∧ ∀ i, i < n → f i = some (b + d * i) := by
  unfold qaB at e
  unfold QA
  split at e
  · rename_i v m f hc
    simp only [Bool.and_eq_true, decide_eq_true_eq, List.all_eq_true, List.mem_range] at e
    obtain ⟨e1, e2, e3⟩ := e
    exact ⟨f, by rw [hc, e1, e2], e3⟩
  · cases e
def hoL (a : Nat) : List MV := [.inl 0, .inl 0, .inr (some (a + 1)), .inr (some (a + 2)), .inr (some (a + 3)), .inr (some (a + 4))]
def hxB (h : HP) (a : Nat) : Bool := obB h a 3 (hoL a) && (iaB h (a + 1) 6 && (iaB h (a + 2) 6 && (iaB h (a + 3) 48 && iaB h (a + 4) 6)))
theorem hxB_s {h : HP} {a : Nat} (e : hxB h a = true) : ∃ st am lk od, HR h a 0 0 st am lk od := by
  unfold hxB at e
  simp only [Bool.and_eq_true] at e
  obtain ⟨e0, e1, e2, e3, e4⟩ := e
  obtain ⟨st, s1⟩ := iaB_s e1
  obtain ⟨am, s2⟩ := iaB_s e2
  obtain ⟨lk, s3⟩ := iaB_s e3
  obtain ⟨od, s4⟩ := iaB_s e4
  exact ⟨st, am, lk, od, obB_s e0, s1, s2, s3, s4⟩
def seedB (h : HP) : Bool := match (h[(143 : Nat)]? : Option ME) with
  | some (.inr (.inl (_, f))) => decide (f 66 = 0)
  | _ => false
def FH : Nat → Int32 := fun k => if k = 7 then -1 else 0
def hmB (h : HP) : Bool := obB h 0 8 [.inr (some 1), .inr (some 3), .inr (some 8), .inr (some 13), .inr (some 19), .inr (some 21), .inr (some 123), .inr (some 128), .inr (some 129)] && (obB h 1 7 [.inl 0, .inl (-1), .inl 0, .inl 0, .inl 0, .inr (some 2)] && (iaB h 2 240 && (hxB h 3 && (hxB h 8 && (obB h 13 1 [.inl 0, .inl 0, .inl 0, .inr (some 14), .inr (some 15), .inr (some 16), .inr (some 17), .inr (some 18)] && ((List.range 5).all (fun i => iaB h (14 + i) 6) && (obB h 19 0 [.inl 0, .inl 0, .inr (some 20)] && (iaB h 20 6 && (obB h 21 6 [.inl 0, .inr (some 22)] && (qaB h 22 false 20 23 5 && ((List.range 20).all (fun i => hxB h (23 + 5 * i)) && (obB h 123 5 [.inl 0, .inl 0, .inr (some 124), .inr (some 125), .inr (some 126), .inr (some 127)] && (iaB h 124 6 && (iaB h 125 6 && (iaB h 126 20 && (iaB h 127 20 && (obB h 128 2 [.inl 0] && (qaB h 129 true 2 130 6 && (obB h 130 4 [.inl 0, .inl 0, .inr (some 131)] && (hxB h 131 && (obB h 136 4 [.inl 0, .inl 0, .inr (some 137)] && (hxB h 137 && (obB h 142 9 (mfs FH) && ((List.range 11).all (fun j => iaB h (143 + j) (mlen j)) && seedB h))))))))))))))))))))))))
set_option maxRecDepth 100000 in
theorem hm_ok : hmB HM = true := by decide +kernel
def S0 : CS := (0, 0, fun _ => none, fun _ => [], [])
theorem VSz : VS S0 := ⟨by decide, by decide, fun p hp => absurd hp (Nat.not_lt_zero _), fun p q hp => absurd hp (Nat.not_lt_zero _), fun p hp => absurd hp (Nat.not_lt_zero _), rfl, List.nodup_nil, fun q hq => by cases hq⟩
theorem inv_of {h : HP} (e : hmB h = true) : Inv h := by
  unfold hmB at e
  simp only [Bool.and_eq_true, List.all_eq_true, List.mem_range] at e
  obtain ⟨a0, a1, a2, a3, a8, a13, a14, a19, a20, a21, a22, a23, a123, a124, a125, a126, a127, a128, a129, a130, a131, a136, a137, a142, a143, asd⟩ := e
  have a2 := iaB_s a2
  obtain ⟨lt, a2⟩ := a2
  obtain ⟨st, am, lk, od, a3⟩ := hxB_s a3
  obtain ⟨st8, am8, lk8, od8, a8⟩ := hxB_s a8
  obtain ⟨g1, i14⟩ := iaB_s (a14 0 (by omega))
  obtain ⟨g2, i15⟩ := iaB_s (a14 1 (by omega))
  obtain ⟨g3, i16⟩ := iaB_s (a14 2 (by omega))
  obtain ⟨g4, i17⟩ := iaB_s (a14 3 (by omega))
  obtain ⟨g5, i18⟩ := iaB_s (a14 4 (by omega))
  obtain ⟨g20, i20⟩ := iaB_s a20
  obtain ⟨f22, q22, w22⟩ := qaB_s a22
  obtain ⟨g124, i124⟩ := iaB_s a124
  obtain ⟨g125, i125⟩ := iaB_s a125
  obtain ⟨g126, i126⟩ := iaB_s a126
  obtain ⟨g127, i127⟩ := iaB_s a127
  obtain ⟨f129, q129, w129⟩ := qaB_s a129
  obtain ⟨s1, m1, k1, o1, h131⟩ := hxB_s a131
  obtain ⟨s2, m2, k2, o2, h137⟩ := hxB_s a137
  have hA : ∀ j, ∃ f, j < 11 → IA h (143 + j) (mlen j) f := fun j => by
    by_cases hj : j < 11
    · obtain ⟨f, hf⟩ := iaB_s (a143 j hj)
      exact ⟨f, fun _ => hf⟩
    · exact ⟨fun _ => 0, fun z => absurd z hj⟩
  obtain ⟨A, hA⟩ : ∃ A : AT, ∀ j, j < 11 → IA h (143 + j) (mlen j) (A j) := ⟨fun j => Classical.choose (hA j), fun j => Classical.choose_spec (hA j)⟩
  have h66 : A 0 66 = 0 := by
    have h0 : h[143]? = some (.inr (.inl (mlen 0, A 0))) := hA 0 (by omega)
    unfold seedB at asd
    rw [h0] at asd
    simpa using asd
  have n0 : nI 0 = 0 := rfl
  have no : ∀ {p : Nat}, ¬ p < cP S0 := fun {p} => Nat.not_lt_zero p
  have V3 : HV h 3 S0 := HR.hv (S := S0) a3 ⟨fun p hp => absurd hp no, fun p hp => absurd hp no, fun p hp => absurd hp no, fun k q hq => by cases hq⟩
  have R0 : ∀ x, RV (A 0) x S0 := fun x => ⟨fun p hp => absurd hp no, fun p hp => absurd hp no, fun p hp => absurd hp no, fun k q hq => by cases hq⟩
  refine ⟨FH, A, S0, ⟨obB_s a142, hA⟩, obB_s a0, VSz, V3, rfl, rfl, R0 0, ⟨_, _, _, _, _, _, a8⟩, ⟨0, 0, 0, g1, g2, g3, g4, g5, obB_s a13, i14, i15, i16, i17, i18⟩, ⟨0, 0, g20, obB_s a19, i20⟩, ?_, ?_, ?_, ?_, ?_⟩
  · exact ⟨0, -1, 0, 0, 0, lt, by omega, obB_s a1, a2, rfl, rfl, fun j hj => absurd hj (Nat.not_lt_zero _)⟩
  · refine ⟨0, fun i => i, fun _ => S0, f22, by omega, obB_s a21, q22, rfl, fun i hi => ⟨w22 i hi, hi, ?_⟩, fun i j _ _ e => e, fun i hi => absurd hi (Nat.not_lt_zero _)⟩
    obtain ⟨s, m, k, o, hh⟩ := hxB_s (a23 i hi)
    exact ⟨_, _, _, _, _, _, hh⟩
  · exact ⟨0, 0, g124, g125, g126, g127, by omega, by omega, obB_s a123, i124, i125, i126, i127, rfl, rfl, fun i hi => absurd hi (Nat.not_lt_zero _), fun i hi => absurd hi (Nat.not_lt_zero _)⟩
  · exact ⟨0, obB_s a128, h66, by decide⟩
  · exact ⟨0, 0, 0, S0, S0, f129, q129, w129 0 (by omega), w129 1 (by omega), by omega, rfl, obB_s a130, obB_s a136, ⟨_, _, _, _, _, _, h131⟩, ⟨_, _, _, _, _, _, h137⟩, fun z => (by rw [Nat.zero_testBit] at z; cases z), fun z => (by rw [Nat.zero_testBit] at z; cases z)⟩
theorem inv_hm : Inv HM := inv_of hm_ok
