theorem s_odds : SK2 f_X8_odds f_X9_odds Inv := by
  intro h x y hI
  obtain ⟨F, A, S, M, I⟩ := id hI
  have Y := I.2.1
  have hP := Y.p6
  have hN := Y.n8
  obtain ⟨t, e1, e2, ht⟩ := both_person M I x
  obtain ⟨u, d1, -, hu⟩ := both_roomN M I y
  have e8 : f_X8_odds 0 x y h = if bI t = 0 then some (-1000000001, h) else if bI u = 0 then some (-1000000001, h) else (f_X3_copy 8 3 h).bind fun h7 => (gR h7 0 8 2).bind fun r8 => (f_X3_orders r8 h7).bind fun q9 => F_X8_odds_50 FU 0 x y q9.1 0 0 q9.2 := by
    unfold f_X8_odds f_X8_odds_e f_X8_odds_b22
    rw [I.1.chk, I.1.r 1 rfl, bs, e1, bs]
    show (if bI t = 0 then some (-1000000001, h) else (gR h 0 8 1).bind fun r3 => (f_X3_hasRoomOrNone r3 y h).bind _) = _
    rw [I.1.r 1 rfl, bs, d1, bs]
    show (if bI t = 0 then some (-1000000001, h) else if bI u = 0 then some (-1000000001, h) else (gR h 0 8 2).bind fun r5 => (gR h 0 8 1).bind _) = _
    rw [I.1.r 2 rfl, bs, I.1.r 1 rfl, bs]
  have e9 : ∀ h1 F1 A1, MM h1 F1 A1 → F1 1 = nI (cN S) → F1 2 = nI (cP S) → f_X9_odds 142 x y h1 = if bI t = 0 then some (-1000000001, h1) else if bI u = 0 then some (-1000000001, h1) else f_X9_odds_b24 142 x y h1 := by
    intro h1 F1 A1 M1 f1 f2
    unfold f_X9_odds f_X9_odds_e f_X9_odds_b21
    rw [M1.chk, e2 h1 F1 A1 M1 f2, bs]
    by_cases hy : y = -1
    · have hut : u = true := hu.mpr (Or.inl hy)
      rw [if_pos hy, hut, if_neg (show ¬ bI true = 0 from b1n)]
    · obtain ⟨v, d2, hv⟩ := p_isRoom M1 Y f1 y
      have huv : v = u := bool_ext hv ⟨fun z => (hu.mp z).resolve_left hy, fun z => hu.mpr (Or.inr z)⟩
      rw [if_neg hy]
      show (if bI t = 0 then some (-1000000001, h1) else (f_X9_isRoom 142 y h1).bind _) = _
      rw [d2, bs, huv]
  cases t with
  | false => exact ⟨-1000000001, h, h, by rw [e8]; rfl, by rw [e9 h F A M I.2.2.2.1 I.2.2.2.2.1]; rfl, hI⟩
  | true =>
    cases u with
    | false => exact ⟨-1000000001, h, h, by rw [e8]; rfl, by rw [e9 h F A M I.2.2.2.1 I.2.2.2.2.1]; rfl, hI⟩
    | true =>
      obtain ⟨p, hp, rfl⟩ := ht.mp rfl
      rw [if_neg b1n, if_neg b1n] at e8
      obtain ⟨ls, l1, l2, l3, l4⟩ := orders_all (P := cP S) (by omega) hP
      have hfc := fcP_le (cP S) (by omega)
      obtain ⟨h1, p1, V1, X1⟩ := p_copy I.2.2.2.2.2.2.1 I.2.2.1 Y (by omega)
      have c1 : C0 h1 := I.1.eq (X1 0 (by omega))
      have p2 := p_orders V1 Y (by omega)
      obtain ⟨h2, p3, H2, D2, X2⟩ := l_oddsC Y hp y (z := fcP (cP S)) (by omega) l4 (fcP (cP S)) 0 (by omega) FU (fu_lt (by omega)) h1 (cO S) 0 c1 V1 (I.2.2.2.2.2.2.2.1.eq (fun j _ _ => X1 j (by omega)))
      have XX : ∀ j, (j < 8 ∨ 19 ≤ j) → h2[j]? = h[j]? := fun j hj => (X2 j (by omega)).trans (X1 j (by omega))
      have I2 : INV h2 F A S := I.scr (fun j _ hj => XX j (by omega)) H2 D2 (I.2.2.2.2.2.2.2.2.1.mv (XX _ (by omega)) (XX _ (by omega)))
      have M2 : MM h2 F A := M.fr (fun j hj => XX j (by omega) : Fr h h2 8 11) (by omega)
      obtain ⟨k1, q1, N1, Z1⟩ := p_copyRow M2 (x := 0) (y := 1541) (by omega) (by omega) (by omega)
      obtain ⟨k2, g, q2, N2, Z2, g1, g2⟩ := p_begin (x := 1541) (by omega) N1
      rw [setA_set] at N2
      have R : RV (cpR (A 0) 0 1541) 1541 S := I.2.2.2.2.2.1.to Y (fun j hj => cpR_in (by omega))
      have gg : ∀ j, j < 1601 → g j = cpR (A 0) 0 1541 j := fun j hj => by rw [g2 j (by omega), setA_s]
      have R2 : RV g 1541 (setOd S (List.range (cP S))) := by
        refine ⟨fun p hp => ?_, fun p hp => ?_, fun p hp j z hj => ?_, fun j z hj => ?_⟩
        · have hp : p < cP S := hp
          rw [gg _ (by omega)]; exact R.1 p hp
        · have hp : p < cP S := hp
          rw [gg _ (by omega)]; exact R.2.1 p hp
        · have hp : p < cP S := hp
          have h8 := Y.len hp
          have hj' : (cL S p)[j]? = some z := hj
          have := (List.getElem?_eq_some_iff.mp hj').1
          rw [gg _ (by omega)]; exact R.2.2.1 p hp j z hj
        · have hj : (List.range (cP S))[j]? = some z := hj
          obtain ⟨hj1, hj2⟩ := List.getElem?_eq_some_iff.mp hj
          rw [List.length_range] at hj1
          rw [List.getElem_range] at hj2
          rw [g1 j (by omega), hj2]
      obtain ⟨k3, F3, A3, q3, N3, fs3, as3, Z3⟩ := l_oddsM Y hp y 720 (List.range (cP S)) ls l1 l2 FU (fu_lt (by omega)) k2 F _ 0 N2 I.2.2.2.1 I.2.2.2.2.1 (by rw [setA_s]; exact R2)
      rw [Nat.zero_add] at p3 q3
      have hcount : ls.countP (fun l => decide (gC (setOd S l) p = y)) = ((List.range' 0 (fcP (cP S))).map (ordG (cP S))).countP (fun l => decide (gC (setOd S l) p = y)) := by
        rw [← List.range_eq_range']
        exact l3.countP_eq _
      have as2 : AS A (setA A 0 g) := ⟨fun j hj => by rw [setA_s, gg j (by omega), cpR_out (by omega)], setA_n A g (by omega), setA_n A g (by omega), setA_n A g (by omega), setA_n A g (by omega), setA_n A g (by omega)⟩
      refine ⟨nI (ls.countP (fun l => decide (gC (setOd S l) p = y))), h2, k3, ?_, ?_, ⟨F3, A3, S, N3, I2.mdl (fun j hj => ((Z3 j (by omega)).trans (Z2 j (by omega))).trans (Z1 j (by omega))) fs3 (as2.trans as3)⟩⟩
      · rw [hcount, e8, p1, bs, c1.r 2 rfl, bs, p2, bs]
        exact p3
      · rw [e9 h2 F A M2 I.2.2.2.1 I.2.2.2.2.1, if_neg b1n, if_neg b1n]
        unfold f_X9_odds_b24
        show (f_X9_copyRow 142 (nI 0) (nI 1541) h2).bind _ = _
        rw [q1, bs]
        show (f_X9_beginLots 142 (nI 1541) k1).bind _ = _
        rw [q2, bs]
        exact q3
