/-! a line about a WELL, a FARM -/
theorem DR_well {X Y X' Y' : jMem} {f v1 v2 : Int} (h : DR X Y) (hf : 0 ≤ f ∧ f < 7) (h1 : 1 ≤ v1 ∧ v1 ≤ 30) (h2 : 0 ≤ v2 ∧ v2 ≤ 60) (hx : ∀ p, p ≠ 2 → X' p = up (up X (6 + 1) f v1) (6 + 2) f v2 p) (hy : Y' 6 = up (up Y 6 (60 + f) v1) 6 (67 + f) v2 6) : DR X' Y' := by
  obtain ⟨⟨p0, p1, p2', p3, p4, p5, p6⟩, d0, d1, d2, d3⟩ := h
  have e : ∀ k, Y' 6 k = if k = 67 + f then v2 else if k = 60 + f then v1 else Y 6 k := fun k => by
    rw [hy]
    by_cases a : k = 67 + f
    · rw [up_hit rfl a, if_pos a]
    · rw [up_col a, if_neg a]
      by_cases b : k = 60 + f
      · rw [up_hit rfl b, if_pos b]
      · rw [up_col b, if_neg b]
  have eo : ∀ k, k < 60 ∨ 74 ≤ k → Y' 6 k = Y 6 k := fun k hk => by rw [e k, if_neg (by omega), if_neg (by omega)]
  refine ⟨⟨?_, ?_, fun i i0 i1 => ?_, fun i i0 i1 => ?_, fun i i0 i1 => ?_, fun i i0 i1 => ?_, fun i i0 i1 => ?_⟩, ?_, ?_, ?_, fun i i0 i1 => ?_⟩
  · rw [hx 6 (by omega), up_row (by omega), up_row (by omega), eo 1 (by omega)]; exact p0
  · rw [hx 6 (by omega), up_row (by omega), up_row (by omega), eo 2 (by omega)]; exact p1
  · rw [hx (6 + 1) (by omega), up_row (by omega), e (60 + i), if_neg (by omega)]
    by_cases c : i = f
    · rw [up_hit rfl c, if_pos (by omega)]
    · rw [up_col c, if_neg (by omega)]; exact p2' i i0 i1
  · rw [hx (6 + 2) (by omega), e (67 + i)]
    by_cases c : i = f
    · rw [up_hit rfl c, if_pos (by omega)]
    · rw [up_col c, up_row (by omega), if_neg (by omega), if_neg (by omega)]; exact p3 i i0 i1
  · rw [hx (6 + 3) (by omega), up_row (by omega), up_row (by omega), eo (46 + i) (by omega)]; exact p4 i i0 i1
  · rw [hx (6 + 4) (by omega), up_row (by omega), up_row (by omega), eo (74 + i) (by omega)]; exact p5 i i0 i1
  · rw [hx (6 + 5) (by omega), up_row (by omega), up_row (by omega), eo (53 + i) (by omega)]; exact p6 i i0 i1
  · rw [eo 0 (by omega)]; exact d0
  · rw [eo 1 (by omega)]; exact d1
  · rw [eo 2 (by omega)]; exact d2
  · obtain ⟨a1, a2, a3, a4, a5, a6⟩ := d3 i i0 i1
    rw [eo (46 + i) (by omega), eo (74 + i) (by omega), eo (53 + i) (by omega)]
    refine ⟨?_, ?_, a3, a4, a5, a6⟩
    · rw [e (60 + i), if_neg (by omega)]
      by_cases c : i = f
      · rw [if_pos (by omega)]; omega
      · rw [if_neg (by omega)]; exact a1
    · rw [e (67 + i)]
      by_cases c : i = f
      · rw [if_pos (by omega)]; omega
      · rw [if_neg (by omega), if_neg (by omega)]; exact a2
theorem DR_farm {X Y X' Y' : jMem} {f v1 v2 : Int} (h : DR X Y) (hf : 0 ≤ f ∧ f < 7) (h1 : 0 ≤ v1 ∧ v1 ≤ 5) (h2 : 0 ≤ v2 ∧ v2 ≤ 9) (hx : ∀ p, p ≠ 2 → X' p = up (up X (6 + 3) f v1) (6 + 4) f v2 p) (hy : Y' 6 = up (up Y 6 (46 + f) v1) 6 (74 + f) v2 6) : DR X' Y' := by
  obtain ⟨⟨p0, p1, p2', p3, p4, p5, p6⟩, d0, d1, d2, d3⟩ := h
  have e : ∀ k, Y' 6 k = if k = 74 + f then v2 else if k = 46 + f then v1 else Y 6 k := fun k => by
    rw [hy]
    by_cases a : k = 74 + f
    · rw [up_hit rfl a, if_pos a]
    · rw [up_col a, if_neg a]
      by_cases b : k = 46 + f
      · rw [up_hit rfl b, if_pos b]
      · rw [up_col b, if_neg b]
  have eo : ∀ k, k < 46 ∨ (53 ≤ k ∧ k < 74) → Y' 6 k = Y 6 k := fun k hk => by rw [e k, if_neg (by omega), if_neg (by omega)]
  refine ⟨⟨?_, ?_, fun i i0 i1 => ?_, fun i i0 i1 => ?_, fun i i0 i1 => ?_, fun i i0 i1 => ?_, fun i i0 i1 => ?_⟩, ?_, ?_, ?_, fun i i0 i1 => ?_⟩
  · rw [hx 6 (by omega), up_row (by omega), up_row (by omega), eo 1 (by omega)]; exact p0
  · rw [hx 6 (by omega), up_row (by omega), up_row (by omega), eo 2 (by omega)]; exact p1
  · rw [hx (6 + 1) (by omega), up_row (by omega), up_row (by omega), eo (60 + i) (by omega)]; exact p2' i i0 i1
  · rw [hx (6 + 2) (by omega), up_row (by omega), up_row (by omega), eo (67 + i) (by omega)]; exact p3 i i0 i1
  · rw [hx (6 + 3) (by omega), up_row (by omega), e (46 + i), if_neg (by omega)]
    by_cases c : i = f
    · rw [up_hit rfl c, if_pos (by omega)]
    · rw [up_col c, if_neg (by omega)]; exact p4 i i0 i1
  · rw [hx (6 + 4) (by omega), e (74 + i)]
    by_cases c : i = f
    · rw [up_hit rfl c, if_pos (by omega)]
    · rw [up_col c, up_row (by omega), if_neg (by omega), if_neg (by omega)]; exact p5 i i0 i1
  · rw [hx (6 + 5) (by omega), up_row (by omega), up_row (by omega), eo (53 + i) (by omega)]; exact p6 i i0 i1
  · rw [eo 0 (by omega)]; exact d0
  · rw [eo 1 (by omega)]; exact d1
  · rw [eo 2 (by omega)]; exact d2
  · obtain ⟨a1, a2, a3, a4, a5, a6⟩ := d3 i i0 i1
    rw [eo (60 + i) (by omega), eo (67 + i) (by omega), eo (53 + i) (by omega)]
    refine ⟨a1, a2, ?_, ?_, a5, a6⟩
    · rw [e (46 + i), if_neg (by omega)]
      by_cases c : i = f
      · rw [if_pos (by omega)]; omega
      · rw [if_neg (by omega)]; exact a3
    · rw [e (74 + i)]
      by_cases c : i = f
      · rw [if_pos (by omega)]; omega
      · rw [if_neg (by omega), if_neg (by omega)]; exact a4
theorem DR_same {X X' Y Y' : jMem} (h : DR X Y) (hx : ∀ p, 6 ≤ p → p ≤ 11 → X' p = X p) (hy : Y' 6 = Y 6) : DR X' Y' := by
  unfold DR; rw [hy]; exact ⟨PR_congr h.1 (fun p a b => hx p a (by omega)), h.2⟩
/-- the two cells, read in vain -/
theorem pair_F {N : Nat} {X : jMem} {q1 q2 lo1 hi1 lo2 hi2 : Int} (h : X 2 4 ≠ 0) (hq1 : 6 ≤ q1 ∧ q1 ≤ 11) (hq2 : 6 ≤ q2 ∧ q2 ≤ 11) : ∃ X', (jb1 (To_takeNumber N lo1 hi1 X) fun r20 M21 => jchk (0 ≤ (0 : Int) ∧ (0 : Int) < 7) <| jlt (up M21 q1 0 r20) fun M23 => jb1 (To_takeNumber N lo2 hi2 M23) fun r24 M25 => jchk (0 ≤ (0 : Int) ∧ (0 : Int) < 7) <| jlt (up M25 q2 0 r24) fun M27 => some ((0 : Int), M27)) = some (0, X') ∧ XD X X' ∧ X' 2 = X 2 := by
  unfold jb1 jlt
  rw [num_F h, Option.bind_some]
  dsimp only
  rw [jchk_pos (by decide), num_F (show up X q1 0 lo1 2 4 ≠ 0 by rw [up_row (by omega)]; exact h), Option.bind_some]
  dsimp only
  rw [jchk_pos (by decide)]
  exact ⟨_, rfl, XD_trans (XD_up hq1) (XD_up hq2), by rw [up_ne (by omega), up_ne (by omega)]⟩
theorem wellLine_ok {N : Nat} (hN : 1000 ≤ N) {X Y : jMem} {m j : Int} (h : RD X Y m j) (h8 : Y 0 8 = X 4 j) (hk : X 3 j = 18) (hd : DR X Y) :
    ∃ (r : Int) (X' Y' : jMem), (jb1 (To_takeNumber N 0 (w32 (up X 2 3 (j + 1) 6 0 - 1)) (up X 2 3 (j + 1))) fun r18 M19 => jb1 (To_takeNumber N 1 30 M19) fun r20 M21 => jchk (0 ≤ r18 ∧ r18 < 7) <| jlt (up M21 (6 + 1) r18 r20) fun M23 => jb1 (To_takeNumber N 0 60 M23) fun r24 M25 => jchk (0 ≤ r18 ∧ r18 < 7) <| jlt (up M25 (6 + 2) r18 r24) fun M27 => some ((0 : Int), M27)) = some (0, X') ∧ m_isWellHere N Y = some (r, Y') ∧ XD X X' ∧ YD Y Y' ∧ Y' 0 14 = Y 0 14 ∧ ((r = 1 ∧ ∃ j', j < j' ∧ RD X' Y' m j' ∧ DR X' Y') ∨ (r = 0 ∧ FD X' Y')) := by
  obtain ⟨Y1, p1, p2', p3, p4, p5⟩ := passWord_ok hN h h8 (by omega)
  have rd := RD_next h p5 p3
  have n1 : X 6 0 = Y 6 1 := hd.1.1
  have nr := hd.2.2.1
  have y61 : Y1 6 1 = Y 6 1 := by rw [p2'.1 6 (by omega)]
  obtain ⟨v, r, X2, Y2, a1, a2, a3, a4, a5⟩ := num_ok hN (lo := 0) (hi := Y 6 1 - 1) rd
  unfold m_isWellHere
  rw [up_row (q' := 6) (by omega), n1, w32_id (by omega)]
  unfold jbv
  rw [p1, Option.bind_some]
  dsimp only
  rw [y61, w32_id (by omega)]
  have ya : YD Y Y2 := YD_trans (YD_RF p2') (YD_RF a4)
  have xa : XD X X2 := XD_trans (fun p a b => up_ne a) (XD_XF a3)
  have y14 : Y2 0 14 = Y 0 14 := by rw [a4.2 14 (by omega) (by omega) (by omega), p2'.2 14 (by omega) (by omega) (by omega)]
  rcases a5 with ⟨z1, z2, z3, z4, z5, z6, z7⟩ | ⟨z1, z2, z3, -⟩
  · obtain ⟨r', X', Y', b1, b2, b3, b4, b5, b6⟩ := pair_ok hN (f := v) (q1 := 6 + 1) (q2 := 6 + 2) (c1 := 60) (c2 := 67) (lo1 := 1) (hi1 := 30) (lo2 := 0) (hi2 := 60) z2 (by omega) (by omega) (by omega) (by omega) (by omega)
    have ex : (jb1 (To_takeNumber N 0 (Y 6 1 - 1) (up X 2 3 (j + 1))) fun r18 M19 => jb1 (To_takeNumber N 1 30 M19) fun r20 M21 => jchk (0 ≤ r18 ∧ r18 < 7) <| jlt (up M21 (6 + 1) r18 r20) fun M23 => jb1 (To_takeNumber N 0 60 M23) fun r24 M25 => jchk (0 ≤ r18 ∧ r18 < 7) <| jlt (up M25 (6 + 2) r18 r24) fun M27 => some ((0 : Int), M27)) = some (0, X') := by
      rw [a1]; exact b1
    have ey : (jb1 (m_numberHere N 0 (Y 6 1 - 1) Y1) fun r2 M3 => (if r2 = 0 then some ((0 : Int), M3) else jlt ((M3 0 10)) fun v4 => jb1 (m_cellHere N ((w32 (60 + v4))) 1 30 M3) fun r5 M6 => (if r5 = 0 then some ((0 : Int), M6) else jb1 (m_cellHere N ((w32 (67 + v4))) 0 60 M6) fun r7 M8 => (if r7 = 0 then some ((0 : Int), M8) else some (1, M8))))) = some (r', Y') := by
      rw [a2]
      unfold jb1 at b2 ⊢
      rw [Option.bind_some]
      dsimp only
      rw [if_neg (by omega)]
      unfold jlt
      rw [z5]
      exact b2
    refine ⟨r', X', Y', ex, ey, XD_trans xa b3, YD_trans ya b4, by rw [b5, y14], ?_⟩
    rcases b6 with ⟨w1, w2, v1, v2, u1, u2, u3, u4, u5, u6⟩ | w
    · refine Or.inl ⟨w1, j + 1 + 1 + 2, by omega, w2, ?_⟩
      exact DR_well (DR_same (Y' := Y2) hd (fun p a b => by rw [a3 p (by omega), up_ne (by omega)]) (by rw [a4.1 6 (by omega), p2'.1 6 (by omega)])) (by omega) ⟨u1, u2⟩ ⟨u3, u4⟩ u5 u6
    · exact Or.inr w
  · subst z2
    obtain ⟨X', b1, b2, b3⟩ := pair_F (N := N) (lo1 := 1) (hi1 := 30) (lo2 := 0) (hi2 := 60) (q1 := 6 + 1) (q2 := 6 + 2) z3.1 (by omega) (by omega)
    refine ⟨0, X', Y2, by rw [a1]; exact b1, ?_, XD_trans xa b2, ya, y14, Or.inr ⟨rfl, FD_w z3 b3 rfl⟩⟩
    rw [a2]
    unfold jb1
    rw [Option.bind_some]
    dsimp only
    rw [if_pos z1]
