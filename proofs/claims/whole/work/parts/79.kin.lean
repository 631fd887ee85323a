/-! a line about a FARM, about KIN -/
theorem farmLine_ok {N : Nat} (hN : 1000 ≤ N) {X Y : jMem} {m j : Int} (h : RD X Y m j) (h8 : Y 0 8 = X 4 j) (hk : X 3 j = 19) (hd : DR X Y) :
    ∃ (r : Int) (X' Y' : jMem), (jb1 (To_takeNumber N 0 (w32 (up X 2 3 (j + 1) 6 0 - 1)) (up X 2 3 (j + 1))) fun r8 M9 => jb1 (To_takeNumber N 0 5 M9) fun r10 M11 => jchk (0 ≤ r8 ∧ r8 < 7) <| jlt (up M11 (6 + 3) r8 r10) fun M13 => jb1 (To_takeNumber N 0 9 M13) fun r14 M15 => jchk (0 ≤ r8 ∧ r8 < 7) <| jlt (up M15 (6 + 4) r8 r14) fun M17 => some ((0 : Int), M17)) = some (0, X') ∧ m_isFarmHere N Y = some (r, Y') ∧ XD X X' ∧ YD Y Y' ∧ Y' 0 14 = Y 0 14 ∧ ((r = 1 ∧ ∃ j', j < j' ∧ RD X' Y' m j' ∧ DR X' Y') ∨ (r = 0 ∧ FD X' Y')) := by
  obtain ⟨Y1, p1, p2', p3, p4, p5⟩ := passWord_ok hN h h8 (by omega)
  have rd := RD_next h p5 p3
  have n1 : X 6 0 = Y 6 1 := hd.1.1
  have nr := hd.2.2.1
  have y61 : Y1 6 1 = Y 6 1 := by rw [p2'.1 6 (by omega)]
  obtain ⟨v, r, X2, Y2, a1, a2, a3, a4, a5⟩ := num_ok hN (lo := 0) (hi := Y 6 1 - 1) rd
  unfold m_isFarmHere
  rw [up_row (q' := 6) (by omega), n1, w32_id (by omega)]
  unfold jbv
  rw [p1, Option.bind_some]
  dsimp only
  rw [y61, w32_id (by omega)]
  have ya : YD Y Y2 := YD_trans (YD_RF p2') (YD_RF a4)
  have xa : XD X X2 := XD_trans (fun p a b => up_ne a) (XD_XF a3)
  have y14 : Y2 0 14 = Y 0 14 := by rw [a4.2 14 (by omega) (by omega) (by omega), p2'.2 14 (by omega) (by omega) (by omega)]
  rcases a5 with ⟨z1, z2, z3, z4, z5, z6, z7⟩ | ⟨z1, z2, z3, -⟩
  · obtain ⟨r', X', Y', b1, b2, b3, b4, b5, b6⟩ := pair_ok hN (f := v) (q1 := 6 + 3) (q2 := 6 + 4) (c1 := 46) (c2 := 74) (lo1 := 0) (hi1 := 5) (lo2 := 0) (hi2 := 9) z2 (by omega) (by omega) (by omega) (by omega) (by omega)
    have ex : (jb1 (To_takeNumber N 0 (Y 6 1 - 1) (up X 2 3 (j + 1))) fun r8 M9 => jb1 (To_takeNumber N 0 5 M9) fun r10 M11 => jchk (0 ≤ r8 ∧ r8 < 7) <| jlt (up M11 (6 + 3) r8 r10) fun M13 => jb1 (To_takeNumber N 0 9 M13) fun r14 M15 => jchk (0 ≤ r8 ∧ r8 < 7) <| jlt (up M15 (6 + 4) r8 r14) fun M17 => some ((0 : Int), M17)) = some (0, X') := by
      rw [a1]; exact b1
    have ey : (jb1 (m_numberHere N 0 (Y 6 1 - 1) Y1) fun r2 M3 => (if r2 = 0 then some ((0 : Int), M3) else jlt ((M3 0 10)) fun v4 => jb1 (m_cellHere N ((w32 (46 + v4))) 0 5 M3) fun r5 M6 => (if r5 = 0 then some ((0 : Int), M6) else jb1 (m_cellHere N ((w32 (74 + v4))) 0 9 M6) fun r7 M8 => (if r7 = 0 then some ((0 : Int), M8) else some (1, M8))))) = some (r', Y') := by
      rw [a2]
      unfold jb1 at b2 ⊢
      rw [Option.bind_some]
      dsimp only
      rw [if_neg (by omega)]
      unfold jlt
      rw [z5]
      exact b2
    refine ⟨r', X', Y', ex, ey, XD_trans xa b3, YD_trans ya b4, by rw [b5, y14], ?_⟩
    rcases b6 with ⟨w1, w2, v1, v2, u1, u2, u3, u4, u5, u6⟩ | w
    · refine Or.inl ⟨w1, j + 1 + 1 + 2, by omega, w2, ?_⟩
      exact DR_farm (DR_same (Y' := Y2) hd (fun p a b => by rw [a3 p (by omega), up_ne (by omega)]) (by rw [a4.1 6 (by omega), p2'.1 6 (by omega)])) (by omega) ⟨u1, u2⟩ ⟨u3, u4⟩ u5 u6
    · exact Or.inr w
  · subst z2
    obtain ⟨X', b1, b2, b3⟩ := pair_F (N := N) (lo1 := 0) (hi1 := 5) (lo2 := 0) (hi2 := 9) (q1 := 6 + 3) (q2 := 6 + 4) z3.1 (by omega) (by omega)
    refine ⟨0, X', Y2, by rw [a1]; exact b1, ?_, XD_trans xa b2, ya, y14, Or.inr ⟨rfl, FD_w z3 b3 rfl⟩⟩
    rw [a2]
    unfold jb1
    rw [Option.bind_some]
    dsimp only
    rw [if_pos z1]
theorem DR_kin {X Y X' Y' : jMem} {a b : Int} (h : DR X Y) (ha : 0 ≤ a ∧ a < 7) (hb : 0 ≤ b ∧ b < 7) (hab : a ≠ b) (hx : ∀ p, p ≠ 2 → X' p = up (up X (6 + 5) a (jor (X (6 + 5) a) (p2 b))) (6 + 5) b (jor (up X (6 + 5) a (jor (X (6 + 5) a) (p2 b)) (6 + 5) b) (p2 a)) p) (hy : Y' 6 = up (up Y 6 (53 + a) (jor (Y 6 (53 + a)) (p2 b))) 6 (53 + b) (jor (up Y 6 (53 + a) (jor (Y 6 (53 + a)) (p2 b)) 6 (53 + b)) (p2 a)) 6) : DR X' Y' := by
  obtain ⟨⟨p0, p1, p2', p3, p4, p5, p6⟩, d0, d1, d2, d3⟩ := h
  rw [up_col (show b ≠ a by omega)] at hx
  rw [up_col (show 53 + b ≠ 53 + a by omega)] at hy
  have ka := d3 a ha.1 ha.2
  have kb := d3 b hb.1 hb.2
  have e : ∀ k, Y' 6 k = if k = 53 + b then jor (Y 6 (53 + b)) (p2 a) else if k = 53 + a then jor (Y 6 (53 + a)) (p2 b) else Y 6 k := fun k => by
    rw [hy]
    by_cases c : k = 53 + b
    · rw [up_hit rfl c, if_pos c]
    · rw [up_col c, if_neg c]
      by_cases d : k = 53 + a
      · rw [up_hit rfl d, if_pos d]
      · rw [up_col d, if_neg d]
  have eo : ∀ k, k < 53 ∨ 60 ≤ k → Y' 6 k = Y 6 k := fun k hk => by rw [e k, if_neg (by omega), if_neg (by omega)]
  have xa := p6 a ha.1 ha.2
  have xb := p6 b hb.1 hb.2
  refine ⟨⟨?_, ?_, fun i i0 i1 => ?_, fun i i0 i1 => ?_, fun i i0 i1 => ?_, fun i i0 i1 => ?_, fun i i0 i1 => ?_⟩, ?_, ?_, ?_, fun i i0 i1 => ?_⟩
  · rw [hx 6 (by omega), up_row (by omega), up_row (by omega), eo 1 (by omega)]; exact p0
  · rw [hx 6 (by omega), up_row (by omega), up_row (by omega), eo 2 (by omega)]; exact p1
  · rw [hx (6 + 1) (by omega), up_row (by omega), up_row (by omega), eo (60 + i) (by omega)]; exact p2' i i0 i1
  · rw [hx (6 + 2) (by omega), up_row (by omega), up_row (by omega), eo (67 + i) (by omega)]; exact p3 i i0 i1
  · rw [hx (6 + 3) (by omega), up_row (by omega), up_row (by omega), eo (46 + i) (by omega)]; exact p4 i i0 i1
  · rw [hx (6 + 4) (by omega), up_row (by omega), up_row (by omega), eo (74 + i) (by omega)]; exact p5 i i0 i1
  · rw [hx (6 + 5) (by omega), e (53 + i)]
    by_cases c : i = b
    · rw [up_hit rfl c, if_pos (by omega), xb]
    · rw [up_col c, if_neg (by omega)]
      by_cases d : i = a
      · rw [up_hit rfl d, if_pos (by omega), xa]
      · rw [up_col d, if_neg (by omega)]; exact p6 i i0 i1
  · rw [eo 0 (by omega)]; exact d0
  · rw [eo 1 (by omega)]; exact d1
  · rw [eo 2 (by omega)]; exact d2
  · obtain ⟨a1, a2, a3, a4, a5, a6⟩ := d3 i i0 i1
    rw [eo (60 + i) (by omega), eo (67 + i) (by omega), eo (46 + i) (by omega), eo (74 + i) (by omega)]
    refine ⟨a1, a2, a3, a4, ?_⟩
    have bit : ∀ s w, 0 ≤ s ∧ s < 128 → 0 ≤ w ∧ w < 7 → w ≠ i → s / p2 i % 2 = 0 → (0 ≤ jor s (p2 w) ∧ jor s (p2 w) < 128) ∧ jor s (p2 w) / p2 i % 2 = 0 := fun s w hs hw hwi h0 => by
      refine ⟨or_p2_in hs hw.1 hw.2, ?_⟩
      rcases b01 (s := jor s (p2 w)) (k := i) with z | z
      · exact z
      · rcases (or_p2 hs hw.1 hw.2 i0 i1).mp z with q | q <;> omega
    rw [e (53 + i)]
    by_cases c : i = b
    · subst c
      rw [if_pos rfl]
      exact bit _ _ kb.2.2.2.2.1 ha (by omega) kb.2.2.2.2.2
    · rw [if_neg (by omega)]
      by_cases d : i = a
      · subst d
        rw [if_pos rfl]
        exact bit _ _ ka.2.2.2.2.1 hb (by omega) ka.2.2.2.2.2
      · rw [if_neg (by omega)]; exact ⟨a5, a6⟩
theorem kinLine_ok {N : Nat} (hN : 1000 ≤ N) {X Y : jMem} {m j : Int} (h : RD X Y m j) (h8 : Y 0 8 = X 4 j) (hk : X 3 j = 20) (hd : DR X Y) :
    ∃ (r : Int) (X' Y' : jMem), Pa_readKin N 6 (up X 2 3 (j + 1)) = some (0, X') ∧ m_isKinHere N Y = some (r, Y') ∧ XD X X' ∧ YD Y Y' ∧ Y' 0 14 = Y 0 14 ∧ ((r = 1 ∧ ∃ j', j < j' ∧ RD X' Y' m j' ∧ DR X' Y') ∨ (r = 0 ∧ FD X' Y')) := by
  obtain ⟨Y1, p1, p2', p3, p4, p5⟩ := passWord_ok hN h h8 (by omega)
  have rd := RD_next h p5 p3
  have n1 : X 6 0 = Y 6 1 := hd.1.1
  have nr := hd.2.2.1
  have y61 : Y1 6 1 = Y 6 1 := by rw [p2'.1 6 (by omega)]
  obtain ⟨v, r, X2, Y2, a1, a2, a3, a4, a5⟩ := num_ok hN (lo := 0) (hi := Y 6 1 - 1) rd
  have ya : YD Y Y2 := YD_trans (YD_RF p2') (YD_RF a4)
  have xa : XD X X2 := XD_trans (fun p a b => up_ne a) (XD_XF a3)
  have y14 : Y2 0 14 = Y 0 14 := by rw [a4.2 14 (by omega) (by omega) (by omega), p2'.2 14 (by omega) (by omega) (by omega)]
  have x60 : X2 6 0 = Y 6 1 := by rw [a3 6 (by omega), up_row (by omega)]; exact n1
  have y261 : Y2 6 1 = Y 6 1 := by rw [a4.1 6 (by omega)]; exact y61
  have ka : ∀ i, 0 ≤ i → i < 7 → X2 (6 + 5) i = Y 6 (53 + i) := fun i i0 i1 => by rw [a3 (6 + 5) (by omega), up_row (by omega)]; exact hd.1.2.2.2.2.2.2 i i0 i1
  unfold m_isKinHere Pa_readKin
  rw [up_row (q' := 6) (by omega), n1, w32_id (x := Y 6 1 - 1) (by omega)]
  unfold jbv jb1
  rw [p1, Option.bind_some]
  dsimp only
  rw [y61, w32_id (x := Y 6 1 - 1) (by omega), a1, a2, Option.bind_some, Option.bind_some]
  dsimp only
  rcases a5 with ⟨z1, z2, z3, z4, z5, z6, z7⟩ | ⟨z1, z2, z3, -⟩
  · rw [if_neg (show ¬ r = 0 by omega)]
    obtain ⟨c, s1, s2⟩ := see_ok hN z2.1
    have z2s := RD_see z2
    rw [looked_ok (N := N) z2, Option.bind_some, s1]
    unfold jlt
    dsimp only
    rw [Option.bind_some]
    dsimp only
    have pl := At_pl z2.1
    have tb := z2.1.2.1
    have tm := z2.1.1.1
    have tj := z2.1.2.2.2.1
    rw [up_hit rfl rfl, up_row (q' := 6) (by omega), y261, w32_id (x := Y 6 1 - 1) (by omega), z5]
    simp only [z2.2.1, x60, w32_id (x := Y 6 1 - 1) (show -2147483648 ≤ Y 6 1 - 1 ∧ Y 6 1 - 1 < 2147483648 by omega)]
    obtain ⟨v', r', X3, Y3, b1, b2, b3, b4, b5⟩ := num_ok hN (lo := 0) (hi := Y 6 1 - 1) z2s
    rw [b2, Option.bind_some]
    dsimp only
    have yb : YD Y Y3 := YD_trans ya (YD_trans (YD_RF RF_up8) (YD_RF b4))
    have xb : XD X X3 := XD_trans xa (XD_XF b3)
    have y314 : Y3 0 14 = Y 0 14 := by rw [b4.2 14 (by omega) (by omega) (by omega), up_col (by omega)]; exact y14
    have nv : v < 7 := by omega
    have cx : 0 ≤ v ∧ v < 7 := by omega
    have wr : ∀ (Z : jMem) (u : Int), 0 ≤ u ∧ u < 7 → XD Z (up (up Z (6 + 5) v (jor (Z (6 + 5) v) (jshl 1 u))) (6 + 5) u (jor (up Z (6 + 5) v (jor (Z (6 + 5) v) (jshl 1 u)) (6 + 5) u) (jshl 1 v))) := fun Z u _ => XD_trans (XD_up (by omega)) (XD_up (by omega))
    rcases b5 with ⟨w1, w2, w3, w4, w5, w6, w7⟩ | ⟨w1, w2, w3, w4⟩
    · have cv' : 0 ≤ v' ∧ v' < 7 := by omega
      rw [if_pos w3, if_neg (show ¬ r' = 0 by omega)]
      simp only [w5]
      rw [jchk_pos (by omega)]
      by_cases cv : v = v'
      · rw [if_pos (show X2 5 (j + 1 + 1) = v by omega), if_pos cv]
        have fx := fail_ok (N := N) (w := 1) z2 (by omega)
        rw [fx.1, Option.bind_some, fails_ok w2.2.2.2 (by omega) (by omega), Option.bind_some]
        dsimp only
        have nz : up X2 2 4 (1 + 8 * X2 4 (j + 1 + 1) + 1) 2 4 ≠ 0 := by rw [up_hit rfl rfl]; omega
        rw [num_F nz, Option.bind_some]
        dsimp only
        rw [jchk_pos cx, jchk_pos cx, jchk_pos (show 0 ≤ (0 : Int) ∧ (0 : Int) < 7 by decide), jchk_pos (show 0 ≤ (0 : Int) ∧ (0 : Int) < 7 by decide), jchk_pos (Or.inl rfl)]
        refine ⟨0, _, _, rfl, rfl, XD_trans (XD_trans xa (fun p a b => up_ne a)) (wr _ 0 (by omega)), YD_trans yb ⟨fun p a b => up_ne a, fun k a b c d => up_col b⟩, by rw [up_col (by omega)]; exact y314, Or.inr ⟨rfl, ?_⟩⟩
        refine ⟨?_, ?_, ?_⟩
        · rw [up_row (by omega), up_row (by omega), up_hit rfl rfl]; omega
        · rw [up_hit rfl rfl, up_row (by omega), up_row (by omega), up_hit rfl rfl]
        · rw [up_row (by omega), up_row (by omega), up_hit rfl rfl]; omega
      · rw [if_neg (show ¬ X2 5 (j + 1 + 1) = v by omega), if_neg cv, b1, Option.bind_some]
        dsimp only
        rw [jchk_pos cx, jchk_pos cx, jchk_pos cv', jchk_pos cv', w32_id (x := 53 + v) (by omega), jchk_pos (by omega), jchk_pos (by omega), up_row (q' := 0) (by omega), w5, w32_id (x := 53 + v') (by omega), jchk_pos (by omega), jchk_pos (by omega)]
        refine ⟨1, _, _, rfl, rfl, XD_trans xb (wr _ v' cv'), YD_trans yb (YD_trans YD_up YD_up), by rw [up_row (by omega), up_row (by omega)]; exact y314, Or.inl ⟨rfl, j + 1 + 1 + 1, by omega, ?_, ?_⟩⟩
        · exact RD_w w2 (fun p a b => by rw [up_ne (by omega), up_ne (by omega)]) (by rw [up_ne (by omega), up_ne (by omega)]) (fun k _ => by rw [up_row (by omega), up_row (by omega)])
        · refine DR_kin (X := X3) (Y := Y3) (DR_same hd (fun p a b => ?_) ?_) cx cv' cv (fun p hp => ?_) ?_
          · rw [b3 p (by omega), a3 p (by omega), up_ne (by omega)]
          · rw [b4.1 6 (by omega), up_ne (by omega), a4.1 6 (by omega), p2'.1 6 (by omega)]
          · rw [shl_ok cx.1 cx.2, shl_ok cv'.1 cv'.2]
          · rw [shl_ok cx.1 cx.2, shl_ok cv'.1 cv'.2]
    · have nf : X2 3 (j + 1 + 1) = 1 → ¬ X2 5 (j + 1 + 1) = v := fun z z' => w4 ⟨z, by omega, by omega⟩
      rw [if_pos w1]
      have res : ∃ (r : Int) (X' Y' : jMem), ((To_takeNumber N 0 (Y 6 1 - 1) X2).bind fun o => jchk (0 ≤ v ∧ v < 7) (jchk (0 ≤ v ∧ v < 7) (jchk (0 ≤ o.1 ∧ o.1 < 7) (jchk (0 ≤ o.1 ∧ o.1 < 7) (some ((0 : Int), up (up o.2 (6 + 5) v (jor (o.2 (6 + 5) v) (jshl 1 o.1))) (6 + 5) o.1 (jor (up o.2 (6 + 5) v (jor (o.2 (6 + 5) v) (jshl 1 o.1)) (6 + 5) o.1) (jshl 1 v)))))))) = some (0, X') ∧ some ((0 : Int), Y3) = some (r, Y') ∧ XD X X' ∧ YD Y Y' ∧ Y' 0 14 = Y 0 14 ∧ ((r = 1 ∧ ∃ j', j < j' ∧ RD X' Y' m j' ∧ DR X' Y') ∨ (r = 0 ∧ FD X' Y')) := by
        rw [b1, Option.bind_some]
        dsimp only
        subst w2
        rw [jchk_pos cx, jchk_pos cx, jchk_pos (show 0 ≤ (0 : Int) ∧ (0 : Int) < 7 by decide), jchk_pos (show 0 ≤ (0 : Int) ∧ (0 : Int) < 7 by decide)]
        exact ⟨0, _, _, rfl, rfl, XD_trans xb (wr _ 0 (by omega)), yb, y314, Or.inr ⟨rfl, FD_w w3 (by rw [up_ne (by omega), up_ne (by omega)]) rfl⟩⟩
      by_cases c1 : X2 3 (j + 1 + 1) = 1
      · rw [if_pos c1, jchk_pos (by omega), if_neg (nf c1)]; exact res
      · rw [if_neg c1]; exact res
  · subst z2
    have nz : X2 2 4 ≠ 0 := z3.1
    rw [if_pos z1, looked_F nz, Option.bind_some]
    unfold jlt
    dsimp only
    rw [if_neg (show ¬ (0 : Int) = 1 by decide), num_F nz, Option.bind_some]
    dsimp only
    rw [jchk_pos (by decide), jchk_pos (by decide), jchk_pos (by decide), jchk_pos (by decide)]
    exact ⟨0, _, _, rfl, rfl, XD_trans xa (XD_trans (XD_up (by omega)) (XD_up (by omega))), ya, y14, Or.inr ⟨rfl, FD_w z3 (by rw [up_ne (by omega), up_ne (by omega)]) rfl⟩⟩
