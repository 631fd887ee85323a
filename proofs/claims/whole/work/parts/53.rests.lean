/-! rests of two FARMS that draw -/
theorem gets_ok {N : Nat} {X Y : jMem} {rl d a : Int} (B : YB X Y 161 d rl) (ha : 0 ≤ a ∧ a < 7) (hd : X 159 a = Y 11 a ∧ 0 ≤ Y 11 a ∧ Y 11 a ≤ 5) : ∃ g, Fo_gainOf N a X = some g ∧ m_getsNow N a Y = some g ∧ -3 ≤ g ∧ g ≤ 5 := by
  obtain ⟨⟨s0, s1, sd, st, sw, sh, se⟩, -, w, -⟩ := B
  have hh := w.2.2.2.2.2.1 a ha.1 ha.2
  have h1 : X 165 a = Y 10 (32 + a) := sh a ha.1 ha.2
  have h2 : X 164 (Y 10 (32 + a)) = Y 10 (25 + Y 10 (32 + a)) := sw _ hh.1 hh.2
  unfold Fo_gainOf m_getsNow jlt
  dsimp only
  simp only [h1, h2]
  rw [w32_id (x := 32 + a) (by omega), w32_id (x := 25 + Y 10 (32 + a)) (by omega)]
  simp (disch := omega) only [jchk_pos]
  by_cases c : Y 10 (25 + Y 10 (32 + a)) = 0
  · rw [if_pos c, if_pos c, if_neg (by decide), hd.1, w32_id (by omega)]
    exact ⟨_, rfl, rfl, by omega, by omega⟩
  · rw [if_neg c, if_neg c, if_pos trivial, hd.1, w32_id (by omega)]
    exact ⟨_, rfl, by rw [Int.sub_zero], by omega, by omega⟩
def DD (Y Y' : jMem) (a b : Int) : Prop := (∀ k, k ≠ 46 + a → k ≠ 46 + b → Y' 10 k = Y 10 k) ∧ Y' 0 21 = Y 0 21
theorem play1_ok {N : Nat} (hN : 1000 ≤ N) {X Y X' Y' : jMem} {rl a b n i : Int} (h : Rel X Y) (hf : FR X Y rl) (ha : 0 ≤ a ∧ a < Y 10 1) (hb : 0 ≤ b ∧ b < Y 10 1) (hab : a ≠ b) (hn : 0 ≤ n ∧ n ≤ 20) (hi : 0 ≤ i ∧ i < 36) (F : FF X Y X' Y') (D : DD Y Y' a b) (hd : ∀ j, 0 ≤ j → j < 7 → j ≠ a → j ≠ b → X' 167 j = Y 10 (46 + j)) (hr : ∀ j, 0 ≤ j → j < i → X' 168 j = Y' 18 (2 * j) ∧ X' 169 j = Y' 18 (2 * j + 1)) :
    ∃ X2 Y2, (∀ h21, Fo_play_L21 N rl a b n h21 (i, X') = h21 (i + 1, X2)) ∧ m_fillsRest N a b i n Y' = some (0, Y2) ∧ FF X Y X2 Y2 ∧ DD Y Y2 a b ∧ (∀ j, 0 ≤ j → j < 7 → j ≠ a → j ≠ b → X2 167 j = Y 10 (46 + j)) ∧ (∀ j, 0 ≤ j → j < i + 1 → X2 168 j = Y2 18 (2 * j) ∧ X2 169 j = Y2 18 (2 * j + 1)) := by
  obtain ⟨s, w, pk, p, -, wt⟩ := Rel_s h
  have w1 := w.1
  have hyr := wt.2.2.2.2.2.2
  have wr := w.2.2.2.2.2.2.2.1
  generalize hX1 : up (up (up (up X' 167 a (i / 6)) 167 b (i % 6)) 168 i 0) 169 i 0 = X1
  generalize hY1 : up (up (up (up Y' 18 (2 * i) 0) 18 (2 * i + 1) 0) 10 (46 + a) (i / 6)) 10 (46 + b) (i % 6) = Y1
  have x1 : ∀ q, q < 167 ∨ 169 < q → X1 q = X' q := fun q hq => by rw [← hX1, up_ne (by omega), up_ne (by omega), up_ne (by omega), up_ne (by omega)]
  have x167 : ∀ j, 0 ≤ j → j < 7 → X1 167 j = Y1 10 (46 + j) := fun j j0 j1 => by
    rw [← hX1, ← hY1]
    by_cases cb : j = b
    · simp (disch := omega) only [up_row, up_hit]
    · by_cases ca : j = a
      · simp (disch := omega) only [up_row, up_col, up_hit]
      · simp (disch := omega) only [up_row, up_col]
        rw [D.1 (46 + j) (by omega) (by omega)]
        exact hd j j0 j1 ca cb
  have y1 : ∀ q, q ≠ 10 → q ≠ 18 → Y1 q = Y' q := fun q q0 q1 => by rw [← hY1, up_ne q0, up_ne q0, up_ne q1, up_ne q1]
  have y10 : ∀ k, k ≠ 46 + a → k ≠ 46 + b → Y1 10 k = Y 10 k := fun k k0 k1 => by
    rw [← hY1, up_col k1, up_col k0, up_row (by omega), up_row (by omega)]; exact D.1 k k0 k1
  have yd : ∀ j, 0 ≤ j → j < 7 → 0 ≤ Y1 10 (46 + j) ∧ Y1 10 (46 + j) ≤ 5 := fun j j0 j1 => by
    by_cases cb : j = b
    · rw [← hY1, up_hit rfl (by omega)]; omega
    · by_cases ca : j = a
      · rw [← hY1, up_col (by omega), up_hit rfl (by omega)]; omega
      · rw [y10 (46 + j) (by omega) (by omega)]; exact wr j j0 j1
  have y18 : ∀ j, Y1 18 j = if j = 2 * i ∨ j = 2 * i + 1 then 0 else Y' 18 j := fun j => by
    rw [← hY1, up_row (by omega), up_row (by omega)]
    by_cases c1 : j = 2 * i + 1
    · rw [up_hit rfl c1, if_pos (Or.inr c1)]
    · rw [up_col c1]
      by_cases c2 : j = 2 * i
      · rw [up_hit rfl c2, if_pos (Or.inl c2)]
      · rw [up_col c2, if_neg (by omega)]
  have F1 : FF X Y X1 Y1 := ⟨fun q hq hs => by rw [x1 q (by omega)]; exact F.1 q hq hs, fun q hq => by rw [y1 q (by omega) (by omega)]; exact F.2.1 q hq, fun j q1 q2 q3 q4 => by rw [y1 0 (by omega) (by omega)]; exact F.2.2.1 j q1 q2 q3 q4, fun k q1 q2 => by rw [y1 17 (by omega) (by omega)]; exact F.2.2.2 k q1 q2⟩
  obtain ⟨X2, c1, c2, c3⟩ := cpS (N := N) (q := 161) (a := 21) X1 (by omega)
  have F2 : FF X Y X2 Y1 := ⟨fun p hp hs => by rw [c2 p (by omega)]; exact F1.1 p hp hs, F1.2⟩
  have hx : ∀ p, 14 ≤ p → p ≤ 30 → X2 p = X p := fun p a b => F2.1 p (by omega) (by unfold Stk; omega)
  have e21 : Y1 0 21 = Y 0 21 := by rw [y1 0 (by omega) (by omega)]; exact D.2
  have B2 : YB X2 Y1 161 167 rl := by
    refine ⟨c3 _ ?_, ⟨?_, ?_, fun j j0 j1 => ?_⟩, WS_of w (y10 1 (by omega) (by omega)) (y10 2 (by omega) (by omega)) (fun j j0 j1 => by rw [y10 (11 + j) (by omega) (by omega)]; exact w.2.2.1 j j0 j1) (fun j j0 j1 => by rw [y10 (18 + j) (by omega) (by omega)]; exact w.2.2.2.1 j j0 j1) (fun j j0 j1 => by rw [y10 (25 + j) (by omega) (by omega)]; exact w.2.2.2.2.1 j j0 j1) (fun j j0 j1 => y10 (32 + j) (by omega) (by omega)) (fun j j0 j1 => by rw [y10 (39 + j) (by omega) (by omega)]; exact w.2.2.2.2.2.2.1 j j0 j1) yd (fun j j0 j1 => y10 (53 + j) (by omega) (by omega)), fun j j0 j1 => ?_, FR_FF F2 hf e21⟩
    · have sx := SR_congr s (X' := X1) (fun p a b => F1.1 p (by omega) (by unfold Stk; omega))
      obtain ⟨s0, s1, sd, st, sw, sh, se⟩ := sx
      exact ⟨by rw [y10 1 (by omega) (by omega)]; exact s0, by rw [y10 10 (by omega) (by omega)]; exact s1, fun i i0 i1 => by rw [y10 (11 + i) (by omega) (by omega)]; exact sd i i0 i1, fun i i0 i1 => by rw [y10 (18 + i) (by omega) (by omega)]; exact st i i0 i1, fun i i0 i1 => by rw [y10 (25 + i) (by omega) (by omega)]; exact sw i i0 i1, fun i i0 i1 => by rw [y10 (32 + i) (by omega) (by omega)]; exact sh i i0 i1, fun i i0 i1 => by rw [y10 (39 + i) (by omega) (by omega)]; exact se i i0 i1⟩
    · rw [hx 15 (by omega) (by omega), y10 1 (by omega) (by omega)]; exact pk.1
    · rw [hx 15 (by omega) (by omega), y10 2 (by omega) (by omega)]; exact pk.2.1
    · rw [hx 20 (by omega) (by omega), y10 (53 + j) (by omega) (by omega)]; exact pk.2.2 j j0 j1
    · rw [c2 167 (by omega)]; exact x167 j j0 j1
  have H : wp (jfix N (m_fillsRest_L52 N a b n (2 * i)) (0, Y1)) (fun o => o.1 = 0 ∧ ∃ X3, (∀ h21, jfix N (Fo_play_L81 N rl a b n i h21) (0, X2) = h21 (i + 1, X3)) ∧ FF X Y X3 o.2 ∧ DD Y o.2 a b ∧ (∀ j, X3 167 j = X2 167 j) ∧ (∀ j, 0 ≤ j → j < i + 1 → X3 168 j = o.2 18 (2 * j) ∧ X3 169 j = o.2 18 (2 * j + 1))) := by
    refine wp_fix (fun s => (n - s.1).toNat) (fun (s : Int × jMem) => (0 ≤ s.1 ∧ s.1 ≤ n) ∧ ∃ (Xk : jMem) (f : Nat), (∀ h21, jfix N (Fo_play_L81 N rl a b n i h21) (0, X2) = jfix f (Fo_play_L81 N rl a b n i h21) (s.1, Xk)) ∧ (N : Int) = (f : Int) + s.1 ∧ FF X Y Xk s.2 ∧ YB Xk s.2 161 167 rl ∧ ((∀ k, k < 10 ∨ 46 ≤ k → s.2 10 k = Y1 10 k) ∧ s.2 0 21 = Y 0 21) ∧ (∀ j, Xk 167 j = X2 167 j) ∧ (∀ j, 0 ≤ j → j < i + 1 → Xk 168 j = s.2 18 (2 * j) ∧ Xk 169 j = s.2 18 (2 * j + 1)) ∧ (-3 * s.1 ≤ s.2 18 (2 * i) ∧ s.2 18 (2 * i) ≤ 5 * s.1 ∧ -3 * s.1 ≤ s.2 18 (2 * i + 1) ∧ s.2 18 (2 * i + 1) ≤ 5 * s.1) ∧ s.2 10 10 = Y 10 10 + s.1) ?_ N _ ⟨⟨by dsimp only; omega, by dsimp only; omega⟩, X2, N, fun _ => rfl, by dsimp only; omega, F2, B2, ⟨fun _ _ => rfl, e21⟩, fun _ => rfl, fun j j0 j1 => ?_, ?_, ?_⟩ (by dsimp only; omega)
    · rintro hh ⟨x, Yk⟩ ⟨hx, Xk, f, ej, en, Fc, Bc, Ec, x7, xr, bd, yc⟩ ih
      dsimp only at hx ej en Fc Bc Ec x7 xr bd yc
      obtain ⟨f', rfl⟩ : ∃ f', f = f' + 1 := ⟨f - 1, by omega⟩
      unfold m_fillsRest_L52
      dsimp only
      by_cases cx : x < n
      · obtain ⟨v, v', X4, Y4, p1, pp2, p3, p4, p5, p6, p7, p8, -⟩ := fpass hN Fc Bc (Or.inr rfl) (by omega)
        have ya1 : Yk 10 1 = Y 10 1 := by rw [Ec.1 1 (by omega)]; exact y10 1 (by omega) (by omega)
        obtain ⟨g, g1, g2, g3⟩ := gets_ok (N := N) p4 (a := a) (by omega) (p8 a (by omega) (by omega))
        have z18 : ∀ j, Y4 18 j = Yk 18 j := fun j => by rw [p5.1 18 (by omega) (by omega) (by omega) (by omega) (by omega)]
        have z168 : ∀ j, X4 168 j = Xk 168 j := fun j => by rw [p6 168 (by omega) (by omega) (by unfold Stk; omega)]
        have z169 : ∀ j, X4 169 j = Xk 169 j := fun j => by rw [p6 169 (by omega) (by omega) (by unfold Stk; omega)]
        have r0 := xr i (by omega) (by omega)
        have B5 : YB (up X4 168 i (Yk 18 (2 * i) + g)) (up Y4 18 (2 * i) (Yk 18 (2 * i) + g)) 161 167 rl := by
          obtain ⟨b1, b2, b3, b4, b5⟩ := p4
          have h10 : up Y4 18 (2 * i) (Yk 18 (2 * i) + g) 10 = Y4 10 := up_ne (by omega)
          exact ⟨by rw [h10]; exact SR_congr b1 (fun p _ _ => up_ne (by omega)), by rw [h10]; exact PK_congr b2 (up_ne (by omega)) (up_ne (by omega)), by rw [h10]; exact b3, fun i i0 i1 => by rw [h10, up_row (by omega)]; exact b4 i i0 i1, FR_congr b5 (fun p _ _ _ => up_ne (by omega)) (up_ne (by omega)) (up_ne (by omega)) (up_ne (by omega)) (up_row (by omega))⟩
        obtain ⟨g', g1', g2', g3'⟩ := gets_ok (N := N) B5 (a := b) (by omega) (by rw [up_row (by omega), up_row (by omega)]; exact p8 b (by omega) (by omega))
        have B6 : YB (up (up X4 168 i (Yk 18 (2 * i) + g)) 169 i (Yk 18 (2 * i + 1) + g')) (up (up Y4 18 (2 * i) (Yk 18 (2 * i) + g)) 18 (2 * i + 1) (Yk 18 (2 * i + 1) + g')) 161 167 rl := by
          obtain ⟨b1, b2, b3, b4, b5⟩ := B5
          have h10 : up (up Y4 18 (2 * i) (Yk 18 (2 * i) + g)) 18 (2 * i + 1) (Yk 18 (2 * i + 1) + g') 10 = up Y4 18 (2 * i) (Yk 18 (2 * i) + g) 10 := up_ne (by omega)
          exact ⟨by rw [h10]; exact SR_congr b1 (fun p _ _ => up_ne (by omega)), by rw [h10]; exact PK_congr b2 (up_ne (by omega)) (up_ne (by omega)), by rw [h10]; exact b3, fun i i0 i1 => by rw [h10, up_row (by omega)]; exact b4 i i0 i1, FR_congr b5 (fun p _ _ _ => up_ne (by omega)) (up_ne (by omega)) (up_ne (by omega)) (up_ne (by omega)) (up_row (by omega))⟩
        have ejn : ∀ h21, jfix N (Fo_play_L81 N rl a b n i h21) (0, X2) = jfix f' (Fo_play_L81 N rl a b n i h21) (x + 1, up (up X4 168 i (Yk 18 (2 * i) + g)) 169 i (Yk 18 (2 * i + 1) + g')) := fun h21 => by
          rw [ej h21, jfix_s]
          generalize jfix f' (Fo_play_L81 N rl a b n i h21) = kk
          unfold Fo_play_L81 jlt jb1
          dsimp only
          rw [if_pos cx, p1, Option.bind_some]
          dsimp only
          rw [jchk_pos (by omega), g1, Option.bind_some, jchk_pos (by omega), z168, r0.1, w32_id (by omega), jchk_pos (by omega), g1', Option.bind_some, jchk_pos (by omega), up_row (by omega), z169, r0.2, w32_id (by omega), w32_id (by omega)]
        rw [if_pos cx, pp2]
        unfold jb1 jlt
        rw [Option.bind_some]
        dsimp only
        rw [jchk_pos (by omega), g2, Option.bind_some, jchk_pos (by omega), z18, w32_id (x := Yk 18 (2 * i) + g) (by omega), w32_id (x := 2 * i + 1) (by omega), jchk_pos (by omega), g2', Option.bind_some, jchk_pos (by omega), up_col (by omega), z18, w32_id (x := Yk 18 (2 * i + 1) + g') (by omega), w32_id (x := x + 1) (by omega)]
        have w18 : ∀ j, up (up Y4 18 (2 * i) (Yk 18 (2 * i) + g)) 18 (2 * i + 1) (Yk 18 (2 * i + 1) + g') 18 j = if j = 2 * i + 1 then Yk 18 (2 * i + 1) + g' else if j = 2 * i then Yk 18 (2 * i) + g else Yk 18 j := fun j => by
          by_cases c1 : j = 2 * i + 1
          · rw [up_hit rfl c1, if_pos c1]
          · rw [up_col c1, if_neg c1]
            by_cases c2 : j = 2 * i
            · rw [up_hit rfl c2, if_pos c2]
            · rw [up_col c2, if_neg c2, z18]
        refine ih _ ⟨⟨by dsimp only; omega, by dsimp only; omega⟩, _, f', ejn, by dsimp only; omega, ⟨fun q hq hs => ?_, fun q hq => ?_, fun j q1 q2 q3 q4 => ?_, fun k q1 q2 => ?_⟩, B6, ⟨fun k hk => ?_, ?_⟩, fun j => ?_, fun j j0 j1 => ?_, ?_, ?_⟩ (by dsimp only; omega)
        · rw [up_ne (by omega), up_ne (by omega)]; exact p3.1 q hq hs
        · dsimp only; rw [up_ne (by omega), up_ne (by omega)]; exact p3.2.1 q hq
        · dsimp only; rw [up_row (by omega), up_row (by omega)]; exact p3.2.2.1 j q1 q2 q3 q4
        · dsimp only; rw [up_row (by omega), up_row (by omega)]; exact p3.2.2.2 k q1 q2
        · dsimp only; rw [up_row (by omega), up_row (by omega), p5.2.2 k hk]; exact Ec.1 k hk
        · dsimp only; rw [up_row (by omega), up_row (by omega), p5.2.1 21 (by omega) (by omega)]; exact Ec.2
        · rw [up_row (by omega), up_row (by omega), p6 167 (by omega) (by omega) (by unfold Stk; omega)]; exact x7 j
        · dsimp only
          rw [w18, w18]
          by_cases cj : j = i
          · subst cj
            rw [up_row (by omega), up_hit rfl rfl, up_hit rfl rfl, if_neg (by omega), if_pos rfl, if_pos rfl]; exact ⟨rfl, rfl⟩
          · rw [up_row (by omega), up_col cj, up_col cj, up_row (by omega), z168, z169, if_neg (by omega), if_neg (by omega), if_neg (by omega), if_neg (by omega)]
            exact xr j j0 j1
        · dsimp only
          rw [w18, w18, if_neg (by omega), if_pos rfl, if_pos rfl]; omega
        · dsimp only; rw [up_row (by omega), up_row (by omega)]; omega
      · obtain ⟨Y5, l1, l2, l3, l4⟩ := lays_ok hN Yk
        rw [if_neg cx]
        unfold jbv
        rw [l1, Option.bind_some]
        refine wp_some ⟨rfl, Xk, fun h21 => ?_, ⟨Fc.1, fun q hq => ?_, fun j q1 q2 q3 q4 => ?_, fun k q1 q2 => ?_⟩, ⟨fun k k0 k1 => ?_, ?_⟩, x7, fun j j0 j1 => ?_⟩
        · rw [ej h21, jfix_s]
          unfold Fo_play_L81
          dsimp only
          rw [if_neg cx, w32_id (by omega)]
        · dsimp only; rw [l2 q (by omega)]; exact Fc.2.1 q hq
        · dsimp only; rw [l2 0 (by omega)]; exact Fc.2.2.1 j q1 q2 q3 q4
        · dsimp only; rw [l2 17 (by omega)]; exact Fc.2.2.2 k q1 q2
        · dsimp only
          by_cases ck : k < 10 ∨ 46 ≤ k
          · rw [l3 k ck, Ec.1 k ck]; exact y10 k k0 k1
          · have := l4 (k - 10) (by omega) (by omega)
            rw [show 10 + (k - 10) = k by omega] at this
            rw [this, Fc.2.2.2 (k - 10) (by omega) (by omega), show 10 + (k - 10) = k by omega]
        · dsimp only; rw [l2 0 (by omega)]; exact Ec.2
        · dsimp only; rw [l2 18 (by omega)]; exact xr j j0 j1
    · dsimp only
      rw [c2 168 (by omega), c2 169 (by omega), y18, y18, ← hX1]
      by_cases cj : j = i
      · subst cj
        rw [up_row (by omega), up_hit rfl rfl, up_hit rfl rfl, if_pos (by omega), if_pos (by omega)]; exact ⟨rfl, rfl⟩
      · rw [up_row (by omega), up_col cj, up_col cj, up_row (by omega), up_row (by omega), up_row (by omega), up_row (by omega), up_row (by omega), if_neg (by omega), if_neg (by omega)]
        exact hr j j0 (by omega)
    · dsimp only; rw [y18, y18, if_pos (by omega), if_pos (by omega)]; omega
    · dsimp only; rw [y10 10 (by omega) (by omega)]; omega
  obtain ⟨⟨v, Y3⟩, e, q1, X3, q2, q3, q4, q5, q6⟩ := H
  dsimp only at q1 q2 q3 q4 q5 q6
  subst q1
  refine ⟨X3, Y3, fun h21 => ?_, ?_, q3, q4, fun j j0 j1 ca cb => ?_, q6⟩
  · unfold Fo_play_L21 jlt jbv
    dsimp only
    rw [if_pos hi.2, td_nn (by omega), tm_nn (by omega), w32_id (x := i / 6) (by omega)]
    simp (disch := omega) only [jchk_pos]
    rw [hX1, c1, Option.bind_some]
    exact q2 h21
  · unfold m_fillsRest jlt
    dsimp only
    rw [td_nn (by omega), tm_nn (by omega), w32_id (x := 2 * i) (by omega), w32_id (x := 2 * i + 1) (by omega), w32_id (x := 46 + a) (by omega), w32_id (x := 46 + b) (by omega), w32_id (x := i / 6) (by omega)]
    simp (disch := omega) only [jchk_pos]
    rw [hY1]
    exact e
  · rw [q5 j, c2 167 (by omega), x167 j j0 j1, y10 (46 + j) (by omega) (by omega)]
theorem isRest_ok {N : Nat} (hN : 1000 ≤ N) {X Y : jMem} {i : Int} (hi : 0 ≤ i ∧ i < 36) (hr : ∀ j, 0 ≤ j → j < 36 → X 168 j = Y 18 (2 * j) ∧ X 169 j = Y 18 (2 * j + 1)) : ∃ r, Fo_isRest N i X = some r ∧ m_isRest N (i / 6) (i % 6) Y = some r := by
  unfold Fo_isRest m_isRest jlt
  rw [td_nn (by omega), tm_nn (by omega), w32_id (by omega)]
  dsimp only
  have H : wp2 (jfix N (Fo_isRest_L13 N i X (i / 6) (i % 6)) 0) (jfix N (m_isRest_L2 N (i / 6) (i % 6) Y) 0) (fun u v => u = v) := by
    refine wp2_fix (fun s => (6 - s).toNat) (fun s t => s = t ∧ 0 ≤ s ∧ s ≤ 6) ?_ N N _ _ ⟨rfl, by omega, by omega⟩ (by omega) (by omega)
    rintro h1 h2 x y ⟨e, x0, x1⟩ ih
    subst e
    unfold Fo_isRest_L13 m_isRest_L2
    dsimp only
    by_cases c : x < 6
    · rw [if_pos c, if_pos c]
      obtain ⟨q1, -⟩ := hr (x * 6 + i % 6) (by omega) (by omega)
      obtain ⟨-, q2⟩ := hr (i / 6 * 6 + x) (by omega) (by omega)
      obtain ⟨q3, q4⟩ := hr i (by omega) (by omega)
      rw [w32_id (x := x * 6) (by omega), w32_id (x := x * 6 + i % 6) (by omega), w32_id (x := i / 6 * 6) (by omega), w32_id (x := i / 6 * 6 + x) (by omega), w32_id (x := x + 1) (by omega), w32_id (x := 6 * x) (by omega), w32_id (x := 6 * x + i % 6) (by omega), w32_id (x := 6 * (i / 6)) (by omega), w32_id (x := 6 * (i / 6) + x) (by omega), w32_id (x := 6 * (i / 6) + i % 6) (by omega), w32_id (x := 2 * (6 * x + i % 6)) (by omega), w32_id (x := 2 * (6 * (i / 6) + i % 6)) (by omega), w32_id (x := 2 * (6 * (i / 6) + x)) (by omega), w32_id (x := 2 * (6 * (i / 6) + x) + 1) (by omega), w32_id (x := 2 * (6 * (i / 6) + i % 6) + 1) (by omega)]
      simp (disch := omega) only [jchk_pos]
      rw [show 2 * (6 * x + i % 6) = 2 * (x * 6 + i % 6) by omega, show 2 * (6 * (i / 6) + i % 6) = 2 * i by omega, show 2 * (6 * (i / 6) + x) = 2 * (i / 6 * 6 + x) by omega, ← q1, ← q2, ← q3, ← q4]
      exact wp2_ite Iff.rfl (fun _ => wp2_some rfl) (fun _ => wp2_ite Iff.rfl (fun _ => wp2_some rfl) (fun _ => ih _ _ ⟨rfl, by omega, by omega⟩ (by omega)))
    · rw [if_neg c, if_neg c]; exact wp2_some rfl
  obtain ⟨u, v, p1, p2, p3⟩ := H
  subst p3
  exact ⟨u, p1, p2⟩
theorem rests_ok {N : Nat} (hN : 1000 ≤ N) (a b c d : Int) : OK (x_rests N a b c d) (m_rests N a b c d) := by
  intro X Y h
  obtain ⟨r1, e1, -, f1, g1⟩ := isFarm_ok N a h
  obtain ⟨r2, e2, -, f2, g2⟩ := isFarm_ok N b h
  obtain ⟨r4, e4, f4, g4⟩ := within_ok N c 1 20 X Y
  obtain ⟨r5, e5, f5, g5⟩ := within_ok N d 0 2 X Y
  obtain ⟨rl, i1, i2, i3⟩ := inForce_ok (N := N) h
  obtain ⟨s, w, pk, p, n, wt⟩ := Rel_s h
  have w1 := w.1
  unfold x_rests m_rests
  rw [e1, e2, e4, e5, f1, f2, f4, f5]
  simp only [Option.bind_some]
  by_cases c1 : r1 = 0
  · rw [if_pos c1, if_pos c1]; exact ⟨_, _, _, rfl, rfl, h, TF_refl⟩
  · rw [if_neg c1, if_neg c1]
    by_cases c2 : r2 = 0
    · rw [if_pos c2, if_pos c2]; exact ⟨_, _, _, rfl, rfl, h, TF_refl⟩
    · rw [if_neg c2, if_neg c2]
      by_cases c3 : a = b
      · rw [if_pos c3, if_pos c3]; exact ⟨_, _, _, rfl, rfl, h, TF_refl⟩
      · rw [if_neg c3, if_neg c3]
        by_cases c4 : r4 = 0
        · rw [if_pos c4, if_pos c4]; exact ⟨_, _, _, rfl, rfl, h, TF_refl⟩
        · rw [if_neg c4, if_neg c4]
          by_cases c5 : r5 = 0
          · rw [if_pos c5, if_pos c5]; exact ⟨_, _, _, rfl, rfl, h, TF_refl⟩
          · rw [if_neg c5, if_neg c5, i1, Option.bind_some, jchk_pos i3]
            obtain ⟨Y1, k1, k2, k3⟩ := keeps_ok hN Y
            have F0 : FF X Y (jcp X 18 167 7) Y1 := ⟨fun p hp _ => jcp_ne (by omega), fun p hp => k2 p (by omega), fun j _ _ _ _ => by rw [k2 0 (by omega)], k3⟩
            have p18 : ∀ j, 0 ≤ j → j < 7 → X 18 j = Y 10 (46 + j) := p.2.2.2.2.1
            have H : wp2 (jfix N (Fo_play_L21 N rl a b c) (0, jcp X 18 167 7)) (jfix N (m_fillsRests_L29 N a b c (Y 10 (46 + a)) (Y 10 (46 + b))) (0, Y1)) (fun o o' => o.1 = 0 ∧ o'.1 = 0 ∧ FF X Y o.2 o'.2 ∧ o'.2 10 = Y 10 ∧ o'.2 0 21 = Y 0 21 ∧ (∀ j, 0 ≤ j → j < 36 → o.2 168 j = o'.2 18 (2 * j) ∧ o.2 169 j = o'.2 18 (2 * j + 1))) := by
              refine wp2_fix (fun s => (36 - s.1).toNat) (fun (s t : Int × jMem) => s.1 = t.1 ∧ (0 ≤ s.1 ∧ s.1 ≤ 36) ∧ FF X Y s.2 t.2 ∧ DD Y t.2 a b ∧ (∀ j, 0 ≤ j → j < 7 → j ≠ a → j ≠ b → s.2 167 j = Y 10 (46 + j)) ∧ (∀ j, 0 ≤ j → j < s.1 → s.2 168 j = t.2 18 (2 * j) ∧ s.2 169 j = t.2 18 (2 * j + 1))) ?_ N N _ _ ⟨rfl, ⟨by dsimp only; omega, by dsimp only; omega⟩, F0, ⟨fun k _ _ => by dsimp only; rw [k2 10 (by omega)], by dsimp only; rw [k2 0 (by omega)]⟩, fun j j0 j1 _ _ => by dsimp only; rw [jcp_hit rfl j0 j1]; exact p18 j j0 j1, fun j j0 j1 => by dsimp only at j1; omega⟩ (by dsimp only; omega) (by dsimp only; omega)
              rintro h1 h2 ⟨x, Xc⟩ ⟨y, Yc⟩ ⟨ee, hx, Fc, Dc, hd, hr⟩ ih
              dsimp only at ee hx Fc Dc hd hr
              subst ee
              unfold m_fillsRests_L29
              dsimp only
              by_cases cx : x < 36
              · obtain ⟨X2, Y2, q1, q2, q3, q4, q5, q6⟩ := play1_ok hN (a := a) (b := b) (n := c) (i := x) h i2 (by omega) (by omega) c3 (by omega) (by omega) Fc Dc hd hr
                rw [q1 h1, if_pos cx, q2]
                unfold jbv
                rw [Option.bind_some, w32_id (by omega)]
                exact ih _ _ ⟨rfl, ⟨by dsimp only; omega, by dsimp only; omega⟩, q3, q4, q5, q6⟩ (by dsimp only; omega)
              · unfold Fo_play_L21 jlt
                dsimp only
                rw [if_neg cx, if_neg cx, w32_id (x := 46 + a) (by omega), w32_id (x := 46 + b) (by omega), jchk_pos (by omega), jchk_pos (by omega)]
                refine wp2_some ⟨rfl, rfl, ⟨Fc.1, fun q hq => ?_, fun j q1 q2 q3 q4 => ?_, fun k q1 q2 => ?_⟩, ?_, ?_, fun j j0 j1 => ?_⟩
                · dsimp only; rw [up_ne (by omega), up_ne (by omega)]; exact Fc.2.1 q hq
                · dsimp only; rw [up_row (by omega), up_row (by omega)]; exact Fc.2.2.1 j q1 q2 q3 q4
                · dsimp only; rw [up_row (by omega), up_row (by omega)]; exact Fc.2.2.2 k q1 q2
                · funext k
                  dsimp only
                  by_cases kb : k = 46 + b
                  · rw [up_hit rfl kb, kb]
                  · rw [up_col kb]
                    by_cases ka : k = 46 + a
                    · rw [up_hit rfl ka, ka]
                    · rw [up_col ka]; exact Dc.1 k ka kb
                · dsimp only; rw [up_row (by omega), up_row (by omega)]; exact Dc.2
                · dsimp only; rw [up_row (by omega), up_row (by omega), up_row (by omega), up_row (by omega)]; exact hr j j0 (by omega)
            obtain ⟨⟨v, X2⟩, ⟨v', Y2⟩, p1, p2, p3, p4, F2, h10, h21, hr⟩ := H
            dsimp only at p3 p4 F2 h10 h21 hr
            subst p3; subst p4
            have HX : Fo_play N rl a b c X = some (0, X2) := by unfold Fo_play jlt; exact p1
            have HY : m_fillsRests N a b c Y = some (0, Y2) := by
              unfold m_fillsRests jlt jbv
              dsimp only
              rw [w32_id (x := 46 + a) (by omega), w32_id (x := 46 + b) (by omega), jchk_pos (by omega), jchk_pos (by omega), k1, Option.bind_some]
              exact p2
            have T : wp2 (jfix N (Fo_findRests_L11 N) (-2, 35, up X2 157 6 0)) (jfix N (m_rests_L65 N d Y2) (0, -1, 35)) (fun o o' => o'.1 = (if d = 0 then o.2 157 6 else if o.1 < 0 then -2 else if d = 1 then w32 (o.1.tdiv 6) else o.1.tmod 6) ∧ o'.2 = Y2 ∧ FF X Y o.2 Y2) := by
              refine wp2_fix (fun s => (s.2.1 + 1).toNat) (fun (s : Int × Int × jMem) (t : Int × Int × Int) => (s.2.1 = t.2.2 ∧ s.2.2 157 6 = t.1 ∧ ((s.1 = -2 ∧ t.2.1 = -1) ∨ (s.1 = t.2.1 ∧ 0 ≤ s.1))) ∧ (-1 ≤ s.2.1 ∧ s.2.1 ≤ 35) ∧ (0 ≤ t.1 ∧ t.1 ≤ 35 - s.2.1) ∧ FF X Y s.2.2 Y2 ∧ (∀ j, 0 ≤ j → j < 36 → s.2.2 168 j = Y2 18 (2 * j) ∧ s.2.2 169 j = Y2 18 (2 * j + 1))) ?_ N N _ _ ⟨⟨rfl, by dsimp only; rw [up_hit rfl rfl], Or.inl ⟨rfl, rfl⟩⟩, ⟨by dsimp only; omega, by dsimp only; omega⟩, ⟨by dsimp only; omega, by dsimp only; omega⟩, ⟨fun q hq hs => by dsimp only; rw [up_ne (by omega)]; exact F2.1 q hq hs, F2.2⟩, fun j j0 j1 => by dsimp only; rw [up_row (by omega), up_row (by omega)]; exact hr j j0 j1⟩ (by dsimp only; omega) (by dsimp only; omega)
              rintro h1 h2 ⟨x2, x3, Xc⟩ ⟨y6, y7, y8⟩ ⟨⟨j1, j2, j3⟩, hx, hs, Fc, hrc⟩ ih
              dsimp only at j1 j2 j3 hx hs Fc hrc
              subst j1; subst j2
              unfold Fo_findRests_L11 m_rests_L65 jlt
              dsimp only
              by_cases cx : x3 < 0
              · rw [if_pos cx, if_pos cx]
                by_cases cd : d = 0
                · rw [if_pos cd]; exact wp2_some ⟨by dsimp only; rw [if_pos cd], rfl, Fc⟩
                · rw [if_neg cd]
                  rcases j3 with ⟨z1, z2⟩ | ⟨z1, z2⟩
                  · rw [if_pos (by omega)]; exact wp2_some ⟨by dsimp only; rw [if_neg cd, if_pos (by omega)], rfl, Fc⟩
                  · rw [if_neg (by omega)]
                    by_cases cd1 : d = 1
                    · rw [if_pos cd1]; exact wp2_some ⟨by dsimp only; rw [if_neg cd, if_neg (by omega), if_pos cd1, z1], rfl, Fc⟩
                    · rw [if_neg cd1]; exact wp2_some ⟨by dsimp only; rw [if_neg cd, if_neg (by omega), if_neg cd1, z1], rfl, Fc⟩
              · rw [if_neg cx, if_neg cx, td_nn (by omega), tm_nn (by omega), w32_id (x := x3 / 6) (by omega)]
                obtain ⟨r, q1, q2⟩ := isRest_ok hN (i := x3) (by omega) hrc
                rw [q1, q2, Option.bind_some, Option.bind_some, w32_id (x := x3 + -1) (by omega)]
                by_cases cr : r = 0
                · rw [if_pos cr, if_pos cr]
                  exact ih _ _ ⟨⟨rfl, rfl, j3⟩, ⟨by dsimp only; omega, by dsimp only; omega⟩, ⟨by dsimp only; omega, by dsimp only; omega⟩, Fc, hrc⟩ (by dsimp only; omega)
                · rw [if_neg cr, if_neg cr, w32_id (by omega)]
                  exact ih _ _ ⟨⟨rfl, by dsimp only; rw [up_hit rfl rfl], Or.inr ⟨rfl, by dsimp only; omega⟩⟩, ⟨by dsimp only; omega, by dsimp only; omega⟩, ⟨by dsimp only; omega, by dsimp only; omega⟩, ⟨fun q hq hs => by dsimp only; rw [up_ne (by omega)]; exact Fc.1 q hq hs, Fc.2⟩, fun j j0 j1 => by dsimp only; rw [up_row (by omega), up_row (by omega)]; exact hrc j j0 j1⟩ (by dsimp only; omega)
            obtain ⟨⟨v, X3⟩, ⟨v', Y3⟩, t1, t2, t3, t4, F3⟩ := T
            dsimp only at t3 t4 F3
            subst t4
            obtain ⟨R, TT⟩ := fore_rel h F3 h10 h21
            refine ⟨v', X3, Y3, ?_, ?_, R, TT⟩
            · unfold jbv jb1 Fo_findRests jlt
              rw [HX, Option.bind_some]
              dsimp only
              rw [t1, Option.bind_some]
              dsimp only
              rw [t3]
              by_cases cd : d = 0
              · rw [if_pos cd, if_pos cd]
              · rw [if_neg cd, if_neg cd]
                by_cases cv : v < 0
                · rw [if_pos cv, if_pos cv]
                · rw [if_neg cv, if_neg cv]
                  by_cases cd1 : d = 1
                  · rw [if_pos cd1, if_pos cd1]
                  · rw [if_neg cd1, if_neg cd1]
            · unfold jbv
              rw [HY, Option.bind_some]
              exact t2
