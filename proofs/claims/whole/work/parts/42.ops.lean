/-! calls that are one step -/
theorem four_ok {N : Nat} (hN : 1000 ≤ N) (a : Int) {X Y : jMem} (h : TR X Y) (hs : Y 0 1 ≤ 396) :
    ∃ X' Y', x_putFour N a X = some (0, X') ∧ m_four N a Y = some (0, Y') ∧ TR X' Y' ∧ Y' 0 1 = Y 0 1 + 4 ∧ ((∀ p, p ≠ 0 → p ≠ 1 → X' p = X p) ∧ (∀ j, j ≠ 1 → X' 0 j = X 0 j)) ∧ ((∀ p, p ≠ 0 → p ≠ 1 → Y' p = Y p) ∧ (∀ j, j ≠ 1 → Y' 0 j = Y 0 j)) := by
  have H : wp2 (x_putFour N a X) (m_four N a Y) (fun o o' => o.1 = 0 ∧ o'.1 = 0 ∧ TR o.2 o'.2 ∧ o'.2 0 1 = Y 0 1 + 4 ∧ ((∀ p, p ≠ 0 → p ≠ 1 → o.2 p = X p) ∧ (∀ j, j ≠ 1 → o.2 0 j = X 0 j)) ∧ ((∀ p, p ≠ 0 → p ≠ 1 → o'.2 p = Y p) ∧ (∀ j, j ≠ 1 → o'.2 0 j = Y 0 j))) := by
    unfold x_putFour m_four
    refine wp2_fix (fun s => (s.1 + 8).toNat) (fun (s t : Int × jMem) => s.1 = t.1 ∧ (-8 ≤ s.1 ∧ s.1 ≤ 24 ∧ s.1 % 8 = 0 ∧ 8 * (t.2 0 1) = 8 * Y 0 1 + 24 - s.1) ∧ TR s.2 t.2 ∧ ((∀ p, p ≠ 0 → p ≠ 1 → s.2 p = X p) ∧ (∀ j, j ≠ 1 → s.2 0 j = X 0 j)) ∧ ((∀ p, p ≠ 0 → p ≠ 1 → t.2 p = Y p) ∧ (∀ j, j ≠ 1 → t.2 0 j = Y 0 j))) ?_ N N _ _ ⟨rfl, ⟨by dsimp only; omega, by dsimp only; omega, by dsimp only; omega, by dsimp only; omega⟩, h, ⟨fun _ _ _ => rfl, fun _ _ => rfl⟩, ⟨fun _ _ _ => rfl, fun _ _ => rfl⟩⟩ (by dsimp only; omega) (by dsimp only; omega)
    rintro h1 h2 ⟨x, X1⟩ ⟨y, Y1⟩ ⟨e, hr, ht, hx, hy⟩ ih
    dsimp only at e hr ht hx hy
    subst e
    unfold x_putFour_L3 m_four_L3 jlt
    dsimp only
    by_cases c : x < 0
    · rw [if_pos c, if_pos c]
      exact wp2_some ⟨rfl, rfl, ht, by dsimp only; omega, hx, hy⟩
    · rw [if_neg c, if_neg c]
      obtain ⟨t1, t2, t3, t4⟩ := ht
      rw [t1, jchk_pos (by omega), jchk_pos (by omega)]
      simp (disch := omega) only [up_row, up_col, up_hit, t1, w32_id]
      refine ih _ _ ⟨rfl, ⟨by dsimp only; omega, by dsimp only; omega, by dsimp only; omega, ?_⟩, ⟨?_, ?_, ?_, fun i i0 i1 => ?_⟩, ⟨fun p p0 p1 => ?_, fun j j1 => ?_⟩, ⟨fun p p0 p1 => ?_, fun j j1 => ?_⟩⟩ (by dsimp only; omega)
      · dsimp only; rw [up_hit rfl rfl]; omega
      · dsimp only; rw [up_hit rfl rfl, up_hit rfl rfl]
      · dsimp only; rw [up_hit rfl rfl]; omega
      · dsimp only; rw [up_hit rfl rfl]; omega
      · dsimp only
        by_cases ci : i = Y1 0 1
        · simp (disch := omega) only [up_row, up_hit]
          exact ⟨trivial, by unfold w8; omega, by unfold w8; omega⟩
        · simp (disch := omega) only [up_row, up_col]; exact t4 i i0 i1
      · dsimp only; rw [up_ne p0, up_ne p1]; exact hx.1 p p0 p1
      · dsimp only; rw [up_col j1, up_row (by omega)]; exact hx.2 j j1
      · dsimp only; rw [up_ne p0, up_ne p1]; exact hy.1 p p0 p1
      · dsimp only; rw [up_col j1, up_row (by omega)]; exact hy.2 j j1
  obtain ⟨⟨v, X'⟩, ⟨v', Y'⟩, e1, e2, q1, q2, q3⟩ := H
  dsimp only at q1 q2 q3
  subst q1; subst q2
  exact ⟨X', Y', e1, e2, q3⟩
/-- the tape and its size alone have changed -/
theorem Rel_tape {X X' Y Y' : jMem} (h : Rel X Y) (ht : TR X' Y') (hx : (∀ p, p ≠ 0 → p ≠ 1 → X' p = X p) ∧ (∀ j, j ≠ 1 → X' 0 j = X 0 j)) (hy : (∀ p, p ≠ 0 → p ≠ 1 → Y' p = Y p) ∧ (∀ j, j ≠ 1 → Y' 0 j = Y 0 j)) : Rel X' Y' ∧ TF X X' := by
  obtain ⟨a, b, c, d, e⟩ := h
  obtain ⟨x1, x2⟩ := hx
  obtain ⟨y1, y2⟩ := hy
  refine ⟨⟨ht, UR_congr b (x2 6 (by omega)) (fun p p1 p2 _ => x1 p (by omega) (by omega)) (y2 2 (by omega)) (y1 2 (by omega) (by omega)) (y1 4 (by omega) (by omega)) (y1 5 (by omega) (by omega)), VR_congr c (fun p p1 p2 => x1 p (by omega) (by omega)) (y1 10 (by omega) (by omega)) (y2 21 (by omega)) (y2 22 (by omega)) (y2 2 (by omega)), AR_congr d (fun p p1 p2 => x1 p (by omega) (by omega)) (y1 10 (by omega) (by omega)) (y1 12 (by omega) (by omega)) (y2 26 (by omega)), IR_congr e (fun p p1 p2 => x1 p (by omega) (by omega)) (y1 21 (by omega) (by omega)) (y1 22 (by omega) (by omega)) (y1 23 (by omega) (by omega)) (y1 24 (by omega) (by omega)) (y2 2 (by omega))⟩, x1 171 (by omega) (by omega), x1 172 (by omega) (by omega), x1 173 (by omega) (by omega)⟩
theorem Rel_s {X Y : jMem} (h : Rel X Y) : SR X 21 (Y 10) ∧ WS (Y 10) ∧ PK X (Y 10) ∧ PR X 15 (Y 10) ∧ NR X 27 (Y 10) ∧ WT (Y 10) := by
  obtain ⟨⟨p, s, n⟩, w, t, -⟩ := h.2.2.1
  exact ⟨s, w, ⟨p.1, p.2.1, p.2.2.2.2.2.2⟩, p, n, t⟩
theorem feed_ok {N : Nat} (hN : 1000 ≤ N) (a1 a2 a3 a4 a5 : Int) : OK (x_feed N a1 a2 a3 a4 a5) (m_feed N a1 a2 a3 a4 a5) := by
  intro X Y h
  have ht := h.1
  obtain ⟨t1, t2, t3, -⟩ := ht
  unfold x_feed m_feed
  rw [t1, w32_id (by omega)]
  by_cases c : 400 < Y 0 1 + 20
  · rw [if_pos c, if_pos c]; exact ⟨_, _, _, rfl, rfl, h, TF_refl⟩
  · rw [if_neg c, if_neg c]
    obtain ⟨X1, Y1, e1, f1, r1, s1, x1, y1⟩ := four_ok hN a1 h.1 (by omega)
    obtain ⟨X2, Y2, e2, f2, r2, s2, x2, y2⟩ := four_ok hN a2 r1 (by omega)
    obtain ⟨X3, Y3, e3, f3, r3, s3, x3, y3⟩ := four_ok hN a3 r2 (by omega)
    obtain ⟨X4, Y4, e4, f4, r4, s4, x4, y4⟩ := four_ok hN a4 r3 (by omega)
    obtain ⟨X5, Y5, e5, f5, r5, s5, x5, y5⟩ := four_ok hN a5 r4 (by omega)
    obtain ⟨R, F⟩ := Rel_tape h r5 ⟨fun p p0 p1 => by rw [x5.1 p p0 p1, x4.1 p p0 p1, x3.1 p p0 p1, x2.1 p p0 p1, x1.1 p p0 p1], fun j j1 => by rw [x5.2 j j1, x4.2 j j1, x3.2 j j1, x2.2 j j1, x1.2 j j1]⟩ ⟨fun p p0 p1 => by rw [y5.1 p p0 p1, y4.1 p p0 p1, y3.1 p p0 p1, y2.1 p p0 p1, y1.1 p p0 p1], fun j j1 => by rw [y5.2 j j1, y4.2 j j1, y3.2 j j1, y2.2 j j1, y1.2 j j1]⟩
    refine ⟨Y5 0 1, X5, Y5, ?_, ?_, R, F⟩
    · simp only [e1, e2, e3, e4, e5, jbv, Option.bind_some, r5.1]
    · simp only [f1, f2, f3, f4, f5, jbv, Option.bind_some]
theorem end_ok {N : Nat} (a : Int) : OK (x_end N a) (m_end N a) := by
  intro X Y h
  obtain ⟨t1, t2, t3, t4⟩ := h.1
  unfold x_end m_end jlt
  rw [t1]
  by_cases c : a < 0
  · rw [if_pos c, if_pos c]; exact ⟨_, _, _, rfl, rfl, h, TF_refl⟩
  · rw [if_neg c, if_neg c]
    by_cases d : Y 0 1 < a
    · rw [if_pos d, if_pos d]; exact ⟨_, _, _, rfl, rfl, h, TF_refl⟩
    · rw [if_neg d, if_neg d]
      obtain ⟨R, F⟩ := Rel_tape (X' := up X 0 1 a) (Y' := up Y 0 1 a) h ⟨by rw [up_hit rfl rfl, up_hit rfl rfl], by rw [up_hit rfl rfl]; omega, by rw [up_hit rfl rfl]; omega, fun i i0 i1 => by rw [up_row (by omega), up_row (by omega)]; exact t4 i i0 i1⟩ ⟨fun p p0 p1 => up_ne p0, fun j j1 => up_col j1⟩ ⟨fun p p0 p1 => up_ne p0, fun j j1 => up_col j1⟩
      exact ⟨_, _, _, rfl, rfl, R, F⟩
/-- the RULE in force and x alone have changed -/
theorem Rel_fx {X X' Y Y' : jMem} (h : Rel X Y) (hx : (∀ p, p ≠ 14 → X' p = X p)) (hy : (∀ p, p ≠ 0 → Y' p = Y p) ∧ (∀ j, j ≠ 21 → j ≠ 22 → Y' 0 j = Y 0 j)) (h3 : X' 14 3 = Y' 0 21 ∧ (-1 ≤ Y' 0 21 ∧ Y' 0 21 < Y 0 2)) (h4 : X' 14 4 = Y' 0 22 ∧ (0 ≤ Y' 0 22 ∧ Y' 0 22 < 2147483648)) : Rel X' Y' ∧ TF X X' := by
  obtain ⟨a, b, c, d, e⟩ := h
  obtain ⟨y1, y2⟩ := hy
  refine ⟨⟨TR_congr a (by rw [hx 0 (by omega)]) (hx 1 (by omega)) (y2 1 (by omega) (by omega)) (y1 1 (by omega)), UR_congr b (by rw [hx 0 (by omega)]) (fun p p1 p2 _ => hx p (by omega)) (y2 2 (by omega) (by omega)) (y1 2 (by omega)) (y1 4 (by omega)) (y1 5 (by omega)), ?_, AR_congr d (fun p p1 p2 => hx p (by omega)) (y1 10 (by omega)) (y1 12 (by omega)) (y2 26 (by omega) (by omega)), IR_congr e (fun p p1 p2 => hx p (by omega)) (y1 21 (by omega)) (y1 22 (by omega)) (y1 23 (by omega)) (y1 24 (by omega)) (y2 2 (by omega) (by omega))⟩, hx 171 (by omega), hx 172 (by omega), hx 173 (by omega)⟩
  obtain ⟨v1, v2, v3, -⟩ := c
  unfold VR
  rw [y1 10 (by omega), y2 2 (by omega) (by omega)]
  exact ⟨WR_congr v1 (fun p p1 p2 => hx p (by omega)), v2, v3, h3.1, h3.2, h4.1, h4.2⟩
theorem force_ok {N : Nat} (a : Int) : OK (x_force N a) (m_force N a) := by
  intro X Y h
  obtain ⟨u1, u2, u3, -⟩ := h.2.1
  obtain ⟨-, -, -, v1, ⟨v2, v3⟩, v4, v5⟩ := h.2.2.1
  obtain ⟨r, e1, -, e3⟩ := within_ok N a (-1) (w32 (X 0 6 - 1)) X Y
  unfold x_force m_force jlt
  dsimp only
  rw [e1, Option.bind_some]
  rw [u1, w32_id (by omega)] at e3
  have R := Rel_fx (X' := up X 14 3 a) (Y' := up Y 0 21 a) h (fun p p0 => up_ne p0) ⟨fun p p0 => up_ne p0, fun j j1 j2 => up_col j1⟩
  rw [v1]
  rcases e3 with ⟨e, b⟩ | ⟨e, b⟩
  · have R := R ⟨by rw [up_hit rfl rfl, up_hit rfl rfl], by rw [up_hit rfl rfl]; omega⟩ ⟨by rw [up_col (by omega), up_col (by omega)]; exact v4, by rw [up_col (by omega)]; exact v5⟩
    rw [if_neg (show ¬ r = 0 by omega)]
    refine ⟨_, _, _, rfl, ?_, R⟩
    by_cases c : a = -1
    · rw [if_pos c]
    · rw [if_neg c]; unfold m_isRule; rw [if_neg (show ¬ a < 0 by omega), if_pos (show a < Y 0 2 by omega), Option.bind_some, if_neg (show ¬ (1 : Int) = 0 by omega)]
  · rw [if_pos e, if_neg (show ¬ a = -1 by omega)]
    refine ⟨_, _, _, rfl, ?_, h, TF_refl⟩
    unfold m_isRule
    by_cases c : a < 0
    · rw [if_pos c, Option.bind_some, if_pos rfl]
    · rw [if_neg c, if_neg (show ¬ a < Y 0 2 by omega), Option.bind_some, if_pos rfl]
theorem seed_ok {N : Nat} (a : Int) (ha : a < 2147483648) : OK (x_seed N a) (m_seed N a) := by
  intro X Y h
  obtain ⟨-, -, -, v1, v2, v4, v5⟩ := h.2.2.1
  unfold x_seed m_seed jlt
  by_cases c : a < 0
  · rw [if_pos c, if_pos c]; exact ⟨_, _, _, rfl, rfl, h, TF_refl⟩
  · rw [if_neg c, if_neg c, v4]
    have R := Rel_fx (X' := up X 14 4 a) (Y' := up Y 0 22 a) h (fun p p0 => up_ne p0) ⟨fun p p0 => up_ne p0, fun j j1 j2 => up_col j2⟩ ⟨by rw [up_col (by omega), up_col (by omega)]; exact v1, by rw [up_col (by omega)]; exact v2⟩ ⟨by rw [up_hit rfl rfl, up_hit rfl rfl], by rw [up_hit rfl rfl]; omega⟩
    exact ⟨_, _, _, rfl, rfl, R⟩
theorem well_ok {N : Nat} (hN : 1000 ≤ N) (a b : Int) : OKp (x_well N a b) (m_well N a b) := by
  intro X Y h
  obtain ⟨r, -, e2, e3, e4⟩ := isFarm_ok N a h
  obtain ⟨s, w, -⟩ := Rel_s h
  have w1 := w.1
  unfold x_well m_well
  rw [e2, e3, Option.bind_some, Option.bind_some]
  rcases e4 with ⟨e, b1, b2⟩ | ⟨e, b1⟩
  · rw [if_neg (show ¬ r = 0 by omega), if_neg (show ¬ r = 0 by omega)]
    obtain ⟨f, f1, f2, -⟩ := farmOf_ok hN s w ⟨b1, b2⟩
    obtain ⟨f0, f1', fd, ft, fw, fh, fe⟩ := s
    have d1 := fd a b1 (by omega)
    have d2 := ft a b1 (by omega)
    have d3 := fw a b1 (by omega)
    simp (disch := omega) only [jchk_pos, w32_id]
    by_cases c0 : b = 0
    · rw [if_pos c0, if_pos c0]; exact ⟨_, rfl, by rw [← d1]; rfl⟩
    · rw [if_neg c0, if_neg c0]
      by_cases c1 : b = 1
      · rw [if_pos c1, if_pos c1]; exact ⟨_, rfl, by rw [← d2]; rfl⟩
      · rw [if_neg c1, if_neg c1]
        by_cases c2 : b = 2
        · rw [if_pos c2, if_pos c2]; exact ⟨_, rfl, by rw [← d3]; rfl⟩
        · rw [if_neg c2, if_neg c2]
          by_cases c3 : b = 3
          · rw [if_pos c3, if_pos c3, f1, f2]; exact ⟨_, rfl, rfl⟩
          · rw [if_neg c3, if_neg c3]; exact ⟨_, rfl, rfl⟩
  · rw [if_pos e, if_pos e]; exact ⟨_, rfl, rfl⟩
theorem farm_ok {N : Nat} (a b : Int) : OKp (x_farm N a b) (m_farm N a b) := by
  intro X Y h
  obtain ⟨r, e2, -, e3, e4⟩ := isFarm_ok N a h
  obtain ⟨s, w, -, p, -⟩ := Rel_s h
  have w1 := w.1
  unfold x_farm m_farm
  rw [e2, e3, Option.bind_some, Option.bind_some]
  rcases e4 with ⟨e, b1, b2⟩ | ⟨e, b1⟩
  · rw [if_neg (show ¬ r = 0 by omega), if_neg (show ¬ r = 0 by omega)]
    obtain ⟨f0, f1', fd, ft, fw, fh, fe⟩ := s
    obtain ⟨-, -, -, -, pd, -, pk⟩ := p
    have d1 := pd a b1 (by omega)
    have d2 := fe a b1 (by omega)
    have d3 := fh a b1 (by omega)
    have d4 := pk a b1 (by omega)
    simp (disch := omega) only [jchk_pos, w32_id]
    by_cases c0 : b = 0
    · rw [if_pos c0, if_pos c0]; exact ⟨_, rfl, by rw [← d1]; rfl⟩
    · rw [if_neg c0, if_neg c0]
      by_cases c1 : b = 1
      · rw [if_pos c1, if_pos c1]; exact ⟨_, rfl, by rw [← d2]; rfl⟩
      · rw [if_neg c1, if_neg c1]
        by_cases c2 : b = 2
        · rw [if_pos c2, if_pos c2]; exact ⟨_, rfl, by rw [← d3]; rfl⟩
        · rw [if_neg c2, if_neg c2]
          by_cases c3 : b = 3
          · rw [if_pos c3, if_pos c3]; exact ⟨_, rfl, by rw [← d4]; rfl⟩
          · rw [if_neg c3, if_neg c3]; exact ⟨_, rfl, rfl⟩
  · rw [if_pos e, if_pos e]; exact ⟨_, rfl, rfl⟩
theorem lieop_ok {N : Nat} (hN : 1000 ≤ N) : OKp (x_lie N) (m_lie N) := by
  intro X Y h
  obtain ⟨r, e2, e3, e4⟩ := hasParish_ok N h
  obtain ⟨s, w, -⟩ := Rel_s h
  unfold x_lie m_lie
  rw [e2, e3, Option.bind_some, Option.bind_some]
  obtain ⟨v, f1, f2⟩ := lie_ok hN s w
  rw [f1, f2]
  by_cases c : r = 0
  · rw [if_pos c]; exact ⟨_, rfl, rfl⟩
  · rw [if_neg c]; exact ⟨_, rfl, rfl⟩
theorem one_some {T : Option Int} (h : T.isSome = true) : ∃ v, T = some v ∧ T = some v := by
  cases T with
  | none => exact absurd h (by decide)
  | some v => exact ⟨v, rfl, rfl⟩
theorem count_ok {N : Nat} (hN : 1000 ≤ N) (a : Int) : OKp (x_count N a) (m_count N a) := by
  intro X Y h
  obtain ⟨-, -, -, v1, -, v4, -⟩ := h.2.2.1
  obtain ⟨s, w, pk, p, n, -⟩ := Rel_s h
  have u1 := h.2.1.1
  have t1 := h.1.1
  have ar := h.2.2.2.1.1
  obtain ⟨k5, x5, y5, -⟩ := homeBits_ok hN s w
  obtain ⟨k6, x6, y6, -⟩ := water_ok hN s w
  obtain ⟨k7, x7, y7, -⟩ := heirs_ok hN s w
  obtain ⟨k8, x8, y8⟩ := twos_ok hN s pk w
  unfold x_count m_count
  rw [x5, y5, x6, y6, x7, y7, x8, y8, u1, v1, v4, t1, ar, show X 21 1 = Y 10 10 from s.2.1, show X 27 0 = Y 10 111 from n.1]
  by_cases b0 : a = 0
  · rw [if_pos b0, if_pos b0, b0]; exact ⟨_, rfl, by rw [show X 15 0 = Y 10 1 from p.1]; rfl⟩
  · rw [if_neg b0, if_neg b0]
    by_cases b1 : a = 1
    · rw [if_pos b1, if_pos b1, b1]; exact ⟨_, rfl, by rw [show X 15 1 = Y 10 2 from p.2.1]; rfl⟩
    · rw [if_neg b1, if_neg b1]
      refine one_some ?_
      repeat' (first | rfl | split)
