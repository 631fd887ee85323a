/-! acts by hand -/
theorem wed_ok {N : Nat} (hN : 1000 ≤ N) (a b : Int) : OK (x_wed N a b) (m_wed N a b) := by
  intro X Y h
  obtain ⟨r, e1, -, e3, e4⟩ := isFarm_ok N a h
  obtain ⟨r', e1', -, e3', e4'⟩ := isFarm_ok N b h
  obtain ⟨s, w, pk, -⟩ := Rel_s h
  unfold x_wed m_wed
  rw [e1, e1', Option.bind_some, Option.bind_some]
  by_cases c : r = 0
  · have : m_canWed N a b Y = some 0 := by unfold m_canWed; rw [e3, Option.bind_some, if_pos c]
    rw [if_pos c, this, Option.bind_some, if_pos rfl]; exact ⟨_, _, _, rfl, rfl, h, TF_refl⟩
  · rw [if_neg c]
    by_cases c' : r' = 0
    · have : m_canWed N a b Y = some 0 := by unfold m_canWed; rw [e3, Option.bind_some, if_neg c, e3', Option.bind_some, if_pos c']
      rw [if_pos c', this, Option.bind_some, if_pos rfl]; exact ⟨_, _, _, rfl, rfl, h, TF_refl⟩
    · rw [if_neg c']
      obtain ⟨v, x1, y1, hv⟩ := canWed_ok (N := N) s pk w (a := a) (b := b) (by omega) (by omega)
      rw [x1, y1, Option.bind_some, Option.bind_some]
      by_cases cv : v = 0
      · rw [if_pos cv, if_pos cv]; exact ⟨_, _, _, rfl, rfl, h, TF_refl⟩
      · rw [if_neg cv, if_neg cv]
        obtain ⟨X1, Y1, k1, k2, R1, F1, fx, fy, fy0⟩ := keep_ok hN h
        have g10 := fy 10 (by omega) (by omega)
        obtain ⟨s1, w1, -, -, -, wt1⟩ := Rel_s R1
        obtain ⟨X2, Y2, m1, m2, s2, w2, fX, fY, hy⟩ := marry_ok (N := N) s1 w1 (a := a) (b := b) (by rw [g10]; omega) (by rw [g10]; omega) (by omega) (by rw [g10]; omega) (by rw [g10]; omega)
        obtain ⟨t, n1, n2, n3, -⟩ := homes_ok hN s2 w2
        obtain ⟨R2, F2⟩ := Rel_said R1 (fun p hp _ => fX.1 p (by omega)) (fun p hp => fY.1 p (by omega)) (fun j hj => by rw [fY.1 0 (by omega)]) fY.2 s2 w2 (by rw [hy]; exact wt1.2.2.2.2.2.2)
        refine ⟨pcn t, X2, Y2, ?_, ?_, R2, ?_⟩
        · simp only [k1, m1, n1, jbv, Option.bind_some]
        · simp only [k2, m2, n2, n3, jbv, Option.bind_some]
        · exact ⟨F2.1.trans F1.1, F2.2.1.trans F1.2.1, F2.2.2.trans F1.2.2⟩
theorem TF_trans {X X' X'' : jMem} (h : TF X X') (h' : TF X' X'') : TF X X'' := ⟨h'.1.trans h.1, h'.2.1.trans h.2.1, h'.2.2.trans h.2.2⟩
theorem pour_ok {N : Nat} (hN : 1000 ≤ N) (a b : Int) : OK (x_pour N a b) (m_pour N a b) := by
  intro X Y h
  obtain ⟨r, -, e2, e3, e4⟩ := isFarm_ok N a h
  obtain ⟨r', e1', e2', e4'⟩ := within_ok N b 1 30 X Y
  have w0 := h.2.2.1.2.1.1
  unfold x_pour m_pour
  rw [e2, e3, e1', e2', Option.bind_some, Option.bind_some, Option.bind_some, Option.bind_some]
  by_cases c : r = 0
  · rw [if_pos c, if_pos c]; exact ⟨_, _, _, rfl, rfl, h, TF_refl⟩
  · rw [if_neg c, if_neg c]
    by_cases c' : r' = 0
    · rw [if_pos c', if_pos c']; exact ⟨_, _, _, rfl, rfl, h, TF_refl⟩
    · rw [if_neg c', if_neg c']
      obtain ⟨X1, Y1, k1, k2, R1, F1, fx, fy, fy0⟩ := keep_ok hN h
      obtain ⟨s1, w1, -, -, -, wt1⟩ := Rel_s R1
      obtain ⟨s0, s1', sd, st, sw, sh, se⟩ := s1
      have g1 := sd a (by omega) (by omega)
      have g2 := sw a (by omega) (by omega)
      have q1 := w1.2.2.1 a (by omega) (by omega)
      have q2 := w1.2.2.2.2.1 a (by omega) (by omega)
      generalize hv : jmin (Y1 10 (25 + a) + b) (Y1 10 (11 + a)) = v
      have hvr : 0 ≤ v ∧ v ≤ 40 := by rw [← hv]; exact jmin_in (by omega) (by omega) (by omega)
      obtain ⟨R2, F2⟩ := Rel_said (X' := up X1 24 a v) (Y' := up Y1 10 (25 + a) v) R1 (fun p hp _ => up_ne (by omega)) (fun p hp => up_ne (by omega)) (fun j hj => up_row (by omega)) (fun k hk => up_col (by omega)) ⟨by rw [up_row (by omega), up_col (by omega)]; exact s0, by rw [up_row (by omega), up_col (by omega)]; exact s1', fun i i0 i1 => by rw [up_row (by omega), up_col (by omega)]; exact sd i i0 i1, fun i i0 i1 => by rw [up_row (by omega), up_col (by omega)]; exact st i i0 i1, fun i i0 i1 => by
          by_cases ci : i = a
          · rw [up_hit (by omega) ci, up_hit rfl (by omega)]
          · rw [up_col ci, up_col (by omega)]; exact sw i i0 i1, fun i i0 i1 => by rw [up_row (by omega), up_col (by omega)]; exact sh i i0 i1, fun i i0 i1 => by rw [up_row (by omega), up_col (by omega)]; exact se i i0 i1⟩ (WS_of w1 (up_col (by omega)) (up_col (by omega)) (fun i i0 i1 => by rw [up_col (by omega)]; exact w1.2.2.1 i i0 i1) (fun i i0 i1 => by rw [up_col (by omega)]; exact w1.2.2.2.1 i i0 i1) (fun i i0 i1 => by
          by_cases ci : i = a
          · rw [up_hit rfl (by omega)]; exact hvr
          · rw [up_col (by omega)]; exact w1.2.2.2.2.1 i i0 i1) (fun i i0 i1 => up_col (by omega)) (fun i i0 i1 => by rw [up_col (by omega)]; exact w1.2.2.2.2.2.2.1 i i0 i1) (fun i i0 i1 => by rw [up_col (by omega)]; exact w1.2.2.2.2.2.2.2.1 i i0 i1) (fun i i0 i1 => up_col (by omega))) (by rw [up_col (by omega)]; exact wt1.2.2.2.2.2.2)
      refine ⟨v, up X1 24 a v, up Y1 10 (25 + a) v, ?_, ?_, R2, TF_trans F1 F2⟩
      · rw [k1]; unfold jbv; rw [Option.bind_some]; dsimp only
        unfold St_addWater jlt
        rw [jchk_pos (by omega), jchk_pos (by omega), jchk_pos (by omega), g2, g1, w32_id (by omega), hv, Option.bind_some, jchk_pos (by omega)]
        dsimp only
        rw [up_hit (by omega) rfl]; rfl
      · rw [k2]; unfold jbv jlt; rw [Option.bind_some]; dsimp only
        rw [w32_id (x := 25 + a) (by omega), w32_id (x := 11 + a) (by omega), jchk_pos (by omega), jchk_pos (by omega), lesser_ok, Option.bind_some, w32_id (by omega), hv, jchk_pos (by omega), jchk_pos (by omega), up_hit rfl rfl]
theorem dig_ok {N : Nat} (hN : 1000 ≤ N) (a b : Int) : OK (x_dig N a b) (m_dig N a b) := by
  intro X Y h
  obtain ⟨r, -, e2, e3, e4⟩ := isFarm_ok N a h
  obtain ⟨r', e1', e2', e4'⟩ := within_ok N b 1 9 X Y
  have w0 := h.2.2.1.2.1.1
  unfold x_dig m_dig
  rw [e2, e3, e1', e2', Option.bind_some, Option.bind_some, Option.bind_some, Option.bind_some]
  by_cases c : r = 0
  · rw [if_pos c, if_pos c]; exact ⟨_, _, _, rfl, rfl, h, TF_refl⟩
  · rw [if_neg c, if_neg c]
    by_cases c' : r' = 0
    · rw [if_pos c', if_pos c']; exact ⟨_, _, _, rfl, rfl, h, TF_refl⟩
    · rw [if_neg c', if_neg c']
      obtain ⟨X1, Y1, k1, k2, R1, F1, fx, fy, fy0⟩ := keep_ok hN h
      obtain ⟨s1, w1, -, -, -, wt1⟩ := Rel_s R1
      obtain ⟨s0, s1', sd, st, sw, sh, se⟩ := s1
      have g1 := sd a (by omega) (by omega)
      have q1 := w1.2.2.1 a (by omega) (by omega)
      generalize hv : jmin (Y1 10 (11 + a) + b) 40 = v
      have hvr : 0 ≤ v ∧ v ≤ 40 := by rw [← hv]; exact jmin_in (by omega) (by omega) (by omega)
      obtain ⟨R2, F2⟩ := Rel_said (X' := up X1 22 a v) (Y' := up Y1 10 (11 + a) v) R1 (fun p hp _ => up_ne (by omega)) (fun p hp => up_ne (by omega)) (fun j hj => up_row (by omega)) (fun k hk => up_col (by omega)) ⟨by rw [up_row (by omega), up_col (by omega)]; exact s0, by rw [up_row (by omega), up_col (by omega)]; exact s1', fun i i0 i1 => by
          by_cases ci : i = a
          · rw [up_hit (by omega) ci, up_hit rfl (by omega)]
          · rw [up_col ci, up_col (by omega)]; exact sd i i0 i1, fun i i0 i1 => by rw [up_row (by omega), up_col (by omega)]; exact st i i0 i1, fun i i0 i1 => by rw [up_row (by omega), up_col (by omega)]; exact sw i i0 i1, fun i i0 i1 => by rw [up_row (by omega), up_col (by omega)]; exact sh i i0 i1, fun i i0 i1 => by rw [up_row (by omega), up_col (by omega)]; exact se i i0 i1⟩ (WS_of w1 (up_col (by omega)) (up_col (by omega)) (fun i i0 i1 => by
          by_cases ci : i = a
          · rw [up_hit rfl (by omega)]; exact hvr
          · rw [up_col (by omega)]; exact w1.2.2.1 i i0 i1) (fun i i0 i1 => by rw [up_col (by omega)]; exact w1.2.2.2.1 i i0 i1) (fun i i0 i1 => by rw [up_col (by omega)]; exact w1.2.2.2.2.1 i i0 i1) (fun i i0 i1 => up_col (by omega)) (fun i i0 i1 => by rw [up_col (by omega)]; exact w1.2.2.2.2.2.2.1 i i0 i1) (fun i i0 i1 => by rw [up_col (by omega)]; exact w1.2.2.2.2.2.2.2.1 i i0 i1) (fun i i0 i1 => up_col (by omega))) (by rw [up_col (by omega)]; exact wt1.2.2.2.2.2.2)
      refine ⟨v, up X1 22 a v, up Y1 10 (11 + a) v, ?_, ?_, R2, TF_trans F1 F2⟩
      · rw [k1]; unfold jbv; rw [Option.bind_some]; dsimp only
        unfold St_addDepth jlt
        rw [jchk_pos (by omega), jchk_pos (by omega), g1, w32_id (by omega), hv, Option.bind_some, jchk_pos (by omega)]
        dsimp only
        rw [up_hit (by omega) rfl]; rfl
      · rw [k2]; unfold jbv jlt; rw [Option.bind_some]; dsimp only
        rw [w32_id (x := 11 + a) (by omega), jchk_pos (by omega), lesser_ok, Option.bind_some, w32_id (by omega), hv, jchk_pos (by omega), jchk_pos (by omega), up_hit rfl rfl]
theorem birth_ok {N : Nat} (hN : 1000 ≤ N) (a : Int) : OK (x_birth N a) (m_birth N a) := by
  intro X Y h
  obtain ⟨r, e1, -, e3, e4⟩ := isFarm_ok N a h
  obtain ⟨s, w, -⟩ := Rel_s h
  have w0 := w.1
  unfold x_birth m_birth
  rw [e1, e3, Option.bind_some, Option.bind_some]
  by_cases c : r = 0
  · rw [if_pos c, if_pos c]; exact ⟨_, _, _, rfl, rfl, h, TF_refl⟩
  · rw [if_neg c, if_neg c]
    have g : X 26 a = Y 10 (39 + a) := s.2.2.2.2.2.2 a (by omega) (by omega)
    have q := w.2.2.2.2.2.2.1 a (by omega) (by omega)
    rw [w32_id (x := 39 + a) (by omega), jchk_pos (by omega), jchk_pos (by omega), g]
    by_cases c' : Y 10 (39 + a) = 9
    · rw [if_neg (show ¬ _ < _ by omega), if_pos c']; exact ⟨_, _, _, rfl, rfl, h, TF_refl⟩
    · rw [if_pos (show _ < _ by omega), if_neg c']
      obtain ⟨X1, Y1, k1, k2, R1, F1, fx, fy, fy0⟩ := keep_ok hN h
      obtain ⟨s1, w1, -, -, -, wt1⟩ := Rel_s R1
      obtain ⟨X2, Y2, m1, m2, s2, w2, f1, f2, f3⟩ := addHeir_ok (N := N) s1 w1 (a := a) (by omega)
      obtain ⟨R2, F2⟩ := Rel_said R1 (fun p hp _ => f1 p (by omega)) (fun p hp => f2 p (by omega)) (fun j hj => by rw [f2 0 (by omega)]) (fun k hk => f3 k (by omega)) s2 w2 (by rw [f3 10 (by omega)]; exact wt1.2.2.2.2.2.2)
      have g2 : X2 26 a = Y2 10 (39 + a) := s2.2.2.2.2.2.2 a (by omega) (by omega)
      refine ⟨Y2 10 (39 + a), X2, Y2, ?_, ?_, R2, TF_trans F1 F2⟩
      · simp only [k1, m1, jbv, Option.bind_some, g2]; rw [jchk_pos (by omega)]
      · simp only [k2, m2, jbv, Option.bind_some]; rw [jchk_pos (by omega)]
theorem year_ok {N : Nat} (hN : 1000 ≤ N) : OK (x_year N) (m_year N) := by
  intro X Y h
  obtain ⟨r, e1, e3, e4⟩ := hasParish_ok N h
  obtain ⟨s, w, -, -, -, wt⟩ := Rel_s h
  have g : X 21 1 = Y 10 10 := s.2.1
  have q := wt.2.2.2.2.2.2
  unfold x_year m_year
  rw [e1, e3, Option.bind_some, Option.bind_some, g]
  by_cases c : r = 0
  · rw [if_pos c, if_pos c]; exact ⟨_, _, _, rfl, rfl, h, TF_refl⟩
  · rw [if_neg c, if_neg c]
    by_cases c' : Y 10 10 = 999
    · rw [if_neg (show ¬ _ < _ by omega), if_pos c']; exact ⟨_, _, _, rfl, rfl, h, TF_refl⟩
    · rw [if_pos (show _ < _ by omega), if_neg c']
      obtain ⟨X1, Y1, k1, k2, R1, F1, fx, fy, fy0⟩ := keep_ok hN h
      obtain ⟨rl, i1, i2, i3⟩ := inForce_ok (N := N) R1
      have g10 := fy 10 (by omega) (by omega)
      obtain ⟨v, v', X2, Y2, p1, p2, p3, p4, p5, p6, p7, -⟩ := pass_ok hN (q := 21) (qy := 154) (d := 18) (Or.inl ⟨rfl, rfl, rfl⟩) (Rel_YB R1 i2) (by rw [g10]; omega)
      obtain ⟨R2, F2⟩ := Rel_said R1 (fun p hp hs => p5 p (by omega) (by omega) hs) (fun p hp => p6.1 p (by omega) (by omega) (by omega) (by omega) (by omega)) (fun j hj => p6.2.1 j (by omega) (by omega)) p6.2.2 p4.1 p4.2.2.1 (by rw [p7, g10]; omega)
      refine ⟨v, X2, Y2, ?_, ?_, R2, TF_trans F1 F2⟩
      · simp only [k1, i1, p1, jbv, jb1, Option.bind_some]; rw [jchk_pos i3]
      · simp only [k2, p2, jbv, jb1, Option.bind_some]
        rcases p3 with ⟨z1, z2⟩ | ⟨z1, z2⟩
        · rw [if_pos (by omega), z1]
        · rw [if_neg (by omega), z1]
theorem undo_ok {N : Nat} (hN : 1000 ≤ N) : OK (x_undo N) (m_undo N) := by
  intro X Y h
  have hR := h
  obtain ⟨a, b, c, d, e⟩ := h
  obtain ⟨d1, d2, d3, d4⟩ := d
  unfold x_undo m_undo
  rw [d1]
  by_cases c0 : Y 0 26 = 0
  · rw [if_pos c0, if_pos c0]; exact ⟨_, _, _, rfl, rfl, hR, TF_refl⟩
  · rw [if_neg c0, if_neg c0]
    obtain ⟨g1, g2, g3⟩ := d4 (Y 0 26 - 1) (by omega) (by omega)
    generalize hn : (X 31 1 + 19) % 20 = n
    have hnr : 0 ≤ n ∧ n < 20 := by omega
    rw [show (X 31 1 - Y 0 26 + (Y 0 26 - 1)) % 20 = n by omega] at g1
    obtain ⟨X1, e1, f1, h1⟩ := cpS (N := N) (q := 21) (a := 33 + 6 * n) (up X 31 1 n) (by omega)
    have hs := h1 _ (SR_congr (X' := up X 31 1 n) g1 (fun p p1 p2 => up_ne (by omega)))
    have H : wp (jfix N (m_undo_L21 N) (0, up Y 0 26 (w32 (Y 0 26 - 1)))) (fun o => o.1 = Y 0 26 - 1 ∧ (∀ p, p ≠ 0 → p ≠ 10 → o.2 p = Y p) ∧ (∀ j, j ≠ 26 → o.2 0 j = Y 0 j) ∧ o.2 0 26 = Y 0 26 - 1 ∧ o.2 10 = wasR Y (Y 0 26 - 1)) := by
      rw [w32_id (by omega)]
      refine wp_fix (fun s => (36 - s.1).toNat) (fun (s : Int × jMem) => (0 ≤ s.1 ∧ s.1 ≤ 36) ∧ (∀ p, p ≠ 0 → p ≠ 10 → s.2 p = Y p) ∧ (∀ j, j ≠ 26 → s.2 0 j = Y 0 j) ∧ s.2 0 26 = Y 0 26 - 1 ∧ (∀ k, k < 10 ∨ 46 ≤ k → s.2 10 k = Y 10 k) ∧ (∀ k, 0 ≤ k → k < s.1 → s.2 10 (10 + k) = Y 12 (36 * (Y 0 26 - 1) + k))) ?_ N _ ⟨⟨by dsimp only; omega, by dsimp only; omega⟩, fun p p0 _ => by dsimp only; rw [up_ne p0], fun j j0 => by dsimp only; rw [up_col j0], by dsimp only; rw [up_hit rfl rfl], fun k _ => by dsimp only; rw [up_row (show (10 : Int) ≠ 0 by omega)], fun k k0 k1 => by dsimp only at k1; omega⟩ (by dsimp only; omega)
      rintro hh ⟨x, Z⟩ ⟨⟨x0, x1⟩, f, g, i, j, k⟩ ih
      dsimp only at x0 x1 f g i j k
      unfold m_undo_L21 jlt
      dsimp only
      rw [i, f 12 (by omega) (by omega)]
      by_cases cx : x < 36
      · rw [if_pos cx]
        simp (disch := omega) only [jchk_pos, w32_id]
        refine ih _ ⟨⟨by dsimp only; omega, by dsimp only; omega⟩, fun p p0 p1 => ?_, fun t ht => ?_, ?_, fun t ht => ?_, fun t t0 t1 => ?_⟩ (by dsimp only; omega)
        · dsimp only; rw [up_ne p1]; exact f p p0 p1
        · dsimp only; rw [up_row (by omega)]; exact g t ht
        · dsimp only; rw [up_row (by omega)]; exact i
        · dsimp only; rw [up_col (by omega)]; exact j t ht
        · dsimp only at t1 ⊢
          by_cases ct : t = x
          · rw [up_hit rfl (by omega), ct]
          · rw [up_col (by omega)]; exact k t t0 (by omega)
      · rw [if_neg cx]
        refine wp_some ⟨rfl, f, g, i, ?_⟩
        funext t
        unfold wasR
        dsimp only
        by_cases ct : 10 ≤ t ∧ t < 46
        · rw [if_pos ct, ← k (t - 10) (by omega) (by omega), show 10 + (t - 10) = t by omega]
        · rw [if_neg ct]; exact j t (by omega)
    obtain ⟨⟨v, Y'⟩, ey, q1, q2, q3, q4, q5⟩ := H
    dsimp only at q1 q2 q3 q4 q5
    subst q1
    have hX : ∀ p, p ≠ 31 → p < 21 ∨ 26 < p → up X1 31 2 (Y 0 26 - 1) p = X p := fun p p0 p1 => by rw [up_ne p0, f1 p (by omega), up_ne p0]
    have hwas : ∀ j, wasR Y' j = wasR Y j := fun j => by
      funext k; unfold wasR; rw [q2 12 (by omega) (by omega)]
      by_cases ck : 10 ≤ k ∧ k < 46
      · rw [if_pos ck, if_pos ck]
      · rw [if_neg ck, if_neg ck, q5]; unfold wasR; rw [if_neg ck]
    have A1 : Rel (up (up X 31 1 n) 31 2 (Y 0 26 - 1)) (up Y 0 26 (Y 0 26 - 1)) := by
      have hk : ∀ p, p ≠ 31 → up (up X 31 1 n) 31 2 (Y 0 26 - 1) p = X p := fun p hp => by rw [up_ne hp, up_ne hp]
      refine ⟨TR_congr a (by rw [hk 0 (by omega)]) (hk 1 (by omega)) (up_col (by omega)) (up_ne (by omega)), UR_congr b (by rw [hk 0 (by omega)]) (fun p p1 p2 p3 => hk p (by omega)) (up_col (by omega)) (up_ne (by omega)) (up_ne (by omega)) (up_ne (by omega)), VR_congr c (fun p p1 p2 => hk p (by omega)) (up_ne (by omega)) (up_col (by omega)) (up_col (by omega)) (up_col (by omega)), ?_, IR_congr e (fun p p1 p2 => hk p (by omega)) (up_ne (by omega)) (up_ne (by omega)) (up_ne (by omega)) (up_ne (by omega)) (up_col (by omega))⟩
      unfold AR
      rw [up_hit rfl rfl, up_hit rfl rfl, up_col (by omega), up_hit rfl rfl]
      refine ⟨rfl, by omega, hnr, fun j j0 j1 => ?_⟩
      obtain ⟨r1, r2⟩ := d4 j j0 (by omega)
      rw [wasR_congr (up_ne (by omega)) (up_ne (by omega)), show (n - (Y 0 26 - 1) + j) % 20 = (X 31 1 - Y 0 26 + j) % 20 by omega]
      have hmr : 0 ≤ (X 31 1 - Y 0 26 + j) % 20 ∧ (X 31 1 - Y 0 26 + j) % 20 < 20 := by omega
      exact ⟨SR_congr r1 (fun p p1 p2 => by rw [up_ne (by omega), up_ne (by omega)]), r2⟩
    have e31 : up X1 31 2 (Y 0 26 - 1) 31 = up (up X 31 1 n) 31 2 (Y 0 26 - 1) 31 := by
      funext j
      by_cases cj : j = 2
      · rw [up_hit rfl cj, up_hit rfl cj]
      · rw [up_col cj, up_col cj, f1 31 (by omega)]
    have R2 := Rel_said (X' := up X1 31 2 (Y 0 26 - 1)) (Y' := Y') A1 (fun p hp _ => by
        by_cases cp : p = 31
        · rw [cp]; exact e31
        · rw [hX p cp (by omega), up_ne cp, up_ne cp]) (fun p hp => by rw [q2 p (by omega) (by omega), up_ne (by omega)]) (fun j hj => by
        by_cases cj : j = 26
        · rw [cj, q4, up_hit rfl rfl]
        · rw [q3 j cj, up_col cj]) (fun k hk => by rw [q5]; unfold wasR; rw [if_neg (by omega), up_row (by omega)]) (by rw [q5]; exact SR_congr hs (fun p p1 p2 => up_ne (by omega))) (by rw [q5]; exact g2) (by rw [q5]; exact g3)
    refine ⟨Y 0 26 - 1, up X1 31 2 (Y 0 26 - 1), Y', ?_, ey, R2.1, ?_⟩
    · unfold Ac_takeBack jlt
      dsimp only
      rw [w32_id (x := X 31 1 + 20) (by omega), w32_id (by omega), tm_nn (by omega), show (X 31 1 + 20 - 1) % 20 = n by omega, up_hit rfl rfl, jchk_pos (by omega), show (32 + 1 + 6 * n : Int) = 33 + 6 * n by omega, e1]
      unfold jbv
      rw [Option.bind_some]
      dsimp only
      rw [f1 31 (by omega), up_col (by omega), d1, w32_id (by omega), Option.bind_some]
      dsimp only
      rw [up_hit rfl rfl]
    · exact ⟨hX 171 (by omega) (by omega), hX 172 (by omega) (by omega), hX 173 (by omega) (by omega)⟩
