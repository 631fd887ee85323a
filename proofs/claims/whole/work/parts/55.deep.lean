/-! how deep a WELL was, how it tasted -/
theorem beginX {N : Nat} (hN : 1000 ≤ N) (X : jMem) : ∃ X2, St_begin N 161 15 X = some (0, X2) ∧ (∀ p, p < 161 ∨ 166 < p → X2 p = X p) ∧ X2 161 0 = X 15 0 ∧ X2 161 1 = 0 ∧ (∀ i, 0 ≤ i → i < 7 → X2 162 i = X 16 i ∧ X2 163 i = X 17 i ∧ X2 164 i = X 16 i ∧ X2 165 i = i ∧ X2 166 i = X 19 i) := by
  have H : wp (St_begin N 161 15 X) (fun o => o.1 = 0 ∧ (∀ p, p < 161 ∨ 166 < p → o.2 p = X p) ∧ o.2 161 0 = X 15 0 ∧ o.2 161 1 = 0 ∧ (∀ i, 0 ≤ i → i < 7 → o.2 162 i = X 16 i ∧ o.2 163 i = X 17 i ∧ o.2 164 i = X 16 i ∧ o.2 165 i = i ∧ o.2 166 i = X 19 i)) := by
    unfold St_begin jlt
    dsimp only
    refine wp_fix (fun s => (7 - s.1).toNat) (fun (s : Int × jMem) => (0 ≤ s.1 ∧ s.1 ≤ 7) ∧ (∀ p, p < 161 ∨ 166 < p → s.2 p = X p) ∧ s.2 161 0 = X 15 0 ∧ s.2 161 1 = 0 ∧ (∀ i, 0 ≤ i → i < s.1 → s.2 162 i = X 16 i ∧ s.2 163 i = X 17 i ∧ s.2 164 i = X 16 i ∧ s.2 165 i = i ∧ s.2 166 i = X 19 i)) ?_ N _ ⟨⟨by dsimp only; omega, by dsimp only; omega⟩, fun p hp => by dsimp only; rw [up_ne (by omega), up_ne (by omega)], by dsimp only; rw [up_col (by omega), up_hit rfl rfl], by dsimp only; rw [up_hit rfl rfl], fun i i0 i1 => by dsimp only at i1; omega⟩ (by dsimp only; omega)
    rintro h ⟨x, Xc⟩ ⟨hx, f, g0, g1, g⟩ ih
    dsimp only at hx f g0 g1 g
    unfold St_begin_L15 jlt
    dsimp only
    by_cases c : x < 7
    · rw [if_pos c]
      simp (disch := omega) only [jchk_pos, up_row, w32_id, show (15 + 1 : Int) = 16 by omega, show (15 + 2 : Int) = 17 by omega, show (15 + 4 : Int) = 19 by omega, show (161 + 1 : Int) = 162 by omega, show (161 + 2 : Int) = 163 by omega, show (161 + 3 : Int) = 164 by omega, show (161 + 4 : Int) = 165 by omega, show (161 + 5 : Int) = 166 by omega, f 16 (by omega), f 17 (by omega), f 19 (by omega)]
      refine ih _ ⟨⟨by dsimp only; omega, by dsimp only; omega⟩, fun p hp => ?_, ?_, ?_, fun i i0 i1 => ?_⟩ (by dsimp only; omega)
      · dsimp only; rw [up_ne (by omega), up_ne (by omega), up_ne (by omega), up_ne (by omega), up_ne (by omega)]; exact f p hp
      · simp (disch := omega) only [up_row]; exact g0
      · simp (disch := omega) only [up_row]; exact g1
      · dsimp only at i1 ⊢
        by_cases ci : i = x
        · subst ci
          simp (disch := omega) only [up_row, up_hit]
          exact ⟨trivial, trivial, trivial, trivial, trivial⟩
        · simp (disch := omega) only [up_row, up_col]
          exact g i i0 (by omega)
    · rw [if_neg c]
      exact wp_some ⟨rfl, f, g0, g1, fun i i0 i1 => g i i0 (by omega)⟩
  obtain ⟨⟨v, X2⟩, e, q1, q2⟩ := H
  dsimp only at q1 q2
  subst q1
  exact ⟨X2, e, q2⟩
theorem beginY {N : Nat} (hN : 1000 ≤ N) (Y : jMem) : ∃ Y2, m_begins N Y = some (0, Y2) ∧ (∀ p, p ≠ 10 → Y2 p = Y p) ∧ (∀ k, k < 10 ∨ 46 ≤ k → Y2 10 k = Y 10 k) ∧ Y2 10 10 = 0 ∧ (∀ i, 0 ≤ i → i < 7 → Y2 10 (11 + i) = Y 10 (60 + i) ∧ Y2 10 (18 + i) = Y 10 (67 + i) ∧ Y2 10 (25 + i) = Y 10 (60 + i) ∧ Y2 10 (32 + i) = i ∧ Y2 10 (39 + i) = Y 10 (74 + i)) := by
  have H : wp (m_begins N Y) (fun o => o.1 = 0 ∧ (∀ p, p ≠ 10 → o.2 p = Y p) ∧ (∀ k, k < 10 ∨ 46 ≤ k → o.2 10 k = Y 10 k) ∧ o.2 10 10 = 0 ∧ (∀ i, 0 ≤ i → i < 7 → o.2 10 (11 + i) = Y 10 (60 + i) ∧ o.2 10 (18 + i) = Y 10 (67 + i) ∧ o.2 10 (25 + i) = Y 10 (60 + i) ∧ o.2 10 (32 + i) = i ∧ o.2 10 (39 + i) = Y 10 (74 + i))) := by
    unfold m_begins jlt
    refine wp_fix (fun s => (7 - s.1).toNat) (fun (s : Int × jMem) => (0 ≤ s.1 ∧ s.1 ≤ 7) ∧ (∀ p, p ≠ 10 → s.2 p = Y p) ∧ (∀ k, k < 10 ∨ 46 ≤ k → s.2 10 k = Y 10 k) ∧ s.2 10 10 = 0 ∧ (∀ i, 0 ≤ i → i < s.1 → s.2 10 (11 + i) = Y 10 (60 + i) ∧ s.2 10 (18 + i) = Y 10 (67 + i) ∧ s.2 10 (25 + i) = Y 10 (60 + i) ∧ s.2 10 (32 + i) = i ∧ s.2 10 (39 + i) = Y 10 (74 + i))) ?_ N _ ⟨⟨by dsimp only; omega, by dsimp only; omega⟩, fun p hp => by dsimp only; rw [up_ne hp], fun k hk => by dsimp only; rw [up_col (by omega)], by dsimp only; rw [up_hit rfl rfl], fun i i0 i1 => by dsimp only at i1; omega⟩ (by dsimp only; omega)
    rintro h ⟨x, Yc⟩ ⟨hx, f, g, g1, gi⟩ ih
    dsimp only at hx f g g1 gi
    unfold m_begins_L10 jlt
    dsimp only
    by_cases c : x < 7
    · rw [if_pos c]
      simp (disch := omega) only [jchk_pos, up_col, w32_id, g (60 + x) (by omega), g (67 + x) (by omega), g (74 + x) (by omega)]
      refine ih _ ⟨⟨by dsimp only; omega, by dsimp only; omega⟩, fun p hp => ?_, fun k hk => ?_, ?_, fun i i0 i1 => ?_⟩ (by dsimp only; omega)
      · dsimp only; rw [up_ne hp, up_ne hp, up_ne hp, up_ne hp, up_ne hp]; exact f p hp
      · simp (disch := omega) only [up_col]; exact g k hk
      · simp (disch := omega) only [up_col]; exact g1
      · dsimp only at i1 ⊢
        by_cases ci : i = x
        · subst ci
          simp (disch := omega) only [up_col, up_hit]
          exact ⟨trivial, trivial, trivial, trivial, trivial⟩
        · simp (disch := omega) only [up_col]
          exact gi i i0 (by omega)
    · rw [if_neg c]
      exact wp_some ⟨rfl, f, g, g1, fun i i0 i1 => gi i i0 (by omega)⟩
  obtain ⟨⟨v, Y2⟩, e, q1, q2⟩ := H
  dsimp only at q1 q2
  subst q1
  exact ⟨Y2, e, q2⟩
/-- a trial that begins as the PARISH was told, or with another DEPTH or TASTE -/
theorem trial_YB {N : Nat} (hN : 1000 ≤ N) {X Y X' Y' X3 : jMem} {rl : Int} (h : Rel X Y) (F : FF X Y X' Y') (hf : FR X' Y' rl) (hk : ∀ k, k < 10 ∨ (46 ≤ k ∧ k < 60) ∨ 74 ≤ k → Y' 10 k = Y 10 k)
    (hd : ∀ i, 0 ≤ i → i < 7 → 0 ≤ Y' 10 (60 + i) ∧ Y' 10 (60 + i) ≤ 30) (htt : ∀ i, 0 ≤ i → i < 7 → 0 ≤ Y' 10 (67 + i) ∧ Y' 10 (67 + i) ≤ 60) (hx : ∀ p, p < 161 ∨ 166 < p → X3 p = X' p) (h0 : X3 161 0 = X' 15 0) (h1 : X3 161 1 = 0)
    (hi : ∀ i, 0 ≤ i → i < 7 → X3 162 i = Y' 10 (60 + i) ∧ X3 163 i = Y' 10 (67 + i) ∧ X3 164 i = Y' 10 (60 + i) ∧ X3 165 i = i ∧ X3 166 i = X' 19 i) :
    ∃ Y3, m_begins N Y' = some (0, Y3) ∧ FF X Y X3 Y3 ∧ YB X3 Y3 161 18 rl ∧ Y3 10 10 = 0 ∧ NR X3 27 (Y3 10) ∧ NT (Y3 10) ∧ (∀ p, p ≠ 10 → Y3 p = Y' p) ∧ (∀ k, k < 10 ∨ 46 ≤ k → Y3 10 k = Y' 10 k) := by
  obtain ⟨s, w, pk, p, n, wt⟩ := Rel_s h
  obtain ⟨Y3, e, f, g, g0, gi⟩ := beginY hN Y'
  have w1 := w.1
  have X15 : ∀ p, 14 ≤ p → p ≤ 30 → X' p = X p := fun p a b => F.1 p (by omega) (by unfold Stk; omega)
  have k1 : Y3 10 1 = Y 10 1 := by rw [g 1 (by omega), hk 1 (by omega)]
  have F3 : FF X Y X3 Y3 := ⟨fun p hp hs => by rw [hx p (by omega)]; exact F.1 p hp hs, fun p hp => by rw [f p (by omega)]; exact F.2.1 p hp, fun j q1 q2 q3 q4 => by rw [f 0 (by omega)]; exact F.2.2.1 j q1 q2 q3 q4, fun k q1 q2 => by rw [f 17 (by omega)]; exact F.2.2.2 k q1 q2⟩
  have p19 : ∀ i, 0 ≤ i → i < 7 → X' 19 i = Y' 10 (74 + i) := fun i i0 i1 => by rw [X15 19 (by omega) (by omega), hk (74 + i) (by omega)]; exact p.2.2.2.2.2.1 i i0 i1
  refine ⟨Y3, e, F3, ⟨⟨?_, ?_, fun i i0 i1 => ?_, fun i i0 i1 => ?_, fun i i0 i1 => ?_, fun i i0 i1 => ?_, fun i i0 i1 => ?_⟩, ⟨?_, ?_, fun i i0 i1 => ?_⟩, ⟨?_, ?_, fun i i0 i1 => ?_, fun i i0 i1 => ?_, fun i i0 i1 => ?_, fun i i0 i1 => ?_, fun i i0 i1 => ?_, fun i i0 i1 => ?_, fun i i0 i1 => ?_, fun i i0 i1 => ?_, fun i j i0 i1 j0 j1 q => ?_, fun i i0 i1 => ?_, fun v v0 v1 => ?_⟩, fun i i0 i1 => ?_, ?_⟩, g0, ?_, ?_, f, g⟩
  · rw [h0, X15 15 (by omega) (by omega), k1]; exact pk.1
  · rw [h1, g0]
  · rw [(gi i i0 i1).1]; exact (hi i i0 i1).1
  · rw [(gi i i0 i1).2.1]; exact (hi i i0 i1).2.1
  · rw [(gi i i0 i1).2.2.1]; exact (hi i i0 i1).2.2.1
  · rw [(gi i i0 i1).2.2.2.1]; exact (hi i i0 i1).2.2.2.1
  · rw [(gi i i0 i1).2.2.2.2, ← p19 i i0 i1]; exact (hi i i0 i1).2.2.2.2
  · rw [hx 15 (by omega), X15 15 (by omega) (by omega), k1]; exact pk.1
  · rw [hx 15 (by omega), X15 15 (by omega) (by omega), g 2 (by omega), hk 2 (by omega)]; exact pk.2.1
  · rw [hx 20 (by omega), X15 20 (by omega) (by omega), g (53 + i) (by omega), hk (53 + i) (by omega)]; exact pk.2.2 i i0 i1
  · rw [k1]; exact w1
  · rw [g 2 (by omega), hk 2 (by omega)]; exact w.2.1
  · rw [(gi i i0 i1).1]; have := hd i i0 i1; omega
  · rw [(gi i i0 i1).2.1]; exact htt i i0 i1
  · rw [(gi i i0 i1).2.2.1]; have := hd i i0 i1; omega
  · rw [(gi i i0 i1).2.2.2.1]; omega
  · rw [(gi i i0 i1).2.2.2.2, hk (74 + i) (by omega)]; exact wt.2.2.1 i i0 i1
  · rw [g (46 + i) (by omega), hk (46 + i) (by omega)]; exact w.2.2.2.2.2.2.2.1 i i0 i1
  · rw [g (53 + i) (by omega), hk (53 + i) (by omega)]; exact w.2.2.2.2.2.2.2.2.1 i i0 i1
  · rw [k1] at i1 ⊢; rw [(gi i i0 (by omega)).2.2.2.1]; exact i1
  · rw [k1] at i1 j1; rw [(gi i i0 (by omega)).2.2.2.1, (gi j j0 (by omega)).2.2.2.1] at q; exact q
  · rw [g (53 + i) (by omega), hk (53 + i) (by omega)]; exact w.2.2.2.2.2.2.2.2.2.2.2.1 i i0 i1
  · rw [k1] at v1; exact ⟨v, v0, by rw [k1]; exact v1, (gi v v0 (by omega)).2.2.2.1⟩
  · rw [hx 18 (by omega), X15 18 (by omega) (by omega), g (46 + i) (by omega), hk (46 + i) (by omega)]; exact p.2.2.2.2.1 i i0 i1
  · exact FR_congr hf (fun p a b c => hx p (by omega)) (f 5 (by omega)) (f 4 (by omega)) (f 2 (by omega)) (by rw [f 0 (by omega)])
  · obtain ⟨n0, n1⟩ := NR_congr n (X' := X3) (fun p a b => by rw [hx p (by omega), X15 p (by omega) (by omega)])
    have e111 : Y3 10 111 = Y 10 111 := by rw [g 111 (by omega), hk 111 (by omega)]
    refine ⟨by rw [e111]; exact n0, fun i i0 i1 => ?_⟩
    rw [e111] at i1
    rw [g (81 + 3 * i) (by omega), g (82 + 3 * i) (by omega), g (83 + 3 * i) (by omega), hk (81 + 3 * i) (by omega), hk (82 + 3 * i) (by omega), hk (83 + 3 * i) (by omega)]
    exact n1 i i0 i1
  · have e111 : Y3 10 111 = Y 10 111 := by rw [g 111 (by omega), hk 111 (by omega)]
    refine ⟨by rw [e111]; exact wt.2.2.2.1, fun i i0 i1 => ?_⟩
    rw [e111] at i1
    obtain ⟨q1, q2, -⟩ := wt.2.2.2.2.1 i i0 i1
    rw [g (81 + 3 * i) (by omega), g (82 + 3 * i) (by omega), hk (81 + 3 * i) (by omega), hk (82 + 3 * i) (by omega)]
    exact ⟨q1, by omega⟩
/-- the end of it: all is laid back -/
theorem laid_ok {N : Nat} (hN : 1000 ≤ N) {X Y X' Y' : jMem} (h : Rel X Y) (F : FF X Y X' Y') (hk : ∀ k, k < 10 ∨ 46 ≤ k → Y' 10 k = Y 10 k) (h21 : Y' 0 21 = Y 0 21) : ∃ Y2, m_laysBack N Y' = some (0, Y2) ∧ Rel X' Y2 ∧ TF X X' ∧ Y2 10 = Y 10 ∧ (∀ p, p ≠ 10 → Y2 p = Y' p) := by
  obtain ⟨Y2, e, r, t, -, -, a, b⟩ := back_to hN h F ⟨hk, h21⟩
  exact ⟨Y2, e, r, t, a, b⟩
theorem depths_ok {N : Nat} (hN : 1000 ≤ N) (a b : Int) : OK (x_depths N a b) (m_depths N a b) := by
  intro X Y h
  obtain ⟨r1, -, e1, f1, g1⟩ := isFarm_ok N a h
  obtain ⟨r2, e2, f2, g2⟩ := within_ok N b 0 1 X Y
  obtain ⟨rl, i1, i2, i3⟩ := inForce_ok (N := N) h
  obtain ⟨s, w, pk, p, n, wt⟩ := Rel_s h
  have w1 := w.1
  unfold x_depths m_depths
  rw [e1, e2, f1, f2]
  simp only [Option.bind_some]
  by_cases c1 : r1 = 0
  · rw [if_pos c1, if_pos c1]; exact ⟨_, _, _, rfl, rfl, h, TF_refl⟩
  · rw [if_neg c1, if_neg c1]
    by_cases c2 : r2 = 0
    · rw [if_pos c2, if_pos c2]; exact ⟨_, _, _, rfl, rfl, h, TF_refl⟩
    · rw [if_neg c2, if_neg c2, i1, Option.bind_some, jchk_pos i3, w32_id (x := 60 + a) (by omega)]
      obtain ⟨Y1, k1, k2, k3⟩ := keeps_ok hN Y
      have H : wp2 (jfix N (Fo_leastDepth_L13 N rl a) (-2, 30, up X 157 6 0)) (jfix N (m_canBe_L22 N (60 + a) 1 b (Y 10 (60 + a))) (0, -2, 30, Y1)) (fun o o' => o'.1 = (if b = 0 then o.2 157 6 else o.1) ∧ Rel o.2 o'.2 ∧ TF X o.2) := by
        refine wp2_fix (fun s => (s.2.1).toNat) (fun (s : Int × Int × jMem) (t : Int × Int × Int × jMem) => (s.1 = t.2.1 ∧ s.2.1 = t.2.2.1 ∧ s.2.2 157 6 = t.1) ∧ (0 ≤ s.2.1 ∧ s.2.1 ≤ 30) ∧ (0 ≤ t.1 ∧ t.1 ≤ 30 - s.2.1) ∧ FF X Y s.2.2 t.2.2.2 ∧ (∀ k, k < 10 ∨ 46 ≤ k → k ≠ 60 + a → t.2.2.2 10 k = Y 10 k) ∧ t.2.2.2 0 21 = Y 0 21) ?_ N N _ _ ⟨⟨rfl, rfl, by dsimp only; rw [up_hit rfl rfl]⟩, ⟨by dsimp only; omega, by dsimp only; omega⟩, ⟨by dsimp only; omega, by dsimp only; omega⟩, ⟨fun q hq _ => by dsimp only; rw [up_ne (by omega)], fun q hq => by dsimp only; rw [k2 q (by omega)], fun j _ _ _ _ => by dsimp only; rw [k2 0 (by omega)], k3⟩, fun k _ _ => by dsimp only; rw [k2 10 (by omega)], by dsimp only; rw [k2 0 (by omega)]⟩ (by dsimp only; omega) (by dsimp only; omega)
        rintro h1 h2 ⟨x2, x3, Xc⟩ ⟨y4, y5, y6, Yc⟩ ⟨⟨j1, j2, j3⟩, hx, hc, Fc, hck, hc21⟩ ih
        dsimp only at j1 j2 j3 hx hc Fc hck hc21
        subst j1; subst j2; subst j3
        unfold Fo_leastDepth_L13 m_canBe_L22 jlt
        dsimp only
        by_cases cx : x3 < 1
        · rw [if_pos cx, if_pos cx, jchk_pos (by omega)]
          have F1 : FF X Y Xc (up Yc 10 (60 + a) (Y 10 (60 + a))) := ⟨Fc.1, fun q hq => by rw [up_ne (by omega)]; exact Fc.2.1 q hq, fun j q1 q2 q3 q4 => by rw [up_row (by omega)]; exact Fc.2.2.1 j q1 q2 q3 q4, fun k q1 q2 => by rw [up_row (by omega)]; exact Fc.2.2.2 k q1 q2⟩
          obtain ⟨Y2, l1, l2, l3, -⟩ := laid_ok hN h F1 (fun k hk => by
            by_cases ck : k = 60 + a
            · rw [up_hit rfl ck, ck]
            · rw [up_col ck]; exact hck k hk ck) (by rw [up_row (by omega)]; exact hc21)
          rw [l1]
          unfold jbv
          rw [Option.bind_some]
          dsimp only
          by_cases cb : b = 0
          · rw [if_pos cb]; exact wp2_some ⟨by dsimp only; rw [if_pos cb], l2, l3⟩
          · rw [if_neg cb]; exact wp2_some ⟨by dsimp only; rw [if_neg cb], l2, l3⟩
        · rw [if_neg cx, if_neg cx, jchk_pos (show 0 ≤ 60 + a ∧ 60 + a < 112 by omega)]
          obtain ⟨X2, b1, b2, b3, b4, b5⟩ := beginX hN Xc
          have X15 : ∀ p, 14 ≤ p → p ≤ 30 → Xc p = X p := fun p a b => Fc.1 p (by omega) (by unfold Stk; omega)
          have F1 : FF X Y Xc (up Yc 10 (60 + a) x3) := ⟨Fc.1, fun q hq => by rw [up_ne (by omega)]; exact Fc.2.1 q hq, fun j q1 q2 q3 q4 => by rw [up_row (by omega)]; exact Fc.2.2.1 j q1 q2 q3 q4, fun k q1 q2 => by rw [up_row (by omega)]; exact Fc.2.2.2 k q1 q2⟩
          have q67 : ∀ i, 0 ≤ i → i < 7 → up Yc 10 (60 + a) x3 10 (67 + i) = Y 10 (67 + i) := fun i i0 i1 => by rw [up_col (by omega)]; exact hck _ (by omega) (by omega)
          have q60 : ∀ i, 0 ≤ i → i < 7 → i ≠ a → up Yc 10 (60 + a) x3 10 (60 + i) = Y 10 (60 + i) := fun i i0 i1 ia => by rw [up_col (by omega)]; exact hck _ (by omega) (by omega)
          have q60a : up Yc 10 (60 + a) x3 10 (60 + a) = x3 := up_hit rfl rfl
          obtain ⟨Y3, t1, F3, B3, t2, t3, t4, t5, t6⟩ := trial_YB hN (X3 := up (up X2 162 a x3) 164 a x3) h F1 (FR_congr i2 (fun p q1 q2 q3 => Fc.1 p (by omega) q3) (by rw [up_ne (by omega)]; exact Fc.2.1 5 (by omega)) (by rw [up_ne (by omega)]; exact Fc.2.1 4 (by omega)) (by rw [up_ne (by omega)]; exact Fc.2.1 2 (by omega)) (by rw [up_row (by omega)]; exact hc21)) (fun k hk => by rw [up_col (by omega)]; exact hck k (by omega) (by omega)) (fun i i0 i1 => by
              by_cases ia : i = a
              · rw [ia, q60a]; omega
              · rw [q60 i i0 i1 ia]; exact wt.1 i i0 i1) (fun i i0 i1 => by rw [q67 i i0 i1]; exact wt.2.1 i i0 i1) (fun p hp => by rw [up_ne (by omega), up_ne (by omega)]; exact b2 p hp) (by rw [up_row (by omega), up_row (by omega)]; exact b3) (by rw [up_row (by omega), up_row (by omega)]; exact b4) (fun i i0 i1 => by
              obtain ⟨z1, z2, z3, z4, z5⟩ := b5 i i0 i1
              have p16 : Xc 16 i = Y 10 (60 + i) := by rw [X15 16 (by omega) (by omega)]; exact p.2.2.1 i i0 i1
              have p17 : Xc 17 i = Y 10 (67 + i) := by rw [X15 17 (by omega) (by omega)]; exact p.2.2.2.1 i i0 i1
              rw [q67 i i0 i1]
              by_cases ia : i = a
              · rw [ia, q60a]
                rw [ia] at z2 z4 z5 p17
                simp (disch := omega) only [up_row, up_hit]
                exact ⟨trivial, by rw [z2]; exact p17, trivial, z4, z5⟩
              · rw [q60 i i0 i1 ia]
                simp (disch := omega) only [up_row, up_col]
                exact ⟨by rw [z1]; exact p16, by rw [z2]; exact p17, by rw [z3]; exact p16, z4, z5⟩)
          obtain ⟨r, X4, Y4, u1, u2, u3, F4, u4, u5, -⟩ := seen_ok hN (a1 := 0) (a2 := -1) t3 t4 F3 B3 t2 (by omega) (by omega)
          have x157 : X4 157 = Xc 157 := by rw [u5 157 (by omega) (by omega) (by unfold Stk; omega), up_ne (by omega), up_ne (by omega)]; exact b2 157 (by omega)
          have hk4 : ∀ k, k < 10 ∨ 46 ≤ k → k ≠ 60 + a → Y4 10 k = Y 10 k := fun k hk ck => by rw [u4.1 k hk, t6 k hk, up_col ck]; exact hck k hk ck
          have h214 : Y4 0 21 = Y 0 21 := by rw [u4.2.1, t5 0 (by omega), up_row (by omega)]; exact hc21
          unfold jbv jb1
          rw [b1, t1, Option.bind_some, Option.bind_some]
          dsimp only
          rw [jchk_pos (show 0 ≤ a ∧ a < 7 by omega), jchk_pos (show 0 ≤ a ∧ a < 7 by omega), u1, u2, Option.bind_some, Option.bind_some]
          dsimp only
          rw [w32_id (x := x3 + -1) (by omega), x157]
          by_cases cr : r = 0
          · rw [if_pos cr, if_pos cr]
            exact ih _ _ ⟨⟨rfl, rfl, by dsimp only; rw [x157]⟩, ⟨by dsimp only; omega, by dsimp only; omega⟩, ⟨by dsimp only; omega, by dsimp only; omega⟩, F4, hk4, h214⟩ (by dsimp only; omega)
          · rw [if_neg cr, if_neg cr, w32_id (by omega)]
            exact ih _ _ ⟨⟨rfl, rfl, by dsimp only; rw [up_hit rfl rfl]⟩, ⟨by dsimp only; omega, by dsimp only; omega⟩, ⟨by dsimp only; omega, by dsimp only; omega⟩, ⟨fun q hq hs => by dsimp only; rw [up_ne (by omega)]; exact F4.1 q hq hs, F4.2⟩, hk4, h214⟩ (by dsimp only; omega)
      obtain ⟨⟨v, X2⟩, ⟨v', Y2⟩, p1, p2, p3, p4, p5⟩ := H
      dsimp only at p3 p4 p5
      refine ⟨v', X2, Y2, ?_, ?_, p4, p5⟩
      · unfold jb1 Fo_leastDepth jlt
        dsimp only
        rw [p1, Option.bind_some]
        dsimp only
        rw [p3]
        by_cases cb : b = 0
        · rw [if_pos cb, if_pos cb]
        · rw [if_neg cb, if_neg cb]
      · unfold jb1 m_canBe jlt jbv
        dsimp only
        rw [jchk_pos (by omega), k1, Option.bind_some]
        dsimp only
        rw [p2, Option.bind_some]
theorem tastes_ok {N : Nat} (hN : 1000 ≤ N) (a b : Int) : OK (x_tastes N a b) (m_tastes N a b) := by
  intro X Y h
  obtain ⟨r1, -, e1, f1, g1⟩ := isFarm_ok N a h
  obtain ⟨r2, e2, f2, g2⟩ := within_ok N b 0 1 X Y
  obtain ⟨rl, i1, i2, i3⟩ := inForce_ok (N := N) h
  obtain ⟨s, w, pk, p, n, wt⟩ := Rel_s h
  have w1 := w.1
  unfold x_tastes m_tastes
  rw [e1, e2, f1, f2]
  simp only [Option.bind_some]
  by_cases c1 : r1 = 0
  · rw [if_pos c1, if_pos c1]; exact ⟨_, _, _, rfl, rfl, h, TF_refl⟩
  · rw [if_neg c1, if_neg c1]
    by_cases c2 : r2 = 0
    · rw [if_pos c2, if_pos c2]; exact ⟨_, _, _, rfl, rfl, h, TF_refl⟩
    · rw [if_neg c2, if_neg c2, i1, Option.bind_some, jchk_pos i3, w32_id (x := 67 + a) (by omega)]
      obtain ⟨Y1, k1, k2, k3⟩ := keeps_ok hN Y
      have H : wp2 (jfix N (Fo_leastTaste_L13 N rl a) (-2, 60, up X 157 6 0)) (jfix N (m_canBe_L22 N (67 + a) 0 b (Y 10 (67 + a))) (0, -2, 60, Y1)) (fun o o' => o'.1 = (if b = 0 then o.2 157 6 else o.1) ∧ Rel o.2 o'.2 ∧ TF X o.2) := by
        refine wp2_fix (fun s => (s.2.1 + 1).toNat) (fun (s : Int × Int × jMem) (t : Int × Int × Int × jMem) => (s.1 = t.2.1 ∧ s.2.1 = t.2.2.1 ∧ s.2.2 157 6 = t.1) ∧ (-1 ≤ s.2.1 ∧ s.2.1 ≤ 60) ∧ (0 ≤ t.1 ∧ t.1 ≤ 60 - s.2.1) ∧ FF X Y s.2.2 t.2.2.2 ∧ (∀ k, k < 10 ∨ 46 ≤ k → k ≠ 67 + a → t.2.2.2 10 k = Y 10 k) ∧ t.2.2.2 0 21 = Y 0 21) ?_ N N _ _ ⟨⟨rfl, rfl, by dsimp only; rw [up_hit rfl rfl]⟩, ⟨by dsimp only; omega, by dsimp only; omega⟩, ⟨by dsimp only; omega, by dsimp only; omega⟩, ⟨fun q hq _ => by dsimp only; rw [up_ne (by omega)], fun q hq => by dsimp only; rw [k2 q (by omega)], fun j _ _ _ _ => by dsimp only; rw [k2 0 (by omega)], k3⟩, fun k _ _ => by dsimp only; rw [k2 10 (by omega)], by dsimp only; rw [k2 0 (by omega)]⟩ (by dsimp only; omega) (by dsimp only; omega)
        rintro h1 h2 ⟨x2, x3, Xc⟩ ⟨y4, y5, y6, Yc⟩ ⟨⟨j1, j2, j3⟩, hx, hc, Fc, hck, hc21⟩ ih
        dsimp only at j1 j2 j3 hx hc Fc hck hc21
        subst j1; subst j2; subst j3
        unfold Fo_leastTaste_L13 m_canBe_L22 jlt
        dsimp only
        by_cases cx : x3 < 0
        · rw [if_pos cx, if_pos cx, jchk_pos (by omega)]
          have F1 : FF X Y Xc (up Yc 10 (67 + a) (Y 10 (67 + a))) := ⟨Fc.1, fun q hq => by rw [up_ne (by omega)]; exact Fc.2.1 q hq, fun j q1 q2 q3 q4 => by rw [up_row (by omega)]; exact Fc.2.2.1 j q1 q2 q3 q4, fun k q1 q2 => by rw [up_row (by omega)]; exact Fc.2.2.2 k q1 q2⟩
          obtain ⟨Y2, l1, l2, l3, -⟩ := laid_ok hN h F1 (fun k hk => by
            by_cases ck : k = 67 + a
            · rw [up_hit rfl ck, ck]
            · rw [up_col ck]; exact hck k hk ck) (by rw [up_row (by omega)]; exact hc21)
          rw [l1]
          unfold jbv
          rw [Option.bind_some]
          dsimp only
          by_cases cb : b = 0
          · rw [if_pos cb]; exact wp2_some ⟨by dsimp only; rw [if_pos cb], l2, l3⟩
          · rw [if_neg cb]; exact wp2_some ⟨by dsimp only; rw [if_neg cb], l2, l3⟩
        · rw [if_neg cx, if_neg cx, jchk_pos (show 0 ≤ 67 + a ∧ 67 + a < 112 by omega)]
          obtain ⟨X2, b1, b2, b3, b4, b5⟩ := beginX hN Xc
          have X15 : ∀ p, 14 ≤ p → p ≤ 30 → Xc p = X p := fun p a b => Fc.1 p (by omega) (by unfold Stk; omega)
          have F1 : FF X Y Xc (up Yc 10 (67 + a) x3) := ⟨Fc.1, fun q hq => by rw [up_ne (by omega)]; exact Fc.2.1 q hq, fun j q1 q2 q3 q4 => by rw [up_row (by omega)]; exact Fc.2.2.1 j q1 q2 q3 q4, fun k q1 q2 => by rw [up_row (by omega)]; exact Fc.2.2.2 k q1 q2⟩
          have q60 : ∀ i, 0 ≤ i → i < 7 → up Yc 10 (67 + a) x3 10 (60 + i) = Y 10 (60 + i) := fun i i0 i1 => by rw [up_col (by omega)]; exact hck _ (by omega) (by omega)
          have q67 : ∀ i, 0 ≤ i → i < 7 → i ≠ a → up Yc 10 (67 + a) x3 10 (67 + i) = Y 10 (67 + i) := fun i i0 i1 ia => by rw [up_col (by omega)]; exact hck _ (by omega) (by omega)
          have q67a : up Yc 10 (67 + a) x3 10 (67 + a) = x3 := up_hit rfl rfl
          obtain ⟨Y3, t1, F3, B3, t2, t3, t4, t5, t6⟩ := trial_YB hN (X3 := up X2 163 a x3) h F1 (FR_congr i2 (fun p q1 q2 q3 => Fc.1 p (by omega) q3) (by rw [up_ne (by omega)]; exact Fc.2.1 5 (by omega)) (by rw [up_ne (by omega)]; exact Fc.2.1 4 (by omega)) (by rw [up_ne (by omega)]; exact Fc.2.1 2 (by omega)) (by rw [up_row (by omega)]; exact hc21)) (fun k hk => by rw [up_col (by omega)]; exact hck k (by omega) (by omega)) (fun i i0 i1 => by rw [q60 i i0 i1]; exact wt.1 i i0 i1) (fun i i0 i1 => by
              by_cases ia : i = a
              · rw [ia, q67a]; omega
              · rw [q67 i i0 i1 ia]; exact wt.2.1 i i0 i1) (fun p hp => by rw [up_ne (by omega)]; exact b2 p hp) (by rw [up_row (by omega)]; exact b3) (by rw [up_row (by omega)]; exact b4) (fun i i0 i1 => by
              obtain ⟨z1, z2, z3, z4, z5⟩ := b5 i i0 i1
              have p16 : Xc 16 i = Y 10 (60 + i) := by rw [X15 16 (by omega) (by omega)]; exact p.2.2.1 i i0 i1
              have p17 : Xc 17 i = Y 10 (67 + i) := by rw [X15 17 (by omega) (by omega)]; exact p.2.2.2.1 i i0 i1
              rw [q60 i i0 i1]
              by_cases ia : i = a
              · rw [ia, q67a]
                rw [ia] at z1 z3 z4 z5 p16
                simp (disch := omega) only [up_row, up_hit]
                exact ⟨by rw [z1]; exact p16, trivial, by rw [z3]; exact p16, z4, z5⟩
              · rw [q67 i i0 i1 ia]
                simp (disch := omega) only [up_row, up_col]
                exact ⟨by rw [z1]; exact p16, by rw [z2]; exact p17, by rw [z3]; exact p16, z4, z5⟩)
          obtain ⟨r, X4, Y4, u1, u2, u3, F4, u4, u5, -⟩ := seen_ok hN (a1 := 0) (a2 := -1) t3 t4 F3 B3 t2 (by omega) (by omega)
          have x157 : X4 157 = Xc 157 := by rw [u5 157 (by omega) (by omega) (by unfold Stk; omega), up_ne (by omega)]; exact b2 157 (by omega)
          have hk4 : ∀ k, k < 10 ∨ 46 ≤ k → k ≠ 67 + a → Y4 10 k = Y 10 k := fun k hk ck => by rw [u4.1 k hk, t6 k hk, up_col ck]; exact hck k hk ck
          have h214 : Y4 0 21 = Y 0 21 := by rw [u4.2.1, t5 0 (by omega), up_row (by omega)]; exact hc21
          unfold jbv jb1
          rw [b1, t1, Option.bind_some, Option.bind_some]
          dsimp only
          rw [jchk_pos (show 0 ≤ a ∧ a < 7 by omega), u1, u2, Option.bind_some, Option.bind_some]
          dsimp only
          rw [w32_id (x := x3 + -1) (by omega), x157]
          by_cases cr : r = 0
          · rw [if_pos cr, if_pos cr]
            exact ih _ _ ⟨⟨rfl, rfl, by dsimp only; rw [x157]⟩, ⟨by dsimp only; omega, by dsimp only; omega⟩, ⟨by dsimp only; omega, by dsimp only; omega⟩, F4, hk4, h214⟩ (by dsimp only; omega)
          · rw [if_neg cr, if_neg cr, w32_id (by omega)]
            exact ih _ _ ⟨⟨rfl, rfl, by dsimp only; rw [up_hit rfl rfl]⟩, ⟨by dsimp only; omega, by dsimp only; omega⟩, ⟨by dsimp only; omega, by dsimp only; omega⟩, ⟨fun q hq hs => by dsimp only; rw [up_ne (by omega)]; exact F4.1 q hq hs, F4.2⟩, hk4, h214⟩ (by dsimp only; omega)
      obtain ⟨⟨v, X2⟩, ⟨v', Y2⟩, p1, p2, p3, p4, p5⟩ := H
      dsimp only at p3 p4 p5
      refine ⟨v', X2, Y2, ?_, ?_, p4, p5⟩
      · unfold jb1 Fo_leastTaste jlt
        dsimp only
        rw [p1, Option.bind_some]
        dsimp only
        rw [p3]
        by_cases cb : b = 0
        · rw [if_pos cb, if_pos cb]
        · rw [if_neg cb, if_neg cb]
      · unfold jb1 m_canBe jlt jbv
        dsimp only
        rw [jchk_pos (by omega), k1, Option.bind_some]
        dsimp only
        rw [p2, Option.bind_some]
