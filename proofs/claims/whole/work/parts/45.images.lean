/-! NOTES and images -/
/-- NOTES alone have changed -/
theorem Rel_notes {X X' Y Y' : jMem} (h : Rel X Y) (hx : ∀ p, p < 27 ∨ 30 < p → X' p = X p) (hy : ∀ p, p ≠ 10 → Y' p = Y p) (h10 : ∀ k, k < 81 ∨ 112 ≤ k → Y' 10 k = Y 10 k) (hN : NR X' 27 (Y' 10)) (hr : 0 ≤ Y' 10 111 ∧ Y' 10 111 ≤ 10) (ht : ∀ i, 0 ≤ i → i < Y' 10 111 → (0 ≤ Y' 10 (81 + 3 * i) ∧ Y' 10 (81 + 3 * i) ≤ 60) ∧ (0 ≤ Y' 10 (82 + 3 * i) ∧ Y' 10 (82 + 3 * i) < Y' 10 1) ∧ (0 ≤ Y' 10 (83 + 3 * i) ∧ Y' 10 (83 + 3 * i) ≤ 60)) : Rel X' Y' ∧ TF X X' := by
  obtain ⟨a, b, c, d, e⟩ := h
  have hwas : ∀ j k, k < 81 → wasR Y' j k = wasR Y j k := fun j k hk => by
    unfold wasR; rw [hy 12 (by omega)]
    by_cases c : 10 ≤ k ∧ k < 46
    · rw [if_pos c, if_pos c]
    · rw [if_neg c, if_neg c]; exact h10 k (by omega)
  have SRc : ∀ (Z : jMem) (q : Int) (σ σ' : Int → Int), (∀ k, k < 81 → σ' k = σ k) → SR Z q σ → SR Z q σ' := by
    intro Z q σ σ' hs h
    obtain ⟨s0, s1, s2, s3, s4, s5, s6⟩ := h
    exact ⟨by rw [hs 1 (by omega)]; exact s0, by rw [hs 10 (by omega)]; exact s1, fun i i0 i1 => by rw [hs (11 + i) (by omega)]; exact s2 i i0 i1, fun i i0 i1 => by rw [hs (18 + i) (by omega)]; exact s3 i i0 i1, fun i i0 i1 => by rw [hs (25 + i) (by omega)]; exact s4 i i0 i1, fun i i0 i1 => by rw [hs (32 + i) (by omega)]; exact s5 i i0 i1, fun i i0 i1 => by rw [hs (39 + i) (by omega)]; exact s6 i i0 i1⟩
  have WSc : ∀ (σ σ' : Int → Int), (∀ k, k < 81 → σ' k = σ k) → WS σ → WS σ' := by
    intro σ σ' hs h
    exact WS_of h (hs 1 (by omega)) (hs 2 (by omega)) (fun i i0 i1 => by rw [hs (11 + i) (by omega)]; exact h.2.2.1 i i0 i1) (fun i i0 i1 => by rw [hs (18 + i) (by omega)]; exact h.2.2.2.1 i i0 i1) (fun i i0 i1 => by rw [hs (25 + i) (by omega)]; exact h.2.2.2.2.1 i i0 i1) (fun i i0 i1 => hs (32 + i) (by omega)) (fun i i0 i1 => by rw [hs (39 + i) (by omega)]; exact h.2.2.2.2.2.2.1 i i0 i1) (fun i i0 i1 => by rw [hs (46 + i) (by omega)]; exact h.2.2.2.2.2.2.2.1 i i0 i1) (fun i i0 i1 => hs (53 + i) (by omega))
  have hs : ∀ k, k < 81 → Y' 10 k = Y 10 k := fun k hk => h10 k (by omega)
  refine ⟨⟨TR_congr a (by rw [hx 0 (by omega)]) (hx 1 (by omega)) (by rw [hy 0 (by omega)]) (hy 1 (by omega)), UR_congr b (by rw [hx 0 (by omega)]) (fun p p1 p2 p3 => hx p (by omega)) (by rw [hy 0 (by omega)]) (hy 2 (by omega)) (hy 4 (by omega)) (hy 5 (by omega)), ?_, ?_, IR_congr e (fun p p1 p2 => hx p (by omega)) (hy 21 (by omega)) (hy 22 (by omega)) (hy 23 (by omega)) (hy 24 (by omega)) (by rw [hy 0 (by omega)])⟩, hx 171 (by omega), hx 172 (by omega), hx 173 (by omega)⟩
  · obtain ⟨⟨v1, v2, v3⟩, v4, ⟨t1, t2, t3, t4, t5, t6, t7⟩, v6⟩ := c
    refine ⟨⟨?_, ?_, hN⟩, WSc _ _ hs v4, ⟨?_, ?_, ?_, hr, ht, ?_, ?_⟩, ?_⟩
    · have := PR_congr v1 (X' := X') (fun p p1 p2 => hx p (by omega))
      obtain ⟨p0, p1, p2, p3, p4, p5, p6⟩ := this
      exact ⟨by rw [hs 1 (by omega)]; exact p0, by rw [hs 2 (by omega)]; exact p1, fun i i0 i1 => by rw [hs (60 + i) (by omega)]; exact p2 i i0 i1, fun i i0 i1 => by rw [hs (67 + i) (by omega)]; exact p3 i i0 i1, fun i i0 i1 => by rw [hs (46 + i) (by omega)]; exact p4 i i0 i1, fun i i0 i1 => by rw [hs (74 + i) (by omega)]; exact p5 i i0 i1, fun i i0 i1 => by rw [hs (53 + i) (by omega)]; exact p6 i i0 i1⟩
    · exact SRc _ _ _ _ hs (SR_congr v2 (fun p p1 p2 => hx p (by omega)))
    · intro i i0 i1; rw [hs (60 + i) (by omega)]; exact t1 i i0 i1
    · intro i i0 i1; rw [hs (67 + i) (by omega)]; exact t2 i i0 i1
    · intro i i0 i1; rw [hs (74 + i) (by omega)]; exact t3 i i0 i1
    · rw [hs 0 (by omega), hs 1 (by omega)]; exact t6
    · rw [hs 10 (by omega)]; exact t7
    · rw [hx 14 (by omega), hy 0 (by omega)]; exact v6
  · obtain ⟨d1, d2, d3, d4⟩ := d
    unfold AR
    rw [hx 31 (by omega), hy 0 (by omega)]
    refine ⟨d1, d2, d3, fun j j0 j1 => ?_⟩
    obtain ⟨g1, g2, g3⟩ := d4 j j0 j1
    have hm : 0 ≤ (X 31 1 - Y 0 26 + j) % 20 ∧ (X 31 1 - Y 0 26 + j) % 20 < 20 := by omega
    exact ⟨SRc _ _ _ _ (hwas j) (SR_congr g1 (fun p p1 p2 => hx p (by omega))), WSc _ _ (hwas j) g2, by rw [hwas j 10 (by omega)]; exact g3⟩
theorem note_ok {N : Nat} (a b c : Int) : OK (x_note N a b c) (m_note N a b c) := by
  intro X Y h
  obtain ⟨r1, e1, f1, g1⟩ := within_ok N a 0 60 X Y
  obtain ⟨r2, e2, -, f2, g2⟩ := isFarm_ok N b h
  obtain ⟨r3, e3, f3, g3⟩ := within_ok N c 0 60 X Y
  obtain ⟨-, -, -, -, ⟨n0, n1⟩, wt⟩ := Rel_s h
  obtain ⟨-, -, -, t4, t5, -⟩ := wt
  unfold x_note m_note
  by_cases ca : a = -1
  · rw [if_pos ca, if_pos ca]
    obtain ⟨R, F⟩ := Rel_notes (X' := up X 27 0 0) (Y' := up Y 10 111 0) h (fun p hp => up_ne (by omega)) (fun p hp => up_ne hp) (fun k hk => up_col (by omega)) ⟨by rw [up_hit rfl rfl, up_hit rfl rfl], fun i i0 i1 => by rw [up_hit rfl rfl] at i1; omega⟩ (by rw [up_hit rfl rfl]; omega) (fun i i0 i1 => by rw [up_hit rfl rfl] at i1; omega)
    exact ⟨_, _, _, rfl, rfl, R, F⟩
  · rw [if_neg ca, if_neg ca, e1, f1, e2, f2, e3, f3, Option.bind_some, Option.bind_some, Option.bind_some, Option.bind_some, Option.bind_some, Option.bind_some]
    by_cases c1 : r1 = 0
    · rw [if_pos c1, if_pos c1]; exact ⟨_, _, _, rfl, rfl, h, TF_refl⟩
    · rw [if_neg c1, if_neg c1]
      by_cases c2 : r2 = 0
      · rw [if_pos c2, if_pos c2]; exact ⟨_, _, _, rfl, rfl, h, TF_refl⟩
      · rw [if_neg c2, if_neg c2]
        by_cases c3 : r3 = 0
        · rw [if_pos c3, if_pos c3]; exact ⟨_, _, _, rfl, rfl, h, TF_refl⟩
        · rw [if_neg c3, if_neg c3]
          have n0' : X 27 0 = Y 10 111 := n0
          unfold No_add jlt jb1
          rw [n0']
          by_cases c4 : Y 10 111 = 10
          · rw [if_neg (by omega), if_pos c4, Option.bind_some]; dsimp only; rw [if_pos rfl]; exact ⟨_, _, _, rfl, rfl, h, TF_refl⟩
          · rw [if_pos (by omega), if_neg c4]
            simp (disch := omega) only [up_row, up_col, up_hit, jchk_pos, w32_id, n0', Option.bind_some]
            rw [if_neg (by omega)]
            obtain ⟨R, F⟩ := Rel_notes (X' := up (up (up (up X (27 + 1) (Y 10 111) a) (27 + 2) (Y 10 111) b) (27 + 3) (Y 10 111) c) 27 0 (Y 10 111 + 1)) (Y' := up (up (up (up Y 10 (81 + 3 * Y 10 111) a) 10 (81 + 3 * Y 10 111 + 1) b) 10 (81 + 3 * Y 10 111 + 2) c) 10 111 (Y 10 111 + 1)) h (fun p hp => by rw [up_ne (by omega), up_ne (by omega), up_ne (by omega), up_ne (by omega)]) (fun p hp => by rw [up_ne (by omega), up_ne (by omega), up_ne (by omega), up_ne (by omega)]) (fun k hk => by rw [up_col (by omega), up_col (by omega), up_col (by omega), up_col (by omega)]) ⟨by rw [up_hit rfl rfl, up_hit rfl rfl], fun i i0 i1 => by
                rw [up_hit rfl rfl] at i1
                by_cases ci : i = Y 10 111
                · subst ci
                  simp (disch := omega) only [up_row, up_col, up_hit]
                  exact ⟨trivial, trivial, trivial⟩
                · obtain ⟨q1, q2, q3⟩ := n1 i i0 (by omega)
                  simp (disch := omega) only [up_row, up_col]
                  exact ⟨q1, q2, q3⟩⟩ (by rw [up_hit rfl rfl]; omega) (fun i i0 i1 => by
                rw [up_hit rfl rfl] at i1
                by_cases ci : i = Y 10 111
                · subst ci
                  simp (disch := omega) only [up_row, up_col, up_hit]
                  omega
                · have := t5 i i0 (by omega)
                  simp (disch := omega) only [up_row, up_col]
                  exact this)
            exact ⟨_, _, _, rfl, rfl, R, F⟩
theorem imgcp_ok {N : Nat} (hN : 1000 ≤ N) {Y : jMem} {a : Int} (h0 : 0 ≤ a) (h1 : a < 4) : ∃ Y', jfix N (m_image_L43 N a) (0, Y) = some (Y 10 10, Y') ∧ (∀ p, p ≠ 21 → Y' p = Y p) ∧ (∀ k, k < 112 * a ∨ 112 * a + 112 ≤ k → Y' 21 k = Y 21 k) ∧ (∀ k, 0 ≤ k → k < 112 → Y' 21 (112 * a + k) = Y 10 k) := by
  have H : wp (jfix N (m_image_L43 N a) (0, Y)) (fun o => o.1 = Y 10 10 ∧ (∀ p, p ≠ 21 → o.2 p = Y p) ∧ (∀ k, k < 112 * a ∨ 112 * a + 112 ≤ k → o.2 21 k = Y 21 k) ∧ (∀ k, 0 ≤ k → k < 112 → o.2 21 (112 * a + k) = Y 10 k)) := by
    refine wp_fix (fun s => (112 - s.1).toNat) (fun (s : Int × jMem) => (0 ≤ s.1 ∧ s.1 ≤ 112) ∧ (∀ p, p ≠ 21 → s.2 p = Y p) ∧ (∀ k, k < 112 * a ∨ 112 * a + 112 ≤ k → s.2 21 k = Y 21 k) ∧ (∀ k, 0 ≤ k → k < s.1 → s.2 21 (112 * a + k) = Y 10 k)) ?_ N _ ⟨⟨by dsimp only; omega, by dsimp only; omega⟩, fun _ _ => rfl, fun _ _ => rfl, fun k k0 k1 => by dsimp only at k1; omega⟩ (by dsimp only; omega)
    rintro hh ⟨x, Z⟩ ⟨⟨x0, x1⟩, f, g, i⟩ ih
    dsimp only at x0 x1 f g i
    unfold m_image_L43 jlt
    dsimp only
    rw [f 10 (by omega)]
    by_cases cx : x < 112
    · rw [if_pos cx]
      simp (disch := omega) only [jchk_pos, w32_id]
      refine ih _ ⟨⟨by dsimp only; omega, by dsimp only; omega⟩, fun p hp => ?_, fun k hk => ?_, fun k k0 k1 => ?_⟩ (by dsimp only; omega)
      · dsimp only; rw [up_ne hp]; exact f p hp
      · dsimp only; rw [up_col (by omega)]; exact g k hk
      · dsimp only at k1 ⊢
        by_cases ck : k = x
        · rw [up_hit rfl (by omega), ck]
        · rw [up_col (by omega)]; exact i k k0 (by omega)
    · rw [if_neg cx]
      exact wp_some ⟨rfl, f, g, fun k k0 k1 => i k k0 (by omega)⟩
  obtain ⟨⟨v, Y'⟩, e, q1, q2⟩ := H
  dsimp only at q1 q2
  subst q1
  exact ⟨Y', e, q2⟩
theorem backcp_ok {N : Nat} (hN : 1000 ≤ N) {Y : jMem} {a : Int} (h0 : 0 ≤ a) (h1 : a < 4) : ∃ Y', jfix N (m_back_L50 N a) (0, Y) = some (imgR Y a 10, Y') ∧ (∀ p, p ≠ 10 → Y' p = Y p) ∧ (∀ k, 0 ≤ k → k < 112 → Y' 10 k = imgR Y a k) := by
  have H : wp (jfix N (m_back_L50 N a) (0, Y)) (fun o => o.1 = imgR Y a 10 ∧ (∀ p, p ≠ 10 → o.2 p = Y p) ∧ (∀ k, 0 ≤ k → k < 112 → o.2 10 k = imgR Y a k)) := by
    refine wp_fix (fun s => (112 - s.1).toNat) (fun (s : Int × jMem) => (0 ≤ s.1 ∧ s.1 ≤ 112) ∧ (∀ p, p ≠ 10 → s.2 p = Y p) ∧ (∀ k, 0 ≤ k → k < s.1 → s.2 10 k = imgR Y a k)) ?_ N _ ⟨⟨by dsimp only; omega, by dsimp only; omega⟩, fun _ _ => rfl, fun k k0 k1 => by dsimp only at k1; omega⟩ (by dsimp only; omega)
    rintro hh ⟨x, Z⟩ ⟨⟨x0, x1⟩, f, i⟩ ih
    dsimp only at x0 x1 f i
    unfold m_back_L50 jlt
    dsimp only
    by_cases cx : x < 112
    · rw [if_pos cx, f 21 (by omega)]
      simp (disch := omega) only [jchk_pos, w32_id]
      refine ih _ ⟨⟨by dsimp only; omega, by dsimp only; omega⟩, fun p hp => ?_, fun k k0 k1 => ?_⟩ (by dsimp only; omega)
      · dsimp only; rw [up_ne hp]; exact f p hp
      · dsimp only at k1 ⊢
        by_cases ck : k = x
        · rw [up_hit rfl (by omega), ck]; rfl
        · rw [up_col (by omega)]; exact i k k0 (by omega)
    · rw [if_neg cx, i 10 (by omega) (by omega)]
      exact wp_some ⟨rfl, f, fun k k0 k1 => i k k0 (by omega)⟩
  obtain ⟨⟨v, Y'⟩, e, q1, q2⟩ := H
  dsimp only at q1 q2
  subst q1
  exact ⟨Y', e, q2⟩
/-- what a world tells stands in its first 112 places -/
theorem WR_eq {X : jMem} {w : Int} {σ σ' : Int → Int} (h : WR X w σ) (h1 : σ 111 ≤ 10) (hs : ∀ k, 0 ≤ k → k < 112 → σ' k = σ k) : WR X w σ' := by
  obtain ⟨⟨p0, p1, p2, p3, p4, p5, p6⟩, ⟨s0, s1, s2, s3, s4, s5, s6⟩, n0, n1⟩ := h
  refine ⟨⟨by rw [hs 1 (by omega) (by omega)]; exact p0, by rw [hs 2 (by omega) (by omega)]; exact p1, fun i i0 i1 => by rw [hs (60 + i) (by omega) (by omega)]; exact p2 i i0 i1, fun i i0 i1 => by rw [hs (67 + i) (by omega) (by omega)]; exact p3 i i0 i1, fun i i0 i1 => by rw [hs (46 + i) (by omega) (by omega)]; exact p4 i i0 i1, fun i i0 i1 => by rw [hs (74 + i) (by omega) (by omega)]; exact p5 i i0 i1, fun i i0 i1 => by rw [hs (53 + i) (by omega) (by omega)]; exact p6 i i0 i1⟩, ⟨by rw [hs 1 (by omega) (by omega)]; exact s0, by rw [hs 10 (by omega) (by omega)]; exact s1, fun i i0 i1 => by rw [hs (11 + i) (by omega) (by omega)]; exact s2 i i0 i1, fun i i0 i1 => by rw [hs (18 + i) (by omega) (by omega)]; exact s3 i i0 i1, fun i i0 i1 => by rw [hs (25 + i) (by omega) (by omega)]; exact s4 i i0 i1, fun i i0 i1 => by rw [hs (32 + i) (by omega) (by omega)]; exact s5 i i0 i1, fun i i0 i1 => by rw [hs (39 + i) (by omega) (by omega)]; exact s6 i i0 i1⟩, by rw [hs 111 (by omega) (by omega)]; exact n0, fun i i0 i1 => ?_⟩
  rw [hs 111 (by omega) (by omega)] at i1
  rw [hs (81 + 3 * i) (by omega) (by omega), hs (82 + 3 * i) (by omega) (by omega), hs (83 + 3 * i) (by omega) (by omega)]
  exact n1 i i0 i1
theorem WS_eq {σ σ' : Int → Int} (h : WS σ) (hs : ∀ k, 0 ≤ k → k < 112 → σ' k = σ k) : WS σ' :=
  WS_of h (hs 1 (by omega) (by omega)) (hs 2 (by omega) (by omega)) (fun i i0 i1 => by rw [hs (11 + i) (by omega) (by omega)]; exact h.2.2.1 i i0 i1) (fun i i0 i1 => by rw [hs (18 + i) (by omega) (by omega)]; exact h.2.2.2.1 i i0 i1) (fun i i0 i1 => by rw [hs (25 + i) (by omega) (by omega)]; exact h.2.2.2.2.1 i i0 i1) (fun i i0 i1 => hs (32 + i) (by omega) (by omega)) (fun i i0 i1 => by rw [hs (39 + i) (by omega) (by omega)]; exact h.2.2.2.2.2.2.1 i i0 i1) (fun i i0 i1 => by rw [hs (46 + i) (by omega) (by omega)]; exact h.2.2.2.2.2.2.2.1 i i0 i1) (fun i i0 i1 => hs (53 + i) (by omega) (by omega))
theorem WT_eq {σ σ' : Int → Int} (h : WT σ) (hs : ∀ k, 0 ≤ k → k < 112 → σ' k = σ k) : WT σ' := by
  obtain ⟨t1, t2, t3, t4, t5, t6, t7⟩ := h
  refine ⟨fun i i0 i1 => by rw [hs (60 + i) (by omega) (by omega)]; exact t1 i i0 i1, fun i i0 i1 => by rw [hs (67 + i) (by omega) (by omega)]; exact t2 i i0 i1, fun i i0 i1 => by rw [hs (74 + i) (by omega) (by omega)]; exact t3 i i0 i1, by rw [hs 111 (by omega) (by omega)]; exact t4, fun i i0 i1 => ?_, by rw [hs 0 (by omega) (by omega), hs 1 (by omega) (by omega)]; exact t6, by rw [hs 10 (by omega) (by omega)]; exact t7⟩
  rw [hs 111 (by omega) (by omega)] at i1
  rw [hs (81 + 3 * i) (by omega) (by omega), hs (82 + 3 * i) (by omega) (by omega), hs (83 + 3 * i) (by omega) (by omega), hs 1 (by omega) (by omega)]
  exact t5 i i0 i1
theorem image_ok {N : Nat} (hN : 1000 ≤ N) (a : Int) : OK (x_image N a) (m_image N a) := by
  intro X Y h
  obtain ⟨r, e1, f1, g1⟩ := within_ok N a 0 3 X Y
  unfold x_image m_image
  rw [e1, f1, Option.bind_some, Option.bind_some]
  by_cases c0 : r = 0
  · rw [if_pos c0, if_pos c0]; exact ⟨_, _, _, rfl, rfl, h, TF_refl⟩
  · rw [if_neg c0, if_neg c0]
    have ha : 0 ≤ a ∧ a ≤ 3 := by omega
    obtain ⟨hT, hU, hV, hA, hI⟩ := h
    have hV' := hV
    obtain ⟨vw, vs, vt, v3, v4, v5, v6⟩ := hV'
    obtain ⟨X1, k1, k2, k3, k4, k5, k6⟩ := cpW (N := N) (q := 153 + 60 + 17 * a) (a := 14) X (by omega)
    obtain ⟨Y1, j1, j2, j3, j4⟩ := imgcp_ok hN (Y := up (up (up Y 24 a 1) 22 a (Y 0 21)) 23 a (Y 0 22)) (a := a) (by omega) (by omega)
    have x21 : X1 21 1 = Y 10 10 := by rw [k2 21 (by omega)]; exact vw.2.1.2.1
    have hX : ∀ p, p < 213 + 17 * a ∨ 213 + 17 * a + 16 < p → up X1 (153 + 60 + 17 * a) 5 1 p = X p := fun p hp => by rw [up_ne (by omega), k2 p (by omega)]
    have hY : ∀ p, p < 21 ∨ 24 < p → Y1 p = Y p := fun p hp => by rw [j2 p (by omega), up_ne (by omega), up_ne (by omega), up_ne (by omega)]
    refine ⟨Y 10 10, up X1 (153 + 60 + 17 * a) 5 1, Y1, ?_, ?_, ⟨TR_congr hT (by rw [hX 0 (by omega)]) (hX 1 (by omega)) (by rw [hY 0 (by omega)]) (hY 1 (by omega)), UR_congr hU (by rw [hX 0 (by omega)]) (fun p p1 p2 p3 => hX p (by omega)) (by rw [hY 0 (by omega)]) (hY 2 (by omega)) (hY 4 (by omega)) (hY 5 (by omega)), VR_congr hV (fun p p1 p2 => hX p (by omega)) (hY 10 (by omega)) (by rw [hY 0 (by omega)]) (by rw [hY 0 (by omega)]) (by rw [hY 0 (by omega)]), AR_congr hA (fun p p1 p2 => hX p (by omega)) (hY 10 (by omega)) (hY 12 (by omega)) (by rw [hY 0 (by omega)]), fun k hk0 hk1 => ?_⟩, hX 171 (by omega), hX 172 (by omega), hX 173 (by omega)⟩
    · rw [jchk_pos (by omega), k1]
      unfold jbv jlt
      rw [Option.bind_some]
      dsimp only
      rw [jchk_pos (by omega), up_row (by omega), x21]
    · unfold jlt
      dsimp only
      rw [jchk_pos (by omega), jchk_pos (by omega), jchk_pos (by omega), up_row (q' := 0) (by omega), up_row (q' := 0) (by omega), up_row (q' := 0) (by omega), j1]
      rw [up_row (by omega), up_row (by omega), up_row (by omega)]
    · have y24 : ∀ i, Y1 24 i = if i = a then 1 else Y 24 i := fun i => by
        rw [j2 24 (by omega), up_row (by omega), up_row (by omega), up_all]
        by_cases ci : i = a
        · rw [if_pos ⟨rfl, ci⟩, if_pos ci]
        · rw [if_neg (by omega), if_neg ci]
      have y22 : ∀ i, Y1 22 i = if i = a then Y 0 21 else Y 22 i := fun i => by
        rw [j2 22 (by omega), up_row (by omega), up_all]
        by_cases ci : i = a
        · rw [if_pos ⟨rfl, ci⟩, if_pos ci]
        · rw [if_neg (by omega), if_neg ci, up_row (by omega)]
      have y23 : ∀ i, Y1 23 i = if i = a then Y 0 22 else Y 23 i := fun i => by
        rw [j2 23 (by omega), up_all]
        by_cases ci : i = a
        · rw [if_pos ⟨rfl, ci⟩, if_pos ci]
        · rw [if_neg (by omega), if_neg ci, up_row (by omega), up_row (by omega)]
      rw [y24, y22, y23, hY 0 (by omega)]
      by_cases ck : k = a
      · subst ck
        rw [if_pos rfl, if_pos rfl, if_pos rfl]
        have him : ∀ i, 0 ≤ i → i < 112 → imgR Y1 k i = Y 10 i := fun i i0 i1 => by
          unfold imgR; rw [j4 i i0 i1, up_row (by omega), up_row (by omega), up_row (by omega)]
        refine ⟨up_hit (by omega) rfl, Or.inr rfl, fun _ => ⟨WR_eq (WR_congr (k3 _ vt.2.2.2.1.2 vw) (fun p p1 p2 => up_ne (by omega))) vt.2.2.2.1.2 him, WS_eq vs him, WT_eq vt him, ?_, v4, ?_, v6⟩⟩
        · rw [up_col (by omega)]; exact k4.trans v3
        · rw [up_col (by omega)]; exact k5.trans v5
      · rw [if_neg ck, if_neg ck, if_neg ck]
        obtain ⟨q1, q2, q3⟩ := hI k hk0 hk1
        rw [hX (213 + 17 * k) (by omega)]
        refine ⟨q1, q2, fun z => ?_⟩
        obtain ⟨w1, w2⟩ := q3 z
        have him : imgR Y1 k = imgR Y k ∨ True := Or.inr trivial
        have hie : ∀ i, 0 ≤ i → i < 112 → imgR Y1 k i = imgR Y k i := fun i i0 i1 => by
          unfold imgR; rw [j3 _ (by omega), up_row (by omega), up_row (by omega), up_row (by omega)]
        exact ⟨WR_eq (WR_congr w1 (fun p p1 p2 => hX p (by omega))) w2.2.1.2.2.2.1.2 hie, WS_eq w2.1 hie, WT_eq w2.2.1 hie, w2.2.2⟩
theorem back_ok {N : Nat} (hN : 1000 ≤ N) (a : Int) : OK (x_back N a) (m_back N a) := by
  intro X Y h
  obtain ⟨r, e1, f1, g1⟩ := within_ok N a 0 3 X Y
  unfold x_back m_back
  rw [e1, f1, Option.bind_some, Option.bind_some]
  by_cases c0 : r = 0
  · rw [if_pos c0, if_pos c0]; exact ⟨_, _, _, rfl, rfl, h, TF_refl⟩
  · rw [if_neg c0, if_neg c0]
    have ha : 0 ≤ a ∧ a ≤ 3 := by omega
    have hR := h
    obtain ⟨hT, hU, hV, hA, hI⟩ := h
    obtain ⟨i1, i2, i3⟩ := hI a (by omega) (by omega)
    have hc : 0 ≤ a ∧ a < 4 := by omega
    simp only [jchk_pos hc]
    rw [show (153 + 60 + 17 * a : Int) = 213 + 17 * a by omega, i1]
    by_cases c1 : Y 24 a = 0
    · rw [if_pos c1, if_pos c1]; exact ⟨_, _, _, rfl, rfl, hR, TF_refl⟩
    · rw [if_neg c1, if_neg c1]
      obtain ⟨w1, w2, w3, w4, w5, w6, w7⟩ := i3 (by omega)
      obtain ⟨X1, k1, k2, k3, k4, k5, k6⟩ := cpW (N := N) (q := 14) (a := 213 + 17 * a) X (by omega)
      obtain ⟨Y1, j1, j2, j3⟩ := backcp_ok hN (Y := up (up (up Y 0 21 (Y 22 a)) 0 22 (Y 23 a)) 0 26 0) (a := a) (by omega) (by omega)
      have him : imgR (up (up (up Y 0 21 (Y 22 a)) 0 22 (Y 23 a)) 0 26 0) a = imgR Y a := by
        funext i; unfold imgR; rw [up_row (by omega), up_row (by omega), up_row (by omega)]
      rw [him] at j1 j3
      have hX : ∀ p, p < 14 ∨ 31 < p → up X1 31 2 0 p = X p := fun p hp => by rw [up_ne (by omega), k2 p (by omega)]
      have hY : ∀ p, p ≠ 0 → p ≠ 10 → Y1 p = Y p := fun p p0 p1 => by rw [j2 p p1, up_ne p0, up_ne p0, up_ne p0]
      have hY0 : ∀ j, j ≠ 21 → j ≠ 22 → j ≠ 26 → Y1 0 j = Y 0 j := fun j q1 q2 q3 => by rw [j2 0 (by omega), up_col q3, up_col q2, up_col q1]
      have y21 : Y1 0 21 = Y 22 a := by rw [j2 0 (by omega), up_col (by omega), up_col (by omega), up_hit rfl rfl]
      have y22 : Y1 0 22 = Y 23 a := by rw [j2 0 (by omega), up_col (by omega), up_hit rfl rfl]
      have y26 : Y1 0 26 = 0 := by rw [j2 0 (by omega), up_hit rfl rfl]
      have W1 : WR X1 14 (imgR Y a) := k3 _ w3.2.2.2.1.2 w1
      refine ⟨imgR Y a 10, up X1 31 2 0, Y1, ?_, ?_, ⟨TR_congr hT (by rw [hX 0 (by omega)]) (hX 1 (by omega)) (hY0 1 (by omega) (by omega) (by omega)) (hY 1 (by omega) (by omega)), UR_congr hU (by rw [hX 0 (by omega)]) (fun p p1 p2 p3 => hX p (by omega)) (hY0 2 (by omega) (by omega) (by omega)) (hY 2 (by omega) (by omega)) (hY 4 (by omega) (by omega)) (hY 5 (by omega) (by omega)), ?_, ?_, IR_congr hI (fun p p1 p2 => hX p (by omega)) (hY 21 (by omega) (by omega)) (hY 22 (by omega) (by omega)) (hY 23 (by omega) (by omega)) (hY 24 (by omega) (by omega)) (hY0 2 (by omega) (by omega) (by omega))⟩, hX 171 (by omega), hX 172 (by omega), hX 173 (by omega)⟩
      · rw [k1]
        unfold jbv Ac_forget jlt
        rw [Option.bind_some]
        dsimp only
        rw [Option.bind_some]
        dsimp only
        rw [up_row (by omega), show X1 21 1 = imgR Y a 10 from W1.2.1.2.1]
      · unfold jlt
        dsimp only
        rw [up_row (q' := 23) (by omega), j1]
      · unfold VR
        rw [y21, y22, hY0 2 (by omega) (by omega) (by omega), up_row (by omega), up_row (by omega)]
        exact ⟨WR_eq (WR_congr W1 (fun p p1 p2 => up_ne (by omega))) w3.2.2.2.1.2 j3, WS_eq w2 j3, WT_eq w3 j3, k4.trans w4, w5, k5.trans w6, w7⟩
      · unfold AR
        rw [y26, up_hit rfl rfl, up_col (by omega), k2 31 (by omega)]
        exact ⟨rfl, by omega, hA.2.2.1, fun j j0 j1 => by omega⟩
