theorem zero_ok {N : Nat} : ∀ (d : Nat) (x : Int) (M : jMem) (F : Nat), x + (d : Int) = 81 → 0 ≤ x → d + 1 ≤ F → (∀ k, 0 ≤ k → k < x → M 6 k = 0) → ∃ Z, jfix F (m_parish_L8 N) (x, M) = (jb1 (m_readsAll N Z) fun r4 M5 => (if r4 = 0 then some ((w32 (((-2)) - ((M5 0 9)))), M5) else jfix N (m_parish_L44 N) (0, M5))) ∧ (∀ p, p ≠ 6 → Z p = M p) ∧ (∀ k, 0 ≤ k → k < 81 → Z 6 k = 0) := by
  intro d
  induction d with
  | zero =>
    intro x M F hx x0 hF hz
    obtain ⟨f, rfl⟩ : ∃ f, F = f + 1 := ⟨F - 1, by omega⟩
    refine ⟨M, ?_, fun _ _ => rfl, fun k k0 k1 => hz k k0 (by omega)⟩
    rw [jfix_s]
    unfold m_parish_L8
    dsimp only
    rw [if_neg (by omega)]
  | succ d ih =>
    intro x M F hx x0 hF hz
    obtain ⟨f, rfl⟩ : ∃ f, F = f + 1 := ⟨F - 1, by omega⟩
    obtain ⟨Z, z1, z2, z3⟩ := ih (x + 1) (up M 6 x 0) f (by omega) (by omega) (by omega) (fun k k0 k1 => by
      by_cases c : k = x
      · rw [up_hit rfl c]
      · rw [up_col c]; exact hz k k0 (by omega))
    refine ⟨Z, ?_, fun p hp => by rw [z2 p hp, up_ne hp], z3⟩
    rw [jfix_s, ← z1]
    generalize jfix f (m_parish_L8 N) = kk
    unfold m_parish_L8 jlt
    dsimp only
    rw [if_pos (by omega), jchk_pos (by omega), w32_id (by omega)]
theorem parish_ok {N : Nat} (hN : 1000 ≤ N) : OK (x_parish N) (m_parish N) := by
  intro X Y h
  obtain ⟨hT, hU, hV, hA, hI⟩ := h
  obtain ⟨t1, t2, t3, t4⟩ := hT
  have by1 : By (X 1) := fun i i0 i1 => by rw [(t4 i i0 i1).1]; exact (t4 i i0 i1).2
  obtain ⟨X1, m, c1, c2, c3, c4, c5⟩ := cut_ok hN (X := X) (s := Y 0 1) t2 t3 by1
  obtain ⟨X3, u1, u2, u3⟩ := untold_ok hN (up X1 0 1 0)
  obtain ⟨Z, z1, z2, z3⟩ := zero_ok (N := N) 81 0 (up Y 0 11 6) N (by omega) (by omega) (by omega) (fun k k0 k1 => by omega)
  generalize hZ6 : up (up (up (up (up Z 3 6 0) 0 14 0) 0 8 0) 0 9 0) 0 12 0 = Z6
  have s0 : ∀ k, k ≠ 8 → k ≠ 9 → k ≠ 11 → k ≠ 12 → k ≠ 14 → Z6 0 k = Y 0 k := fun k a b c d e => by rw [← hZ6, up_col d, up_col b, up_col a, up_col e, up_row (by omega), z2 0 (by omega), up_col c]
  have sr : ∀ p, p ≠ 0 → p ≠ 3 → p ≠ 6 → Z6 p = Y p := fun p a b c => by rw [← hZ6, up_ne a, up_ne a, up_ne a, up_ne a, up_ne b, z2 p c, up_ne a]
  have z6 : ∀ k, Z6 6 k = Z 6 k := fun k => by rw [← hZ6, up_row (by omega), up_row (by omega), up_row (by omega), up_row (by omega), up_row (by omega)]
  have x3 : ∀ p, 2 ≤ p → p ≤ 5 → X3 p = X1 p := fun p a b => by rw [u2 p (by omega), up_ne (by omega)]
  have rd : RD X3 Z6 m 0 := by
    have tk : Tok X3 (Y 1) (Y 0 1) m := by
      have := Tok_c (T' := Y 1) (fun i i0 i1 => ((t4 i i0 i1).1).symm) t3 c2
      unfold Tok at this ⊢
      rw [x3 3 (by omega) (by omega), x3 4 (by omega) (by omega), x3 5 (by omega) (by omega)]
      exact this
    refine ⟨⟨?_, ?_, ?_, ⟨by omega, c2.1.1⟩, ?_, ?_⟩, by rw [x3 2 (by omega) (by omega)]; exact c3, by rw [x3 2 (by omega) (by omega)]; exact c4, by rw [← hZ6, up_col (by omega), up_hit rfl rfl]⟩
    · rw [sr 1 (by omega) (by omega) (by omega), s0 1 (by omega) (by omega) (by omega) (by omega) (by omega)]; exact tk
    · rw [s0 1 (by omega) (by omega) (by omega) (by omega) (by omega)]; exact ⟨t2, t3⟩
    · rw [sr 1 (by omega) (by omega) (by omega)]; exact fun i i0 i1 => (t4 i i0 i1).2
    · rw [← hZ6, up_col (by omega), up_col (by omega), up_hit rfl rfl]; omega
    · have e8 : Z6 0 8 = 0 := by rw [← hZ6, up_col (by omega), up_col (by omega), up_hit rfl rfl]
      rw [sr 1 (by omega) (by omega) (by omega), s0 1 (by omega) (by omega) (by omega) (by omega) (by omega), e8]
      exact tk.2.2.2.1
  have e11 : Z6 0 11 = 6 := by rw [← hZ6, up_col (by omega), up_col (by omega), up_col (by omega), up_col (by omega), up_row (by omega), z2 0 (by omega), up_hit rfl rfl]
  have e14 : Z6 0 14 = 0 := by rw [← hZ6, up_col (by omega), up_col (by omega), up_col (by omega), up_hit rfl rfl]
  obtain ⟨v, g, r, X', Yc, Y', p1, p2', p3, p4, p5, p6⟩ := ploop_ok hN 40 0 X3 Z6 m 0 N N (by omega) (by omega) (by omega) (by omega) rd e11 e14 (Or.inl ⟨rfl, fun k k0 k1 => by rw [z6]; exact z3 k k0 k1, u3⟩)
  have xr : ∀ p, 12 ≤ p → X' p = X p := fun p hp => by rw [p4 p (by omega) (by omega), u2 p (by omega), up_ne (by omega), c5 p (by omega)]
  have x1 : X' 1 = X 1 := by rw [p4 1 (by omega) (by omega), u2 1 (by omega), up_ne (by omega), c5 1 (by omega)]
  have x0 : ∀ k, k ≠ 1 → X' 0 k = X 0 k := fun k hk => by rw [p4 0 (by omega) (by omega), u2 0 (by omega), up_col hk, c5 0 (by omega)]
  have x01 : X' 0 1 = 0 := by rw [p4 0 (by omega) (by omega), u2 0 (by omega), up_hit rfl rfl]
  have yr : ∀ p, p ≠ 0 → p ≠ 3 → p ≠ 6 → Y' p = Y p := fun p a b c => by rw [p5.1 p a c]; exact sr p a b c
  have y0 : ∀ k, k = 2 ∨ k = 21 ∨ k = 22 ∨ k = 26 → Y' 0 k = Y 0 k := fun k hk => by rw [p5.2.1 k (by omega) (by omega) (by omega) (by omega) (by omega)]; exact s0 k (by omega) (by omega) (by omega) (by omega) (by omega)
  have hT' : TR X' Y' := ⟨by rw [x01, p5.2.2], by rw [p5.2.2]; omega, by rw [p5.2.2]; omega, by rw [x1, yr 1 (by omega) (by omega) (by omega)]; exact t4⟩
  have hX : Pa_readFrom N 6 (up X1 0 1 0) = some (v, X') := by unfold Pa_readFrom jbv; rw [u1, Option.bind_some]; exact p1
  have hcut : x_cutTape N X = some (0, up X1 0 1 0) := by unfold x_cutTape jbv jlt; rw [t1, c1, Option.bind_some]
  have z11 : Z 0 11 = 6 := by rw [z2 0 (by omega), up_hit rfl rfl]
  have hY : m_readsAll N Z = some (g, Y') := by
    unfold m_readsAll jlt jb1
    dsimp only
    rw [z11, jchk_pos (by decide), hZ6, p2', Option.bind_some]
    exact p3
  have hU' : UR X' Y' := UR_congr hU (x0 6 (by omega)) (fun p a b _ => xr p (by omega)) (y0 2 (by omega)) (yr 2 (by omega) (by omega) (by omega)) (yr 4 (by omega) (by omega) (by omega)) (yr 5 (by omega) (by omega) (by omega))
  have hI' : IR X' Y' := IR_congr hI (fun p a b => xr p (by omega)) (yr 21 (by omega) (by omega) (by omega)) (yr 22 (by omega) (by omega) (by omega)) (yr 23 (by omega) (by omega) (by omega)) (yr 24 (by omega) (by omega) (by omega)) (y0 2 (by omega))
  unfold x_parish m_parish jbv jlt jb1
  dsimp only
  rw [hcut, Option.bind_some, z1]
  dsimp only
  rw [hX, Option.bind_some]
  unfold jb1
  rw [hY, Option.bind_some]
  dsimp only
  rcases p6 with ⟨g1, v1, dr⟩ | ⟨g1, v1, v2, v3⟩
  · rw [if_pos v1, if_neg (show ¬ g = 0 by omega)]
    obtain ⟨Xa, b1, b2, b3⟩ := cpPa (N := N) (q := 15) (a := 6) X' (by omega)
    obtain ⟨Xb, d1, d2, d3, d4, d5⟩ := beginG hN Xa
    obtain ⟨Y1, Y2, e1, e2, e3, e4⟩ := said_ok hN Y'
    obtain ⟨Y2', i1, i2, i3, i4, i5⟩ := beginY hN Y1
    rw [e2] at i1
    cases i1
    have pr := b3 _ dr.1
    have dw := dr.2
    have sg : ∀ k, 0 ≤ k → k < 10 ∨ (46 ≤ k ∧ k < 81) → Y2 10 k = Y' 6 k := fun k k0 hk => by rw [i3 k (by omega), e4 k k0 (by omega), if_pos (by omega)]
    have sh : ∀ i, 0 ≤ i → i < 7 → Y2 10 (11 + i) = Y' 6 (60 + i) ∧ Y2 10 (18 + i) = Y' 6 (67 + i) ∧ Y2 10 (25 + i) = Y' 6 (60 + i) ∧ Y2 10 (32 + i) = i ∧ Y2 10 (39 + i) = Y' 6 (74 + i) := fun i i0 i1 => by
      obtain ⟨q1, q2, q3, q4, q5⟩ := i5 i i0 i1
      rw [q1, q2, q3, q4, q5, e4 (60 + i) (by omega) (by omega), e4 (67 + i) (by omega) (by omega), e4 (74 + i) (by omega) (by omega), if_pos (by omega), if_pos (by omega), if_pos (by omega)]
      exact ⟨rfl, rfl, rfl, rfl, rfl⟩
    have s111 : Y2 10 111 = 0 := by rw [i3 111 (by omega), e4 111 (by omega) (by omega), if_neg (by omega)]
    obtain ⟨m0, m1, m2, m3, m4, m5, m6⟩ := dr.1
    obtain ⟨n0, n1, n2, n3, n4, n5, n6⟩ := pr
    obtain ⟨w0, w1, w2, w3⟩ := dw
    have xa6 : ∀ p, 6 ≤ p → p ≤ 11 → Xa p = X' p := fun p a b => b2 p (by omega)
    have xf : ∀ p, p < 15 ∨ (31 < p) → up (up Xb 27 0 0) 31 2 0 p = X' p := fun p hp => by rw [up_ne (by omega), up_ne (by omega), d2 p (by omega), b2 p (by omega)]
    have yf : ∀ p, p ≠ 0 → p ≠ 10 → up Y2 0 26 0 p = Y' p := fun p a b => by rw [up_ne a, i2 p b, e3 p b]
    have yf0 : ∀ k, k ≠ 26 → up Y2 0 26 0 0 k = Y' 0 k := fun k a => by rw [up_col a, i2 0 (by omega), e3 0 (by omega)]
    have y10 : up Y2 0 26 0 10 = Y2 10 := up_ne (by omega)
    refine ⟨Y2 10 1, up (up Xb 27 0 0) 31 2 0, up Y2 0 26 0, ?_, e1, ⟨TR_congr hT' (by rw [xf 0 (by omega)]) (xf 1 (by omega)) (yf0 1 (by omega)) (yf 1 (by omega) (by omega)), UR_congr hU' (by rw [xf 0 (by omega)]) (fun p a b _ => xf p (by omega)) (yf0 2 (by omega)) (yf 2 (by omega) (by omega)) (yf 4 (by omega) (by omega)) (yf 5 (by omega) (by omega)), ?_, ?_, IR_congr hI' (fun p a b => xf p (by omega)) (yf 21 (by omega) (by omega)) (yf 22 (by omega) (by omega)) (yf 23 (by omega) (by omega)) (yf 24 (by omega) (by omega)) (yf0 2 (by omega))⟩, by rw [xf 171 (by omega)]; exact xr 171 (by omega), by rw [xf 172 (by omega)]; exact xr 172 (by omega), by rw [xf 173 (by omega)]; exact xr 173 (by omega)⟩
    · rw [b1, Option.bind_some]
      dsimp only
      rw [d1, Option.bind_some]
      unfold No_clear Ac_forget jlt
      dsimp only
      rw [Option.bind_some]
      dsimp only
      rw [Option.bind_some]
      dsimp only
      rw [xf 6 (by omega), sg 1 (by omega) (by omega)]
      exact congrArg (fun z => some (z, up (up Xb 27 0 0) 31 2 0)) m0
    · obtain ⟨-, -, -, f1, f2, f3, f4⟩ := hV
      unfold VR
      rw [y10, xf 14 (by omega), xr 14 (by omega), yf0 21 (by omega), yf0 22 (by omega), yf0 2 (by omega), y0 21 (by omega), y0 22 (by omega), y0 2 (by omega)]
      have xp : ∀ p, 15 ≤ p → p ≤ 20 → up (up Xb 27 0 0) 31 2 0 p = Xa p := fun p a b => by rw [up_ne (by omega), up_ne (by omega), d2 p (by omega)]
      have xs : ∀ p, 21 ≤ p → p ≤ 26 → up (up Xb 27 0 0) 31 2 0 p = Xb p := fun p a b => by rw [up_ne (by omega), up_ne (by omega)]
      refine ⟨⟨⟨?_, ?_, fun i i0 i1 => ?_, fun i i0 i1 => ?_, fun i i0 i1 => ?_, fun i i0 i1 => ?_, fun i i0 i1 => ?_⟩, ⟨?_, ?_, fun i i0 i1 => ?_, fun i i0 i1 => ?_, fun i i0 i1 => ?_, fun i i0 i1 => ?_, fun i i0 i1 => ?_⟩, ?_, fun i i0 i1 => by rw [s111] at i1; omega⟩, ⟨?_, ?_, fun i i0 i1 => ?_, fun i i0 i1 => ?_, fun i i0 i1 => ?_, fun i i0 i1 => ?_, fun i i0 i1 => ?_, fun i i0 i1 => ?_, fun i i0 i1 => ?_, fun i i0 i1 => ?_, fun i j i0 i1 j0 j1 q => ?_, fun i i0 i1 => ?_, fun u u0 u1 => ?_⟩, ⟨fun i i0 i1 => ?_, fun i i0 i1 => ?_, fun i i0 i1 => ?_, by rw [s111]; omega, fun i i0 i1 => by rw [s111] at i1; omega, Or.inr ⟨?_, ?_⟩, by rw [i4]; omega⟩, f1, f2, f3, f4⟩
      · rw [xp (14 + 1) (by omega) (by omega), sg 1 (by omega) (by omega)]; exact n0
      · rw [xp (14 + 1) (by omega) (by omega), sg 2 (by omega) (by omega)]; exact n1
      · rw [xp (14 + 1 + 1) (by omega) (by omega), sg (60 + i) (by omega) (by omega)]; exact n2 i i0 i1
      · rw [xp (14 + 1 + 2) (by omega) (by omega), sg (67 + i) (by omega) (by omega)]; exact n3 i i0 i1
      · rw [xp (14 + 1 + 3) (by omega) (by omega), sg (46 + i) (by omega) (by omega)]; exact n4 i i0 i1
      · rw [xp (14 + 1 + 4) (by omega) (by omega), sg (74 + i) (by omega) (by omega)]; exact n5 i i0 i1
      · rw [xp (14 + 1 + 5) (by omega) (by omega), sg (53 + i) (by omega) (by omega)]; exact n6 i i0 i1
      · rw [xs (14 + 7) (by omega) (by omega), sg 1 (by omega) (by omega)]; exact d3.trans (by rw [xa6 6 (by omega) (by omega)]; exact m0)
      · rw [xs (14 + 7) (by omega) (by omega), i4]; exact d4
      · rw [xs (14 + 7 + 1) (by omega) (by omega), (sh i i0 i1).1]; exact (d5 i i0 i1).1.trans (by rw [xa6 7 (by omega) (by omega)]; exact m2 i i0 i1)
      · rw [xs (14 + 7 + 2) (by omega) (by omega), (sh i i0 i1).2.1]; exact (d5 i i0 i1).2.1.trans (by rw [xa6 8 (by omega) (by omega)]; exact m3 i i0 i1)
      · rw [xs (14 + 7 + 3) (by omega) (by omega), (sh i i0 i1).2.2.1]; exact (d5 i i0 i1).2.2.1.trans (by rw [xa6 7 (by omega) (by omega)]; exact m2 i i0 i1)
      · rw [xs (14 + 7 + 4) (by omega) (by omega), (sh i i0 i1).2.2.2.1]; exact (d5 i i0 i1).2.2.2.1
      · rw [xs (14 + 7 + 5) (by omega) (by omega), (sh i i0 i1).2.2.2.2]; exact (d5 i i0 i1).2.2.2.2.trans (by rw [xa6 10 (by omega) (by omega)]; exact m5 i i0 i1)
      · rw [up_row (by omega), up_hit (by omega) rfl, s111]
      · rw [sg 1 (by omega) (by omega)]; omega
      · rw [sg 2 (by omega) (by omega)]; exact w2
      · rw [(sh i i0 i1).1]; have := (w3 i i0 i1).1; omega
      · rw [(sh i i0 i1).2.1]; exact (w3 i i0 i1).2.1
      · rw [(sh i i0 i1).2.2.1]; have := (w3 i i0 i1).1; omega
      · rw [(sh i i0 i1).2.2.2.1]; omega
      · rw [(sh i i0 i1).2.2.2.2]; exact (w3 i i0 i1).2.2.2.1
      · rw [sg (46 + i) (by omega) (by omega)]; exact (w3 i i0 i1).2.2.1
      · rw [sg (53 + i) (by omega) (by omega)]; exact (w3 i i0 i1).2.2.2.2.1
      · rw [sg 1 (by omega) (by omega)] at i1 ⊢; rw [(sh i i0 (by omega)).2.2.2.1]; exact i1
      · rw [sg 1 (by omega) (by omega)] at i1 j1; rw [(sh i i0 (by omega)).2.2.2.1, (sh j j0 (by omega)).2.2.2.1] at q; exact q
      · rw [sg (53 + i) (by omega) (by omega)]; exact (w3 i i0 i1).2.2.2.2.2
      · rw [sg 1 (by omega) (by omega)] at u1; exact ⟨u, u0, by rw [sg 1 (by omega) (by omega)]; exact u1, (sh u u0 (by omega)).2.2.2.1⟩
      · rw [sg (60 + i) (by omega) (by omega)]; exact (w3 i i0 i1).1
      · rw [sg (67 + i) (by omega) (by omega)]; exact (w3 i i0 i1).2.1
      · rw [sg (74 + i) (by omega) (by omega)]; exact (w3 i i0 i1).2.2.2.1
      · rw [sg 0 (by omega) (by omega)]; exact w0
      · rw [sg 1 (by omega) (by omega)]; exact w1.1
    · unfold AR
      rw [up_hit rfl rfl, up_hit rfl rfl, up_col (by omega), up_row (by omega), d2 31 (by omega), b2 31 (by omega), xr 31 (by omega)]
      exact ⟨rfl, by omega, hA.2.2.1, fun j j0 j1 => by omega⟩
  · rw [if_neg v1, if_pos g1, v2]
    exact ⟨_, _, _, rfl, rfl, ⟨hT', hU', VR_congr hV (fun p a b => xr p (by omega)) (yr 10 (by omega) (by omega) (by omega)) (y0 21 (by omega)) (y0 22 (by omega)) (y0 2 (by omega)), AR_congr hA (fun p a b => xr p (by omega)) (yr 10 (by omega) (by omega) (by omega)) (yr 12 (by omega) (by omega) (by omega)) (y0 26 (by omega)), hI'⟩, xr 171 (by omega), xr 172 (by omega), xr 173 (by omega)⟩
