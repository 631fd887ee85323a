/-! who WED by a RULE -/
/-- the two that WED, told -/
def TwoR (σ : Int → Int) (v v' : Int) : Prop := (v = -2 ∧ v' = -1) ∨ (v = v' ∧ ∃ a b, 0 ≤ a ∧ a < b ∧ b < σ 1 ∧ v' = 8 * a + b ∧ 0 < σ (39 + a) ∧ 0 < σ (39 + b))
theorem noRule_ok {N : Nat} (hN : 1000 ≤ N) {X Y : jMem} {q : Int} (hS : SR X q (Y 10)) (hP : PK X (Y 10)) (hW : WS (Y 10)) (hf : Y 0 21 < 0) : ∃ v v', Ye_firstTwo N q X = some v ∧ m_choice N Y = some (v', Y) ∧ TwoR (Y 10) v v' := by
  have hn : 0 ≤ Y 10 1 ∧ Y 10 1 ≤ 7 := hW.1
  have hc : ∀ a b, 0 ≤ a → a < Y 10 1 → 0 ≤ b → b < Y 10 1 → m_canWed N a b Y = some ((m_canWed N a b Y).getD 0) := by
    intro a b h1 h2 h3 h4
    obtain ⟨r, r1, r2, r3⟩ := canWed_ok (N := N) hS hP hW (a := a) (b := b) ⟨h1, h2⟩ ⟨h3, h4⟩
    rw [r2]; rfl
  obtain ⟨v, g1, g2⟩ := firstTwo_first hN (X := X) (q := q) (n := Y 10 1) (c := fun a b => (m_canWed N a b Y).getD 0) hn hS.1 (fun a b h1 h2 h3 h4 => by
    obtain ⟨r, r1, r2, r3⟩ := canWed_ok (N := N) hS hP hW (a := a) (b := b) ⟨h1, h2⟩ ⟨h3, h4⟩
    rw [r1, r2]; rfl)
  obtain ⟨v', g3, g4⟩ := choice_first hN (Y := Y) (n := Y 10 1) (c := fun a b => (m_canWed N a b Y).getD 0) hn rfl hf hc
  have e := First_one g2 g4
  subst e
  refine ⟨_, v, g1, g3, ?_⟩
  rcases g2 with ⟨z1, z2⟩ | ⟨a, b, z1, z2, z3, z4, z5, z6⟩
  · exact Or.inl ⟨by rw [if_pos (by omega)], z1⟩
  · refine Or.inr ⟨by rw [if_neg (by omega)], a, b, z1, z2, z3, z4, ?_⟩
    obtain ⟨r, r1, r2, r3⟩ := canWed_ok (N := N) hS hP hW (a := a) (b := b) ⟨z1, by omega⟩ ⟨by omega, z3⟩
    dsimp only at z5
    rw [r2] at z5
    rcases r3 with r3 | ⟨r3, r4, r5, r6⟩
    · exact absurd r3 z5
    · exact ⟨r4, r5⟩
theorem tell_ok {N : Nat} {X Y : jMem} {q qy a b : Int} (hS : SR X q (Y 10)) (hW : WS (Y 10)) (ha : 0 ≤ a ∧ a < 7) (hb : 0 ≤ b ∧ b < 7) (hq : qy + 2 < q ∨ q + 5 < qy + 2) :
    ∃ X', Ye_tellTwo N qy q a b X = some (0, X') ∧ (∀ p, p ≠ qy + 2 → X' p = X p) ∧ (∀ k, 9 ≤ k → X' (qy + 2) k = X (qy + 2) k) ∧ X' (qy + 2) 0 = a ∧ X' (qy + 2) 1 = b ∧ X' (qy + 2) 2 = Y 10 (32 + a) ∧ X' (qy + 2) 3 = Y 10 (32 + b) ∧ X' (qy + 2) 4 = Y 10 (18 + Y 10 (32 + a)) ∧ X' (qy + 2) 5 = Y 10 (18 + Y 10 (32 + b)) ∧ X' (qy + 2) 6 = Y 10 (25 + Y 10 (32 + a)) ∧ X' (qy + 2) 7 = Y 10 (25 + Y 10 (32 + b)) ∧ X' (qy + 2) 8 = Y 10 (39 + a) + Y 10 (39 + b) := by
  obtain ⟨f0, f1, fd, ft, fw, fh, fe⟩ := hS
  obtain ⟨w1, w2, wd, wt, ww, wh, we, wr, wk, wn, wi, wx, wj⟩ := hW
  have ea := wh a ha.1 ha.2
  have eb := wh b hb.1 hb.2
  have hha := fh a ha.1 ha.2
  have hhb := fh b hb.1 hb.2
  generalize Y 10 (32 + a) = s at *
  generalize Y 10 (32 + b) = t at *
  have hla := we a ha.1 ha.2
  have hlb := we b hb.1 hb.2
  refine ⟨_, by
    unfold Ye_tellTwo jlt
    simp (disch := omega) only [hha, hhb, jchk_pos, up_row, ft, fw, fe, w32_id]
    rfl, ?_, ?_, ?_, ?_, ?_, ?_, ?_, ?_, ?_, ?_, ?_⟩
  · intro p hp; simp (disch := omega) only [up_ne]
  · intro k hk; simp (disch := omega) only [up_col]
  all_goals simp (disch := omega) only [up_hit, up_col]
theorem sumOf_eq {N : Nat} (hN : 1000 ≤ N) {X Y : jMem} {q a b h d : Int} (hS : SR X q (Y 10)) (hW : WS (Y 10)) (ha : 0 ≤ a ∧ a < 7) (hb : 0 ≤ b ∧ b < 7) (hh : St_homes N q X = some h) (hd : St_dries N q X = some d) :
    ∃ Z, m_sumOf N a b Y = jb1 (m_summedBy N (Y 0 21) Z) (fun r M => some (r, M)) ∧ (∀ p, p ≠ 9 → Z p = Y p) ∧ Z 9 0 = a ∧ Z 9 1 = b ∧ Z 9 2 = Y 10 (32 + a) ∧ Z 9 3 = Y 10 (32 + b) ∧ Z 9 4 = Y 10 (18 + Y 10 (32 + a)) ∧ Z 9 5 = Y 10 (18 + Y 10 (32 + b)) ∧ Z 9 6 = Y 10 (25 + Y 10 (32 + a)) ∧ Z 9 7 = Y 10 (25 + Y 10 (32 + b)) ∧ Z 9 8 = Y 10 (39 + a) + Y 10 (39 + b) ∧ Z 9 9 = h ∧ Z 9 10 = d ∧ Z 9 11 = Y 10 10 := by
  have kh : ∀ Z : jMem, Z 10 = Y 10 → ∃ s, m_homeOnes N Z = some s ∧ m_bits N s Z = some h := by
    intro Z hZ
    obtain ⟨s, s1, s2, s3, s4⟩ := homes_ok hN (X := X) (Y := Z) (q := q) (by rw [hZ]; exact hS) (by rw [hZ]; exact hW)
    rw [hh] at s1
    refine ⟨s, s2, ?_⟩
    rw [s3 Z]; exact s1.symm
  have kd : ∀ Z : jMem, Z 10 = Y 10 → m_dryMany N Z = some d := by
    intro Z hZ
    obtain ⟨s, s1, s2, s3, s4⟩ := dries_ok hN (X := X) (Y := Z) (q := q) (by rw [hZ]; exact hS) (by rw [hZ]; exact hW)
    rw [hd] at s1
    rw [s2]; exact s1.symm
  obtain ⟨w1, w2, wd, wt, ww, wh, we, wr, wk, wn, wi, wx, wj⟩ := hW
  have ea := wh a ha.1 ha.2
  have eb := wh b hb.1 hb.2
  have hla := we a ha.1 ha.2
  have hlb := we b hb.1 hb.2
  generalize hs : Y 10 (32 + a) = s at *
  generalize ht : Y 10 (32 + b) = t at *
  unfold m_sumOf jlt
  simp (disch := omega) only [hs, ht, jchk_pos, up_row, w32_id]
  generalize hM : up (up (up (up (up (up (up (up (up Y 9 0 a) 9 1 b) 9 2 s) 9 3 t) 9 4 (Y 10 (18 + s))) 9 5 (Y 10 (18 + t))) 9 6 (Y 10 (25 + s))) 9 7 (Y 10 (25 + t))) 9 8 (Y 10 (39 + a) + Y 10 (39 + b)) = M
  have hM10 : M 10 = Y 10 := by rw [← hM]; simp (disch := omega) only [up_ne]
  obtain ⟨z, z1, z2⟩ := kh M hM10
  rw [z1, Option.bind_some, z2, Option.bind_some, kd _ (by rw [up_ne (by decide)]; exact hM10), Option.bind_some]
  refine ⟨_, rfl, ?_⟩
  subst hM
  refine ⟨fun p hp => by simp (disch := omega) only [up_ne], ?_⟩
  simp (disch := omega) only [up_hit, up_col, true_and, and_self]
theorem RuleR_congr {X X' Y Y' : jMem} {r : Int} (h : RuleR X Y r) (hx : ∀ p, 177 + 6 * r ≤ p → p ≤ 177 + 6 * r + 4 → X' p = X p) (h5 : Y' 5 = Y 5) (h4 : Y' 4 = Y 4) (h2 : Y' 2 = Y 2) : RuleR X' Y' r := by
  unfold RuleR
  rw [hx (177 + 6 * r) (by omega) (by omega), hx (177 + 6 * r + 1) (by omega) (by omega), hx (177 + 6 * r + 2) (by omega) (by omega), hx (177 + 6 * r + 3) (by omega) (by omega), hx (177 + 6 * r + 4) (by omega) (by omega), h5, h4, h2]
  exact h
theorem best_ok {N : Nat} (hN : 1000 ≤ N) {X Y : jMem} {q qy r : Int} (hS : SR X q (Y 10)) (hP : PK X (Y 10)) (hW : WS (Y 10)) (hr : 0 ≤ r ∧ r < 6) (hf : Y 0 21 = r) (hR : RuleR X Y r) (hq : (q = 21 ∨ q = 161) ∧ (qy = 154 ∨ qy = 158)) :
    ∃ v v' X' Y', Ye_bestTwo N qy q (177 + 6 * r) X = some (v, X') ∧ m_choice N Y = some (v', Y') ∧ TwoR (Y 10) v v' ∧ (∀ p, p ≠ qy + 2 → p ≠ 177 + 6 * r + 5 → X' p = X p) ∧ (∀ p, p ≠ 0 → p ≠ 8 → p ≠ 9 → Y' p = Y p) ∧ (∀ j, j ≠ 18 → Y' 0 j = Y 0 j) := by
  have hn : 0 ≤ Y 10 1 ∧ Y 10 1 ≤ 7 := hW.1
  obtain ⟨s0, s1, s2, s3, s4, s5⟩ := homes_ok hN hS hW
  obtain ⟨d0, d1, d2, d3, d4⟩ := dries_ok hN hS hW
  have key : wp2 (Ye_bestTwo N qy q (177 + 6 * r) X) (m_choice N Y) (fun o o' => TwoR (Y 10) o.1 o'.1 ∧ (∀ p, p ≠ qy + 2 → p ≠ 177 + 6 * r + 5 → o.2 p = X p) ∧ (∀ p, p ≠ 0 → p ≠ 8 → p ≠ 9 → o'.2 p = Y p) ∧ (∀ j, j ≠ 18 → o'.2 0 j = Y 0 j)) := by
    unfold Ye_bestTwo m_choice jlt
    obtain ⟨d0', d1', d2', -⟩ := dries_ok hN (X := up X (qy + 2) 9 (pcn s0)) (Y := Y) (q := q) (SR_congr hS (fun p _ _ => up_ne (by omega))) hW
    have : d0' = d0 := by rw [d2] at d2'; cases d2'; rfl
    subst this
    rw [s1, Option.bind_some]
    dsimp only
    rw [d1', Option.bind_some]
    have hyr : up (up X (qy + 2) 9 (pcn s0)) (qy + 2) 10 d0' q 1 = Y 10 10 := by
      simp (disch := omega) only [up_row]; exact hS.2.1
    rw [hyr]
    generalize hX0 : up (up (up X (qy + 2) 9 (pcn s0)) (qy + 2) 10 d0') (qy + 2) 11 (Y 10 10) = X0
    have i1 : ∀ p, p ≠ qy + 2 → p ≠ 177 + 6 * r + 5 → X0 p = X p := by
      intro p hp _; rw [← hX0]; simp (disch := omega) only [up_ne]
    have i2 : X0 (qy + 2) 9 = pcn s0 ∧ X0 (qy + 2) 10 = d0' ∧ X0 (qy + 2) 11 = Y 10 10 := by
      rw [← hX0]; simp (disch := omega) only [up_hit, up_col, and_self]
    refine wp2_fix (fun z : Int × Int × Int × jMem => (Y 10 1 - z.2.2.1).toNat) (fun z (z' : Int × Int × Int × jMem) => z.1 = z'.2.1 ∧ TwoR (Y 10) z.2.1 z'.1 ∧ z.2.2.1 = z'.2.2.1 ∧ 0 ≤ z.2.2.1 ∧ z.2.2.1 ≤ Y 10 1 ∧ (∀ p, p ≠ qy + 2 → p ≠ 177 + 6 * r + 5 → z.2.2.2 p = X p) ∧ (z.2.2.2 (qy + 2) 9 = pcn s0 ∧ z.2.2.2 (qy + 2) 10 = d0' ∧ z.2.2.2 (qy + 2) 11 = Y 10 10) ∧ (∀ p, p ≠ 0 → p ≠ 8 → p ≠ 9 → z'.2.2.2 p = Y p) ∧ (∀ j, j ≠ 18 → z'.2.2.2 0 j = Y 0 j)) ?_ N N (0, -2, 0, X0) (-1, 0, 0, Y) ⟨rfl, Or.inl ⟨rfl, rfl⟩, rfl, Int.le_refl 0, hn.1, i1, i2, fun _ _ _ _ => rfl, fun _ _ => rfl⟩ (by show (Y 10 1 - 0).toNat < N; omega) (by show (Y 10 1 - 0).toNat < N; omega)
    rintro h h' ⟨m, v, x, A⟩ ⟨v', m', x', B⟩ ⟨e1, e2, e3, e4, e5, eX, eH, eY, eZ⟩ ih
    dsimp only at e1 e2 e3 e4 e5 eX eH eY eZ ih
    subst e1 e3
    unfold Ye_bestTwo_L46 m_choice_L7 jlt
    dsimp only
    have a0 : A q 0 = Y 10 1 := by rw [eX q (by omega) (by omega)]; exact hS.1
    have b0 : B 10 1 = Y 10 1 := by rw [eY 10 (by decide) (by decide) (by decide)]
    rw [a0, b0]
    refine wp2_ite Iff.rfl (fun hx => ?_) (fun hx => wp2_some ⟨e2, eX, eY, eZ⟩)
    rw [w32_id (x := x + 1) (by omega)]
    refine wp2_fix (fun z : Int × Int × Int × jMem => (Y 10 1 - z.2.2.1).toNat) (fun z (z' : Int × Int × Int × jMem) => z.1 = z'.2.1 ∧ TwoR (Y 10) z.2.1 z'.1 ∧ z.2.2.1 = z'.2.2.1 ∧ x + 1 ≤ z.2.2.1 ∧ z.2.2.1 ≤ Y 10 1 ∧ (∀ p, p ≠ qy + 2 → p ≠ 177 + 6 * r + 5 → z.2.2.2 p = X p) ∧ (z.2.2.2 (qy + 2) 9 = pcn s0 ∧ z.2.2.2 (qy + 2) 10 = d0' ∧ z.2.2.2 (qy + 2) 11 = Y 10 10) ∧ (∀ p, p ≠ 0 → p ≠ 8 → p ≠ 9 → z'.2.2.2 p = Y p) ∧ (∀ j, j ≠ 18 → z'.2.2.2 0 j = Y 0 j)) ?_ N N (m, v, x + 1, A) (v', m, x + 1, B) ⟨rfl, e2, rfl, Int.le_refl _, by show x + 1 ≤ Y 10 1; omega, eX, eH, eY, eZ⟩ (by show (Y 10 1 - (x + 1)).toNat < N; omega) (by show (Y 10 1 - (x + 1)).toNat < N; omega)
    clear e2 eX eH eY eZ a0 b0
    rintro k k' ⟨m, v, y, A⟩ ⟨v', m', y', B⟩ ⟨e1, e2, e3, g4, g5, eX, eH, eY, eZ⟩ jh
    dsimp only at e1 e2 e3 g4 g5 eX eH eY eZ jh
    subst e1 e3
    unfold Ye_bestTwo_L61 m_choice_L24 jlt
    dsimp only
    have a0 : A q 0 = Y 10 1 := by rw [eX q (by omega) (by omega)]; exact hS.1
    have b10 : B 10 = Y 10 := eY 10 (by decide) (by decide) (by decide)
    have b0 : B 10 1 = Y 10 1 := by rw [b10]
    rw [a0, b0]
    have eS : SR A q (B 10) := by rw [b10]; exact SR_congr hS (fun p _ _ => eX p (by omega) (by omega))
    have eP : PK A (B 10) := by rw [b10]; exact PK_congr hP (eX _ (by omega) (by omega)) (eX _ (by omega) (by omega))
    have eW : WS (B 10) := by rw [b10]; exact hW
    refine wp2_ite Iff.rfl (fun hy => ?_) (fun hy => ?_)
    · obtain ⟨c, c1, c2, c3⟩ := canWed_ok (N := N) eS eP eW (a := x) (b := y) ⟨e4, by omega⟩ ⟨by omega, by omega⟩
      rw [c1, c2, Option.bind_some, Option.bind_some, w32_id (x := y + 1) (by omega), w32_id (x := 8 * x) (by omega), w32_id (x := 8 * x + y) (by omega)]
      refine wp2_ite Iff.rfl (fun hc => ?_) (fun hc => ?_)
      · exact jh (m, v, y + 1, A) (v', m, y + 1, B) ⟨rfl, e2, rfl, by show x + 1 ≤ y + 1; omega, by show y + 1 ≤ Y 10 1; omega, eX, eH, eY, eZ⟩ (by show (Y 10 1 - (y + 1)).toNat < (Y 10 1 - y).toNat; omega)
      · have c3' : 0 < Y 10 (39 + x) ∧ 0 < Y 10 (39 + y) := by
          rw [b10] at c3
          rcases c3 with c3 | ⟨_, c4, c5, _⟩
          · exact absurd c3 hc
          · exact ⟨c4, c5⟩
        have hfB : B 0 21 = r := by rw [eZ 21 (by decide)]; exact hf
        rw [if_neg (by omega)]
        obtain ⟨A1, t1, t2, t3, t4⟩ := tell_ok (N := N) eS eW (qy := qy) (a := x) (b := y) ⟨e4, by omega⟩ ⟨by omega, by omega⟩ (by omega)
        obtain ⟨s0', u1, -, -, -, -⟩ := homes_ok hN (X := A) (Y := B) (q := q) eS eW
        obtain ⟨d0'', u2, -, -, -⟩ := dries_ok hN (X := A) (Y := B) (q := q) eS eW
        have hs' : pcn s0' = pcn s0 := by
          obtain ⟨z, z1, z2, z3, -, -⟩ := homes_ok hN (X := A) (Y := Y) (q := q) (by rw [← b10]; exact eS) hW
          rw [s2] at z2; cases z2
          rw [u1] at z1; injection z1
        have hd' : d0'' = d0' := by
          obtain ⟨z, z1, z2, -⟩ := dries_ok hN (X := A) (Y := Y) (q := q) (by rw [← b10]; exact eS) hW
          rw [d2] at z2; cases z2
          rw [u2] at z1; injection z1
        obtain ⟨Z, v1, v2, v3⟩ := sumOf_eq hN (X := A) (Y := B) (q := q) (a := x) (b := y) eS eW ⟨e4, by omega⟩ ⟨by omega, by omega⟩ u1 u2
        rw [t1, v1, hfB]
        unfold jbv
        rw [Option.bind_some]
        dsimp only
        have hRA : RuleR A1 Z r := RuleR_congr hR (fun p g1 g2 => by rw [t2 p (by omega)]; exact eX p (by omega) (by omega)) (by rw [v2 5 (by decide)]; exact eY 5 (by decide) (by decide) (by decide)) (by rw [v2 4 (by decide)]; exact eY 4 (by decide) (by decide) (by decide)) (by rw [v2 2 (by decide)]; exact eY 2 (by decide) (by decide) (by decide))
        obtain ⟨n, A2, B2, p1, p2, p3, p4, p5⟩ := worth_ok hN (X := A1) (Y := Z) (r := r) (a3 := qy + 2) hr hRA (fun k k0 k1 => by
          obtain ⟨x0, x1, x2, x3, x4, x5, x6, x7, x8⟩ := t4
          obtain ⟨y0, y1, y2, y3, y4, y5, y6, y7, y8, y9, y10, y11⟩ := v3
          obtain ⟨eh9, eh10, eh11⟩ := eH
          have x9 := t3 9 (by omega)
          have x10 := t3 10 (by omega)
          have x11 := t3 11 (by omega)
          have hk : k = 0 ∨ k = 1 ∨ k = 2 ∨ k = 3 ∨ k = 4 ∨ k = 5 ∨ k = 6 ∨ k = 7 ∨ k = 8 ∨ k = 9 ∨ k = 10 ∨ k = 11 := by omega
          rcases hk with rfl | rfl | rfl | rfl | rfl | rfl | rfl | rfl | rfl | rfl | rfl | rfl
          · rw [x0, y0]
          · rw [x1, y1]
          · rw [x2, y2]
          · rw [x3, y3]
          · rw [x4, y4]
          · rw [x5, y5]
          · rw [x6, y6]
          · rw [x7, y7]
          · rw [x8, y8]
          · rw [x9, y9, eh9, hs']
          · rw [x10, y10, eh10, hd']
          · rw [x11, y11, eh11, b10]) (by omega)
        rw [p1, p2]
        unfold jb1
        simp only [Option.bind_some]
        have nX : ∀ p, p ≠ qy + 2 → p ≠ 177 + 6 * r + 5 → A2 p = X p := fun p g1 g2 => by rw [p3 p g2, t2 p g1]; exact eX p g1 g2
        have nH : A2 (qy + 2) 9 = pcn s0 ∧ A2 (qy + 2) 10 = d0' ∧ A2 (qy + 2) 11 = Y 10 10 := by
          rw [p3 (qy + 2) (by omega), t3 9 (by omega), t3 10 (by omega), t3 11 (by omega)]; exact eH
        have nY : ∀ p, p ≠ 0 → p ≠ 8 → p ≠ 9 → B2 p = Y p := fun p g1 g2 g3 => by rw [p4 p g1 g2, v2 p g3]; exact eY p g1 g2 g3
        have nZ : ∀ j, j ≠ 18 → B2 0 j = Y 0 j := fun j hj => by rw [p5 j hj, v2 0 (by decide)]; exact eZ j hj
        refine wp2_ite Iff.rfl (fun hg => ?_) (fun hg => ?_)
        · exact jh (n, 8 * x + y, y + 1, A2) (8 * x + y, n, y + 1, B2) ⟨rfl, Or.inr ⟨rfl, x, y, e4, by omega, by omega, rfl, c3'.1, c3'.2⟩, rfl, by show x + 1 ≤ y + 1; omega, by show y + 1 ≤ Y 10 1; omega, nX, nH, nY, nZ⟩ (by show (Y 10 1 - (y + 1)).toNat < (Y 10 1 - y).toNat; omega)
        · exact jh (m, v, y + 1, A2) (v', m, y + 1, B2) ⟨rfl, e2, rfl, by show x + 1 ≤ y + 1; omega, by show y + 1 ≤ Y 10 1; omega, nX, nH, nY, nZ⟩ (by show (Y 10 1 - (y + 1)).toNat < (Y 10 1 - y).toNat; omega)
    · rw [w32_id (by omega)]
      exact ih (m, v, x + 1, A) (v', m, x + 1, B) ⟨rfl, e2, rfl, by show 0 ≤ x + 1; omega, by show x + 1 ≤ Y 10 1; omega, eX, eH, eY, eZ⟩ (by show (Y 10 1 - (x + 1)).toNat < (Y 10 1 - x).toNat; omega)
  obtain ⟨⟨v, X'⟩, ⟨v', Y'⟩, g1, g2, g3, g4, g5, g6⟩ := key
  exact ⟨v, v', X', Y', g1, g2, g3, g4, g5, g6⟩
