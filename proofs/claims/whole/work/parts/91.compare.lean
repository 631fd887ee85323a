/-! two sums compared -/
theorem up_up {M : jMem} {q j v w : Int} : up (up M q j v) q j w = up M q j w := by
  funext p k
  rw [up_all, up_all, up_all]
  by_cases c : p = q ∧ k = j
  · rw [if_pos c, if_pos c]
  · rw [if_neg c, if_neg c, if_neg c]
theorem cmp_sign {N : Nat} (hN : 1000 ≤ N) {X Y Y2 : jMem} {m j c : Int} (h : RD X Y m j) (g : SG N X Y Y2 m j c) :
    ((X 3 j < 12 ∨ 16 < X 3 j) ∧ c ≠ 60 ∧ c ≠ 61 ∧ c ≠ 62) ∨ (j < m ∧ ∃ al : Int, ((al = 0 ∧ ¬ (c ≠ 61 ∧ X 4 j + 1 < Y 0 1 ∧ Y 1 (X 4 j + 1) = 61)) ∨ (al = 1 ∧ c ≠ 61 ∧ X 4 j + 1 < Y 0 1 ∧ Y 1 (X 4 j + 1) = 61)) ∧ ((c = 60 ∧ al = 0 ∧ X 3 j = 12) ∨ (c = 60 ∧ al = 1 ∧ X 3 j = 15) ∨ (c = 61 ∧ al = 0 ∧ X 3 j = 13) ∨ (c = 62 ∧ al = 0 ∧ X 3 j = 14) ∨ (c = 62 ∧ al = 1 ∧ X 3 j = 16)) ∧ At X (up Y2 0 8 (X 4 j + 1 + al)) m (j + 1)) := by
  obtain ⟨g1, -, -, -, f2, -, -, g8, -⟩ := g
  obtain ⟨c', s1, s2⟩ := see_ok hN h.1
  rw [g1, Option.some.injEq, Prod.mk.injEq] at s1
  rw [← s1.1] at s2
  have nx : ∀ w, RF Y (up Y2 0 8 w) := fun w => RF_trans f2 RF_up8
  have hA := h.1
  rcases At_pl hA with ⟨z1, z2, z3⟩ | ⟨z1, z2, z3⟩
  · refine Or.inl ⟨by omega, ?_⟩
    rcases s2 with w | w
    · omega
    · omega
  · have by1 := (g8 z1).2
    rw [f2.1 1 (by omega)] at by1
    have b60 := by1 60 (by omega) (by omega)
    have b61 := by1 61 (by omega) (by omega)
    have b62 := by1 62 (by omega) (by omega)
    clear by1 g8 s2
    obtain ⟨⟨-, -, -, -, e⟩, -, -, h4, -⟩ := h.1
    obtain ⟨-, -, q, tk, sk⟩ := e j h4.1 z1
    clear e
    have tk' := tk
    rcases tk with ⟨a, b, k1, -⟩ | ⟨a, -, k1⟩ | ⟨a, b, k1⟩
    · unfold Dg at a
      refine Or.inl ⟨?_, by omega, by omega, by omega⟩
      rw [k1]
      by_cases cc : 5 < q - X 4 j
      · rw [if_pos cc]; omega
      · rw [if_neg cc]; omega
    · unfold Lt at a
      refine Or.inl ⟨?_, by omega, by omega, by omega⟩
      rcases k1 with ⟨i, i0, -, i2⟩ | ⟨-, k⟩ <;> omega
    · rcases k1 with ⟨k, ku, kv, kw, kx⟩ | ⟨k, ku, kv, kw, kx⟩ | ⟨k, ku, kv⟩
      · have c60 := b60.mp kv
        exact Or.inr ⟨z1, 1, Or.inr ⟨rfl, by omega, k, ku⟩, Or.inr (Or.inl ⟨c60, rfl, kw⟩), At_next hA (nx _) z1 tk' sk (by rw [up_hit rfl rfl]; omega)⟩
      · have c62 := b62.mp kv
        exact Or.inr ⟨z1, 1, Or.inr ⟨rfl, by omega, k, ku⟩, Or.inr (Or.inr (Or.inr (Or.inr ⟨c62, rfl, kw⟩))), At_next hA (nx _) z1 tk' sk (by rw [up_hit rfl rfl]; omega)⟩
      · have atn : At X (up Y2 0 8 (X 4 j + 1 + 0)) m (j + 1) := At_next hA (nx _) z1 tk' sk (by rw [up_hit rfl rfl]; omega)
        have sg := sgk_in (Y 1 (X 4 j))
        have sg13 := (sgk_inj (K := 13) (t := 61) (by decide) (by decide))
        by_cases t60 : Y 1 (X 4 j) = 60
        · have c60 := b60.mp t60
          refine Or.inr ⟨z1, 0, Or.inl ⟨rfl, fun w => k ⟨w.2.1, w.2.2, Or.inl t60⟩⟩, Or.inl ⟨c60, rfl, ?_⟩, atn⟩
          rw [ku]; exact sg.2.2.1.mpr t60
        by_cases t61 : Y 1 (X 4 j) = 61
        · have c61 := b61.mp t61
          refine Or.inr ⟨z1, 0, Or.inl ⟨rfl, fun w => w.1 c61⟩, Or.inr (Or.inr (Or.inl ⟨c61, rfl, ?_⟩)), atn⟩
          rw [ku, t61]; exact sg13.1
        by_cases t62 : Y 1 (X 4 j) = 62
        · have c62 := b62.mp t62
          refine Or.inr ⟨z1, 0, Or.inl ⟨rfl, fun w => k ⟨w.2.1, w.2.2, Or.inr t62⟩⟩, Or.inr (Or.inr (Or.inr (Or.inl ⟨c62, rfl, ?_⟩))), atn⟩
          rw [ku]; exact sg.2.2.2.mpr t62
        · refine Or.inl ⟨?_, fun z => t60 (b60.mpr z), fun z => t61 (b61.mpr z), fun z => t62 (b62.mpr z)⟩
          have n12 : X 3 j ≠ 12 := fun z => t60 (sg.2.2.1.mp (by rw [← ku]; exact z))
          have n13 : X 3 j ≠ 13 := fun z => t61 (sg13.2 _ (by rw [← ku]; exact z))
          have n14 : X 3 j ≠ 14 := fun z => t62 (sg.2.2.2.mp (by rw [← ku]; exact z))
          have u14 := sg.2.1
          omega
def cX (N : Nat) (M : jMem) : Option (Int × jMem) := jbv (Rr_readSum N M) fun M18 => jb1 (Rr_takeSign N M18) fun r19 M20 => jbv (Rr_readSum N M20) fun M21 => jchk (jkb jTX (M21 12 1) 5 = true) <| jbv (Ru_apply N (M21 12 1) r19 M21) fun M23 => some (0, M23)
theorem cX_eq {N : Nat} {X X1 X2 X3 X' : jMem} {q K : Int} (h1 : Rr_readSum N X = some (0, X1)) (h2 : Rr_takeSign N X1 = some (K, X2)) (h3 : Rr_readSum N X2 = some (0, X3)) (h4 : X3 12 1 = q) (h5 : jkb jTX q 5 = true) (h6 : Ru_apply N q K X3 = some (0, X')) : cX N X = some (0, X') := by
  unfold cX jbv jb1
  rw [h1, Option.bind_some]
  dsimp only
  rw [h2, Option.bind_some]
  dsimp only
  rw [h3, Option.bind_some]
  dsimp only
  rw [jchk_pos (show jkb jTX (X3 12 1) 5 = true by rw [h4]; exact h5), h4, h6, Option.bind_some]
/-- what the reference does behind the sign of a comparison -/
theorem cmp_ref {N : Nat} {X Y0 Y1 Y2 : jMem} {m j c al u : Int} (g : SG N X Y1 Y2 m j c) (hs : m_sum N Y0 = some (1, Y1)) (hp : 0 ≤ X 4 j ∧ X 4 j < 400) (h400 : Y1 0 1 ≤ 400) (ha : (al = 0 ∧ ¬ (c ≠ 61 ∧ X 4 j + 1 < Y1 0 1 ∧ Y1 1 (X 4 j + 1) = 61)) ∨ (al = 1 ∧ c ≠ 61 ∧ X 4 j + 1 < Y1 0 1 ∧ Y1 1 (X 4 j + 1) = 61)) (hc : (c = 60 ∧ al = 0 ∧ u = 6) ∨ (c = 60 ∧ al = 1 ∧ u = 7) ∨ (c = 61 ∧ al = 0 ∧ u = 8) ∨ (c = 62 ∧ al = 0 ∧ u = 10) ∨ (c = 62 ∧ al = 1 ∧ u = 9)) :
    m_compare N Y0 = jb1 (m_makes N (X 4 j) (up Y2 0 8 (X 4 j + 1 + al))) fun r9 M10 => (if r9 = 0 then some (0, M10) else jb1 (m_sum N M10) fun r12 M13 => (if r12 = 0 then some (0, M13) else jbv (m_puts N u 0 M13) fun M14 => some (1, M14))) := by
  obtain ⟨s1, -, -, -, f2, y8, -⟩ := g
  have m8 : up Y2 0 8 (X 4 j + 1) 0 8 = X 4 j + 1 := up_hit rfl rfl
  have m01 : up Y2 0 8 (X 4 j + 1) 0 1 = Y1 0 1 := by rw [up_col (by omega)]; exact f2.2 1 (by omega) (by omega) (by omega)
  have m1 : up Y2 0 8 (X 4 j + 1) 1 (X 4 j + 1) = Y1 1 (X 4 j + 1) := by rw [up_row (by omega), f2.1 1 (by omega)]
  have w1 : w32 (X 4 j + 1) = X 4 j + 1 := w32_id (by omega)
  have w2 : w32 (X 4 j + 1 + 1) = X 4 j + 1 + 1 := w32_id (by omega)
  have w6 : w32 6 = 6 := w32_id (by omega)
  have w7 : w32 7 = 7 := w32_id (by omega)
  have w8 : w32 8 = 8 := w32_id (by omega)
  have w9 : w32 9 = 9 := w32_id (by omega)
  have w10 : w32 10 = 10 := w32_id (by omega)
  unfold m_compare jlt jb1 jbv
  have A0 : c ≠ 61 → al = 0 → (X 4 j + 1 < Y1 0 1 → Y1 1 (X 4 j + 1) ≠ 61) := fun c61 a0 cl z => by
    rcases ha with ⟨-, w⟩ | ⟨w, -⟩
    · exact w ⟨c61, cl, z⟩
    · omega
  have A1 : al = 1 → X 4 j + 1 < Y1 0 1 ∧ Y1 1 (X 4 j + 1) = 61 := fun a1 => by
    rcases ha with ⟨w, -⟩ | ⟨-, -, w⟩
    · omega
    · exact w
  clear ha
  rcases hc with ⟨hc, hal, hu⟩ | ⟨hc, hal, hu⟩ | ⟨hc, hal, hu⟩ | ⟨hc, hal, hu⟩ | ⟨hc, hal, hu⟩
  · subst hc hal hu
    by_cases cl : X 4 j + 1 < Y1 0 1
    · have n61 : (Y1 1 (X 4 j + 1) = 61) = False := eq_false (A0 (by decide) rfl cl)
      have jc : (0 ≤ X 4 j + 1 ∧ X 4 j + 1 < 400) := by omega
      simp only [hs, s1, Option.bind_some, y8, w1, m8, m01, m1, cl, n61, jchk_pos jc, Int.reduceEq, Int.reduceAdd, Int.add_zero, reduceIte, w6]
    · simp only [hs, s1, Option.bind_some, y8, w1, m8, m01, m1, cl, Int.reduceEq, Int.reduceAdd, Int.add_zero, reduceIte, w6]
  · subst hc hal hu
    obtain ⟨cl, p61⟩ := A1 rfl
    have jc : (0 ≤ X 4 j + 1 ∧ X 4 j + 1 < 400) := by omega
    simp only [hs, s1, Option.bind_some, y8, w1, w2, m8, m01, m1, cl, p61, jchk_pos jc, up_up, Int.reduceEq, Int.reduceAdd, Int.add_zero, reduceIte, w7]
  · subst hc hal hu
    simp only [hs, s1, Option.bind_some, y8, w1, Int.reduceEq, Int.reduceAdd, Int.add_zero, reduceIte, w8]
  · subst hc hal hu
    by_cases cl : X 4 j + 1 < Y1 0 1
    · have n61 : (Y1 1 (X 4 j + 1) = 61) = False := eq_false (A0 (by decide) rfl cl)
      have jc : (0 ≤ X 4 j + 1 ∧ X 4 j + 1 < 400) := by omega
      simp only [hs, s1, Option.bind_some, y8, w1, m8, m01, m1, cl, n61, jchk_pos jc, Int.reduceEq, Int.reduceAdd, Int.add_zero, reduceIte, w10]
    · simp only [hs, s1, Option.bind_some, y8, w1, m8, m01, m1, cl, Int.reduceEq, Int.reduceAdd, Int.add_zero, reduceIte, w10]
  · subst hc hal hu
    obtain ⟨cl, p61⟩ := A1 rfl
    have jc : (0 ≤ X 4 j + 1 ∧ X 4 j + 1 < 400) := by omega
    simp only [hs, s1, Option.bind_some, y8, w1, w2, m8, m01, m1, cl, p61, jchk_pos jc, up_up, Int.reduceEq, Int.reduceAdd, Int.add_zero, reduceIte, w9]
theorem cmp_ok {N : Nat} (hN : 1000 ≤ N) {X Y : jMem} {m j q t n v a k : Int} {ts : List Bool} (h : RR X Y m j q t n v a ts) (hk : 0 ≤ k) (hn : n + k ≤ j) (hl : ts.length ≤ 36) :
    ∃ (r : Int) (X' Y' : jMem), cX N X = some (0, X') ∧ m_compare N Y = some (r, Y') ∧ ((r = 1 ∧ ∃ j' n' v', RR X' Y' m j' q t n' v' a (true :: ts) ∧ j < j' ∧ n < n' ∧ n' + k ≤ j' ∧ XG q n X X' ∧ YG t n Y Y') ∨ (r = 0 ∧ FO q t X Y X' Y')) := by
  have nn := RR_nums h
  have hq := nn.2.2.1.1
  have hb := nn.2.2.2.1
  obtain ⟨r, X1, Y1, v1, v2, v3⟩ := sum_ok hN h hk hn (by omega)
  rcases v3 with ⟨z1, j1, n1, u1, z2, z3, z4, z5, z6, z7⟩ | ⟨z1, z2⟩
  · subst z1
    have n1' := RR_nums z2
    obtain ⟨c, Y2, g⟩ := sgn hN z2.1
    have f2 := g.2.2.2.2.1
    have y8 := g.2.2.2.2.2.1
    have rd2 := g.2.2.2.1
    have h400 := z2.1.1.2.1
    have lk := looked_ok (N := N) z2.1
    rcases cmp_sign hN z2.1 g with ⟨K, c1, c2, c3⟩ | ⟨jm, al, ha, hc, atn⟩
    · obtain ⟨e1, e2, e3⟩ := FO_here (N := N) (w := 0) z2 f2 rd2.2.2.2 (by omega)
      have ts1 : Rr_takeSign N X1 = some (X1 3 j1, up X1 2 4 (1 + 8 * X1 4 j1 + 0)) := by
        unfold Rr_takeSign jlt jbv
        rw [jchk_pos z2.2.1.1, lk, Option.bind_some, jchk_pos z2.2.1.1, e1, Option.bind_some]
        dsimp only
        by_cases w : X1 3 j1 < 12
        · rw [if_pos w]
        · rw [if_neg w, if_pos (show 16 < X1 3 j1 by omega)]
      obtain ⟨X', b1, b2, b3, b4⟩ := apply_F (N := N) (c := X1 3 j1) e3.2.1 hq
      refine ⟨0, X', _, cX_eq v1 ts1 (sum_F hN e3.2.1) e3.2.1.2.2.1 hb b1, ?_, Or.inr ⟨rfl, FO_ahead (XG_le z6 (by omega)) (YT_G (YG_le z7 (by omega))) (FO_more e3 b2 b3 b4)⟩⟩
      unfold m_compare jlt jb1
      rw [v2, Option.bind_some]
      dsimp only
      rw [if_neg (show ¬ (1 : Int) = 0 by decide), g.1, Option.bind_some]
      dsimp only
      rw [if_neg c1, if_neg c2, if_neg c3, y8, e2, Option.bind_some]
      dsimp only
      rw [jchk_pos (Or.inl rfl)]
    · have pl := At_pl z2.1.1
      obtain ⟨s, hc1, hK, hcr⟩ : ∃ s : Int, ((c = 60 ∧ al = 0 ∧ s = 6) ∨ (c = 60 ∧ al = 1 ∧ s = 7) ∨ (c = 61 ∧ al = 0 ∧ s = 8) ∨ (c = 62 ∧ al = 0 ∧ s = 10) ∨ (c = 62 ∧ al = 1 ∧ s = 9)) ∧ (12 ≤ X1 3 j1 ∧ X1 3 j1 ≤ 16) ∧ CR (-(X1 3 j1)) s := by
        rcases hc with ⟨w1, w2, w3⟩ | ⟨w1, w2, w3⟩ | ⟨w1, w2, w3⟩ | ⟨w1, w2, w3⟩ | ⟨w1, w2, w3⟩
        · exact ⟨6, Or.inl ⟨w1, w2, rfl⟩, by omega, by rw [w3]; unfold CR; decide⟩
        · exact ⟨7, Or.inr (Or.inl ⟨w1, w2, rfl⟩), by omega, by rw [w3]; unfold CR; decide⟩
        · exact ⟨8, Or.inr (Or.inr (Or.inl ⟨w1, w2, rfl⟩)), by omega, by rw [w3]; unfold CR; decide⟩
        · exact ⟨10, Or.inr (Or.inr (Or.inr (Or.inl ⟨w1, w2, rfl⟩))), by omega, by rw [w3]; unfold CR; decide⟩
        · exact ⟨9, Or.inr (Or.inr (Or.inr (Or.inr ⟨w1, w2, rfl⟩))), by omega, by rw [w3]; unfold CR; decide⟩
      have s16 : 0 ≤ s ∧ s < 16 := by omega
      have cr := cmp_ref g v2 (by omega) h400.2 ha hc1
      clear ha hc hc1
      have fp : RF Y1 (up Y2 0 8 (X1 4 j1 + 1 + al)) := RF_trans f2 RF_up8
      have y12 : up Y2 0 8 (X1 4 j1 + 1 + al) 0 12 = u1 := by rw [fp.2 12 (by omega) (by omega) (by omega)]; exact z2.2.2.1.2.1
      have y9 : up Y2 0 8 (X1 4 j1 + 1 + al) 0 9 = 0 := by rw [up_col (by omega)]; exact rd2.2.2.2
      generalize hY3 : up Y2 0 8 (X1 4 j1 + 1 + al) = Y3 at cr fp y12 y9 atn
      have tsK : ∀ X2, Rr_takeCounted N X1 = some (0, X2) → Rr_takeSign N X1 = some (X1 3 j1, X2) := fun X2 e => by
        unfold Rr_takeSign jlt jbv
        rw [jchk_pos z2.2.1.1, lk, Option.bind_some]
        dsimp only
        rw [if_neg (show ¬ X1 3 j1 < 12 by omega), if_neg (show ¬ 16 < X1 3 j1 by omega), e, Option.bind_some]
      have vv := z2.2.2.1
      by_cases c60 : u1 = 60
      · have ct := counted_60 (N := N) z2.1 z2.2.1.1 (by rw [vv.1]; exact c60)
        have cs := z2.2.2.2.1
        have fz : FZ q (up (up X1 12 2 61) 2 4 (1 + 8 * X1 4 j1 + 3)) := ⟨by rw [up_hit rfl rfl]; omega, by rw [up_row (by omega), up_col (by omega)]; exact z2.2.1.1, by rw [up_row (by omega), up_col (by omega)]; exact z2.2.1.2.1, by rw [up_row (by omega), up_row (by omega), cs.1]; omega, by rw [up_row (by omega), up_row (by omega), cs.1]; omega⟩
        obtain ⟨X', b1, b2, b3, b4⟩ := apply_F (N := N) (c := X1 3 j1) fz hq
        have fo : FO q t X1 Y1 (up (up X1 12 2 61) 2 4 (1 + 8 * X1 4 j1 + 3)) (up Y3 0 9 (1 + 8 * X1 4 j1 + 3)) := ⟨⟨fz.1, by rw [up_hit rfl rfl, up_hit rfl rfl], by rw [up_hit rfl rfl]; omega⟩, fz, XG_trans (XG_12 (n := 0) hq) (XG_2 (n := 0) hq) (by omega), YT_G (YG_RF (RF_trans fp ⟨fun p hp => up_ne hp, fun k _ hk _ => up_col hk⟩))⟩
        refine ⟨0, X', _, cX_eq v1 (tsK _ ct) (sum_F hN fz) fz.2.2.1 hb b1, ?_, Or.inr ⟨rfl, FO_ahead (XG_le z6 (by omega)) (YT_G (YG_le z7 (by omega))) (FO_more fo b2 b3 b4)⟩⟩
        rw [cr]
        unfold jb1
        rw [makes_60 (by rw [y12]; exact c60) y9 (by omega), Option.bind_some]
        dsimp only
        rw [if_pos rfl]
      · have ct := counted_ok (N := N) z2.1 jm z2.2.1.1 vv.1 (by omega)
        have rd12 : RD (up X1 12 2 (u1 + 1)) Y1 m j1 := RD_w z2.1 (fun p a b => up_ne (by omega)) rfl (fun _ _ => rfl)
        have at3 : At X1 (up Y3 0 12 (u1 + 1)) m (j1 + 1) := by
          unfold At at atn ⊢
          rw [up_ne (show (1 : Int) ≠ 0 by omega), up_col (show (1 : Int) ≠ 12 by omega), up_col (show (8 : Int) ≠ 12 by omega)]
          exact atn
        have rd3 : RD (up (up X1 12 2 (u1 + 1)) 2 3 (j1 + 1)) (up Y3 0 12 (u1 + 1)) m (j1 + 1) := RD_next rd12 (At_X at3 (fun p hp => up_ne (by omega))) (by rw [up_col (by omega)]; exact y9)
        have rr3 : RR (up (up X1 12 2 (u1 + 1)) 2 3 (j1 + 1)) (up Y3 0 12 (u1 + 1)) m (j1 + 1) q t n1 (u1 + 1) a (false :: ts) := RR_w z2 rd3 (fun p b1 b2 => by rw [up_ne b1, up_ne b2]) (by rw [up_row (by omega), up_col (by omega)]) (by rw [up_row (by omega), up_col (by omega)]) (by rw [up_row (by omega), up_hit rfl rfl]) (by rw [up_ne (by omega)]; exact fp.1 2 (by omega)) (by rw [up_ne (by omega)]; exact fp.1 3 (by omega)) (by rw [up_col (by omega)]; exact fp.2 11 (by omega) (by omega) (by omega)) (up_hit rfl rfl) (by omega)
        have x3 : XG q n X (up (up X1 12 2 (u1 + 1)) 2 3 (j1 + 1)) := XG_trans z6 (XG_trans (XG_12 (n := n) hq) (XG_2 (n := n) hq) (by omega)) (by omega)
        have y3 : YG t n Y (up Y3 0 12 (u1 + 1)) := YG_trans z7 (YG_trans (YG_RF fp (n := n)) YG_12 (Int.le_refl n)) (by omega)
        obtain ⟨r', X3, Y4, o1, o2, o3⟩ := sum_ok hN rr3 (k := k + 1) (by omega) (by omega) (by rw [List.length_cons]; omega)
        rcases o3 with ⟨w1, j2, n2, u2, w2, w3, w4, w5, w6, w7⟩ | ⟨w1, w2⟩
        · have n2' := RR_nums w2
          obtain ⟨X', Y', b1, b2, b3, b4, b5, -, -⟩ := applyR (N := N) (K := X1 3 j1) (s := s) w2 (by omega) (by omega) s16 hcr (ty_cmp hK)
          refine ⟨1, X', Y', cX_eq v1 (tsK _ ct) o1 w2.2.1.2.1 hb b1, ?_, Or.inl ⟨rfl, j2, n2 + 1, u2, b3, by omega, by omega, by omega, XG_trans x3 (XG_trans w6 b4 (by omega)) (by omega), YG_trans y3 (YG_trans w7 b5 (by omega)) (by omega)⟩⟩
          rw [cr]
          unfold jb1 jbv
          rw [makes_ok y12 (by omega), Option.bind_some]
          dsimp only
          rw [if_neg (show ¬ (1 : Int) = 0 by decide), o2, Option.bind_some]
          dsimp only
          rw [if_neg (show ¬ r' = 0 by omega), b2, Option.bind_some]
        · obtain ⟨X', b1, b2, b3, b4⟩ := apply_F (N := N) (c := X1 3 j1) w2.2.1 hq
          refine ⟨0, X', Y4, cX_eq v1 (tsK _ ct) o1 w2.2.1.2.2.1 hb b1, ?_, Or.inr ⟨rfl, FO_ahead (XG_le x3 (by omega)) (YT_G (YG_le y3 (by omega))) (FO_more w2 b2 b3 b4)⟩⟩
          rw [cr]
          unfold jb1 jbv
          rw [makes_ok y12 (by omega), Option.bind_some]
          dsimp only
          rw [if_neg (show ¬ (1 : Int) = 0 by decide), o2, Option.bind_some]
          dsimp only
          rw [if_pos w1]
  · obtain ⟨X', b1, b2, b3, b4⟩ := apply_F (N := N) (c := 0) z2.2.1 hq
    refine ⟨0, X', Y1, cX_eq v1 (sign_F z2.2.1) (sum_F hN z2.2.1) z2.2.1.2.2.1 hb b1, ?_, Or.inr ⟨rfl, FO_more z2 b2 b3 b4⟩⟩
    unfold m_compare jb1
    rw [v2, Option.bind_some]
    dsimp only
    rw [if_pos z1]
