/-! a YEAR, in step -/
def Stk (p : Int) : Prop := p = 182 ∨ p = 188 ∨ p = 194 ∨ p = 200 ∨ p = 206 ∨ p = 212
def GX (q qy : Int) (X X' : jMem) : Prop := ∀ p, (p < q ∨ q + 5 < p) → (p < qy ∨ qy + 2 < p) → ¬ Stk p → X' p = X p
def GY (Y Y' : jMem) : Prop := (∀ p, p ≠ 0 → p ≠ 8 → p ≠ 9 → p ≠ 10 → p ≠ 11 → Y' p = Y p) ∧ (∀ j, j ≠ 18 → j ≠ 24 → Y' 0 j = Y 0 j) ∧ (∀ k, k < 10 ∨ 46 ≤ k → Y' 10 k = Y 10 k)
theorem GX_refl {q qy : Int} {X : jMem} : GX q qy X X := fun _ _ _ _ => rfl
theorem GY_refl {Y : jMem} : GY Y Y := ⟨fun _ _ _ _ _ _ => rfl, fun _ _ _ => rfl, fun _ _ => rfl⟩
theorem GX_trans {q qy : Int} {X X' X'' : jMem} (h : GX q qy X X') (h' : GX q qy X' X'') : GX q qy X X'' := fun p a b c => by rw [h' p a b c, h p a b c]
theorem GY_trans {Y Y' Y'' : jMem} (h : GY Y Y') (h' : GY Y' Y'') : GY Y Y'' := ⟨fun p a b c d e => by rw [h'.1 p a b c d e, h.1 p a b c d e], fun j a b => by rw [h'.2.1 j a b, h.2.1 j a b], fun k a => by rw [h'.2.2 k a, h.2.2 k a]⟩
/-- a RULE, or none, beside the reference's -/
def FR (X Y : jMem) (rl : Int) : Prop := (rl < 0 ∧ Y 0 21 < 0) ∨ ∃ r, 0 ≤ r ∧ r < 6 ∧ rl = 177 + 6 * r ∧ Y 0 21 = r ∧ RuleR X Y r
def YB (X Y : jMem) (q d rl : Int) : Prop := SR X q (Y 10) ∧ PK X (Y 10) ∧ WS (Y 10) ∧ (∀ i, 0 ≤ i → i < 7 → X d i = Y 10 (46 + i)) ∧ FR X Y rl
def QQ (q qy d : Int) : Prop := (q = 21 ∧ qy = 154 ∧ d = 18) ∨ (q = 161 ∧ qy = 158 ∧ d = 18) ∨ (q = 161 ∧ qy = 158 ∧ d = 167)
theorem FR_congr {X X' Y Y' : jMem} {rl : Int} (h : FR X Y rl) (hx : ∀ p, 177 ≤ p → p ≤ 212 → ¬ Stk p → X' p = X p) (h5 : Y' 5 = Y 5) (h4 : Y' 4 = Y 4) (h2 : Y' 2 = Y 2) (h21 : Y' 0 21 = Y 0 21) : FR X' Y' rl := by
  rcases h with ⟨a, b⟩ | ⟨r, a, b, c, d, e⟩
  · exact Or.inl ⟨a, by rw [h21]; exact b⟩
  · exact Or.inr ⟨r, a, b, c, by rw [h21]; exact d, RuleR_congr e (fun p h1 h2 => hx p (by omega) (by omega) (by unfold Stk; omega)) h5 h4 h2⟩
theorem bears_ex {N : Nat} {X Y : jMem} {q a : Int} (ha : 0 ≤ a ∧ a < 7) (he : X (q + 5) a = Y 10 (39 + a)) (hr : 0 ≤ Y 10 (39 + a) ∧ Y 10 (39 + a) ≤ 9) :
    ∃ m, St_addHeir N q a X = some (0, up X (q + 5) a m) ∧ m_bears N a Y = some (0, up Y 10 (39 + a) m) ∧ 0 ≤ m ∧ m ≤ 9 := by
  have hj := jmin_in (a := Y 10 (39 + a) + 1) (b := 9) (lo := 0) (hi := 9) (by omega) (by omega) (Or.inr (by omega))
  generalize hm : jmin (Y 10 (39 + a) + 1) 9 = m at hj
  refine ⟨m, ?_, ?_, hj⟩
  · unfold St_addHeir jlt
    simp (disch := omega) only [jchk_pos, he, w32_id, hm]
  · unfold m_bears jlt
    simp (disch := omega) only [jchk_pos, w32_id, lesser_ok, Option.bind_some, hm]
theorem SR_of {X X' : jMem} {q : Int} {σ σ' : Int → Int} (h : SR X q σ) (h0 : X' q 0 = σ' 1) (h1 : X' q 1 = σ' 10) (hd : ∀ i, 0 ≤ i → i < 7 → X' (q + 1) i = σ' (11 + i)) (ht : ∀ i, 0 ≤ i → i < 7 → X' (q + 2) i = σ' (18 + i)) (hw : ∀ i, 0 ≤ i → i < 7 → X' (q + 3) i = σ' (25 + i)) (hh : ∀ i, 0 ≤ i → i < 7 → X' (q + 4) i = σ' (32 + i)) (he : ∀ i, 0 ≤ i → i < 7 → X' (q + 5) i = σ' (39 + i)) : SR X' q σ' := ⟨h0, h1, hd, ht, hw, hh, he⟩
/-- what is behind the WEDDING of a YEAR -/
theorem tail_ok {N : Nat} (hN : 1000 ≤ N) {X Y : jMem} {q qy d rl v v' : Int} (hq : QQ q qy d) (hB : YB X Y q d rl) (hy : 0 ≤ Y 10 10 ∧ Y 10 10 < 2000000) :
    ∃ X' Y', (jbv (Ye_drawAll N qy q d X) fun M4 => jbv (Ye_rainOnAll N qy q (M4 15 1) M4) fun M5 => jlt (fun (M6 : jMem) => jlt (up M6 q 1 (w32 (M6 q 1 + 1))) fun M7 => some (v, M7)) fun j92 => (if (w32 (M5 q 1 + 1)).tmod 5 = 0 then jfix N (Ye_pass_L71 N q j92) (0, M5) else j92 M5)) = some (v, X') ∧
      (jbv (m_drawsAll N Y) fun M4 => jbv (m_rainsOn N M4) fun M5 => jlt (up M5 10 10 (w32 (M5 10 10 + 1))) fun M6 => jfix N (m_passes_L42 N v') (0, M6)) = some (v', Y') ∧
      YB X' Y' q d rl ∧ GX q qy X X' ∧ GY Y Y' ∧ Y' 10 10 = Y 10 10 + 1 ∧ (∀ i, 0 ≤ i → i < Y 10 1 → X' (qy + 1) i = Y' 11 i ∧ 0 ≤ Y' 11 i ∧ Y' 11 i ≤ 5) ∧ X' qy 1 = Y' 0 24 ∧ 0 ≤ Y' 0 24 ∧ Y' 0 24 < 128 := by
  obtain ⟨hS, hP, hW, hd, hF⟩ := hB
  have hq0 : (q = 21 ∧ qy = 154 ∧ d = 18) ∨ (q = 161 ∧ qy = 158 ∧ d = 18) ∨ (q = 161 ∧ qy = 158 ∧ d = 167) := hq
  obtain ⟨X1, Y1, a1, a2, a3, a4, a5, a6, a7, a8⟩ := drawAll_ok hN (qy := qy) (d := d) hS hW hd (by omega) (by omega) (by omega)
  have x151 : X1 15 1 = Y1 10 2 := by rw [a6 15 (by omega) (by omega), a8 2 (by omega)]; exact hP.2.1
  obtain ⟨X2, Y2, b1, b2, b3, b4, b5, b6, b7, b8, b9, b10, b11, b12⟩ := rainOnAll_ok hN (qy := qy) (rain := X1 15 1) a3 a4 x151 (by omega)
  have e10 : Y2 10 10 = Y 10 10 := by rw [b12 10 (by omega), a8 10 (by omega)]
  have e1 : Y2 10 1 = Y 10 1 := by rw [b12 1 (by omega), a8 1 (by omega)]
  have w1 : 0 ≤ Y 10 1 ∧ Y 10 1 ≤ 7 := hW.1
  have key : wp2 ((if (w32 (X2 q 1 + 1)).tmod 5 = 0 then jfix N (Ye_pass_L71 N q (fun (M6 : jMem) => jlt (up M6 q 1 (w32 (M6 q 1 + 1))) fun M7 => some (v, M7))) (0, X2) else (fun (M6 : jMem) => jlt (up M6 q 1 (w32 (M6 q 1 + 1))) fun M7 => some (v, M7)) X2)) (jfix N (m_passes_L42 N v') (0, up Y2 10 10 (w32 (Y2 10 10 + 1)))) (fun o o' => o.1 = v ∧ o'.1 = v' ∧ SR o.2 q (o'.2 10) ∧ WS (o'.2 10) ∧ (∀ p, p ≠ q → p ≠ q + 5 → o.2 p = X2 p) ∧ (∀ p, p ≠ 10 → o'.2 p = Y2 p) ∧ (∀ k, k < 10 ∨ (10 < k ∧ k < 39) ∨ 46 ≤ k → o'.2 10 k = Y2 10 k) ∧ o'.2 10 10 = Y2 10 10 + 1) := by
    have x21 : X2 q 1 = Y2 10 10 := b3.2.1
    rw [x21, w32_id (x := Y2 10 10 + 1) (by omega)]
    have fin : ∀ A B : jMem, A q 1 = Y2 10 10 → A q 0 = Y2 10 1 → B 10 10 = Y2 10 10 + 1 → (∀ p, p ≠ q + 5 → A p = X2 p) → (∀ p, p ≠ 10 → B p = Y2 p) → (∀ k, k < 10 ∨ (10 < k ∧ k < 39) ∨ 46 ≤ k → B 10 k = Y2 10 k) → (∀ i, 0 ≤ i → i < 7 → A (q + 5) i = B 10 (39 + i) ∧ 0 ≤ B 10 (39 + i) ∧ B 10 (39 + i) ≤ 9) → wp2 (jlt (up A q 1 (w32 (A q 1 + 1))) fun M7 => some (v, M7)) (some (v', B)) (fun o o' => o.1 = v ∧ o'.1 = v' ∧ SR o.2 q (o'.2 10) ∧ WS (o'.2 10) ∧ (∀ p, p ≠ q → p ≠ q + 5 → o.2 p = X2 p) ∧ (∀ p, p ≠ 10 → o'.2 p = Y2 p) ∧ (∀ k, k < 10 ∨ (10 < k ∧ k < 39) ∨ 46 ≤ k → o'.2 10 k = Y2 10 k) ∧ o'.2 10 10 = Y2 10 10 + 1) := by
      intro A B z1 z0 z2 z3 z4 z5 z6
      unfold jlt
      rw [z1, w32_id (by omega)]
      obtain ⟨f0, f1, fd, ft, fw, fh, fe⟩ := b3
      refine wp2_some ⟨rfl, rfl, ?_, ?_, ?_, z4, z5, z2⟩
      · dsimp only
        refine ⟨?_, ?_, fun i g0 g7 => ?_, fun i g0 g7 => ?_, fun i g0 g7 => ?_, fun i g0 g7 => ?_, fun i g0 g7 => ?_⟩
        · rw [up_col (by omega), z0, z5 1 (by omega)]
        · rw [up_hit rfl rfl, z2]
        · rw [up_row (by omega), z3 (q + 1) (by omega), z5 (11 + i) (by omega)]; exact fd i g0 g7
        · rw [up_row (by omega), z3 (q + 2) (by omega), z5 (18 + i) (by omega)]; exact ft i g0 g7
        · rw [up_row (by omega), z3 (q + 3) (by omega), z5 (25 + i) (by omega)]; exact fw i g0 g7
        · rw [up_row (by omega), z3 (q + 4) (by omega), z5 (32 + i) (by omega)]; exact fh i g0 g7
        · rw [up_row (by omega)]; exact (z6 i g0 g7).1
      · obtain ⟨w1, w2, wd, wt, ww, wh, we, wr, wk, -⟩ := id b4
        dsimp only
        refine WS_of b4 (z5 1 (by omega)) (z5 2 (by omega)) (fun i g0 g7 => ?_) (fun i g0 g7 => ?_) (fun i g0 g7 => ?_) (fun i g0 g7 => ?_) (fun i g0 g7 => ?_) (fun i g0 g7 => ?_) (fun i g0 g7 => ?_)
        · rw [z5 (11 + i) (by omega)]; exact wd i g0 g7
        · rw [z5 (18 + i) (by omega)]; exact wt i g0 g7
        · rw [z5 (25 + i) (by omega)]; exact ww i g0 g7
        · rw [z5 (32 + i) (by omega)]
        · exact (z6 i g0 g7).2
        · rw [z5 (46 + i) (by omega)]; exact wr i g0 g7
        · rw [z5 (53 + i) (by omega)]
      · intro p g1 g2
        dsimp only
        rw [up_ne g1]; exact z3 p g2
    have b39 : ∀ i, 0 ≤ i → i < 7 → X2 (q + 5) i = up Y2 10 10 (Y2 10 10 + 1) 10 (39 + i) ∧ 0 ≤ up Y2 10 10 (Y2 10 10 + 1) 10 (39 + i) ∧ up Y2 10 10 (Y2 10 10 + 1) 10 (39 + i) ≤ 9 := by
      intro i g0 g7
      rw [up_col (by omega)]
      exact ⟨b3.2.2.2.2.2.2 i g0 g7, b4.2.2.2.2.2.2.1 i g0 g7⟩
    have c1 : ∀ p, p ≠ 10 → up Y2 10 10 (Y2 10 10 + 1) p = Y2 p := fun p hp => up_ne hp
    have c2 : ∀ k, k < 10 ∨ (10 < k ∧ k < 39) ∨ 46 ≤ k → up Y2 10 10 (Y2 10 10 + 1) 10 k = Y2 10 k := fun k hk => up_col (by omega)
    have c3 : up Y2 10 10 (Y2 10 10 + 1) 10 10 = Y2 10 10 + 1 := up_hit rfl rfl
    by_cases h5 : (Y2 10 10 + 1).tmod 5 = 0
    · rw [if_pos h5]
      refine wp2_fix (fun z : Int × jMem => (Y 10 1 - z.1).toNat) (fun z z' => z.1 = z'.1 ∧ 0 ≤ z.1 ∧ z.1 ≤ Y 10 1 ∧ (z.2 q 1 = Y2 10 10 ∧ z.2 q 0 = Y2 10 1 ∧ z'.2 10 10 = Y2 10 10 + 1) ∧ (∀ p, p ≠ q + 5 → z.2 p = X2 p) ∧ (∀ p, p ≠ 10 → z'.2 p = Y2 p) ∧ (∀ k, k < 10 ∨ (10 < k ∧ k < 39) ∨ 46 ≤ k → z'.2 10 k = Y2 10 k) ∧ (∀ i, 0 ≤ i → i < 7 → z.2 (q + 5) i = z'.2 10 (39 + i) ∧ 0 ≤ z'.2 10 (39 + i) ∧ z'.2 10 (39 + i) ≤ 9)) ?_ N N (0, X2) (0, up Y2 10 10 (Y2 10 10 + 1)) ⟨rfl, Int.le_refl 0, w1.1, ⟨x21, b3.1, c3⟩, fun _ _ => rfl, c1, c2, b39⟩ (by show (Y 10 1 - 0).toNat < N; omega) (by show (Y 10 1 - 0).toNat < N; omega)
      rintro h h' ⟨x, A⟩ ⟨x', B⟩ ⟨g1, g2, g3, ⟨g4, g5, g6⟩, gX, gY, gK, gE⟩ ih
      dsimp only at g1 g2 g3 g4 g5 g6 gX gY gK gE ih
      subst g1
      unfold Ye_pass_L71 m_passes_L42
      dsimp only
      have k1 : B 10 1 = Y2 10 1 := gK 1 (by omega)
      rw [g5, k1, g6]
      refine wp2_ite Iff.rfl (fun hx => ?_) (fun hx => fin A B g4 g5 g6 gX gY gK gE)
      rw [if_pos h5]
      obtain ⟨m, m1, m2, m3, m4⟩ := bears_ex (N := N) (X := A) (Y := B) (q := q) (a := x) ⟨g2, by omega⟩ (gE x g2 (by omega)).1 (gE x g2 (by omega)).2
      rw [m1, m2]
      unfold jbv
      rw [Option.bind_some, Option.bind_some, w32_id (by omega)]
      have n1 : up A (q + 5) x m q 1 = Y2 10 10 := by rw [up_row (by omega)]; exact g4
      have n2 : up A (q + 5) x m q 0 = Y2 10 1 := by rw [up_row (by omega)]; exact g5
      have n3 : up B 10 (39 + x) m 10 10 = Y2 10 10 + 1 := by rw [up_col (by omega)]; exact g6
      have n4 : ∀ p, p ≠ q + 5 → up A (q + 5) x m p = X2 p := fun p hp => by rw [up_ne hp]; exact gX p hp
      have n5 : ∀ p, p ≠ 10 → up B 10 (39 + x) m p = Y2 p := fun p hp => by rw [up_ne hp]; exact gY p hp
      have n6 : ∀ k, k < 10 ∨ (10 < k ∧ k < 39) ∨ 46 ≤ k → up B 10 (39 + x) m 10 k = Y2 10 k := fun k hk => by rw [up_col (by omega)]; exact gK k hk
      have n7 : ∀ i, 0 ≤ i → i < 7 → up A (q + 5) x m (q + 5) i = up B 10 (39 + x) m 10 (39 + i) ∧ 0 ≤ up B 10 (39 + x) m 10 (39 + i) ∧ up B 10 (39 + x) m 10 (39 + i) ≤ 9 := by
        intro i g0 g7
        by_cases hi : i = x
        · subst hi; rw [up_hit rfl rfl, up_hit rfl rfl]; exact ⟨rfl, m3, m4⟩
        · rw [up_col hi, up_col (by omega)]; exact gE i g0 g7
      exact ih (x + 1, _) (x + 1, _) ⟨rfl, by show 0 ≤ x + 1; omega, by show x + 1 ≤ Y 10 1; omega, ⟨n1, n2, n3⟩, n4, n5, n6, n7⟩ (by show (Y 10 1 - (x + 1)).toNat < (Y 10 1 - x).toNat; omega)
    · rw [if_neg h5]
      have hr : jfix N (m_passes_L42 N v') (0, up Y2 10 10 (Y2 10 10 + 1)) = some (v', up Y2 10 10 (Y2 10 10 + 1)) := by
        match N, hN with
        | n + 1, _ =>
          show m_passes_L42 (n + 1) v' _ (0, up Y2 10 10 (Y2 10 10 + 1)) = _
          unfold m_passes_L42
          dsimp only
          rw [c3, if_neg h5, ite_self]
      rw [hr]
      exact fin X2 _ x21 b3.1 c3 (fun _ _ => rfl) c1 c2 b39
  obtain ⟨⟨o1, o2⟩, ⟨p1, p2⟩, k1, k2, rfl, rfl, k3, k4, k5, k6, k7, k8⟩ := key
  dsimp only at k3 k4 k5 k6 k7 k8
  refine ⟨o2, p2, ?_, ?_, ⟨k3, ?_, k4, ?_, ?_⟩, ?_, ⟨?_, ?_, ?_⟩, by rw [k8, e10], ?_, ?_⟩
  · rw [a1]
    unfold jbv
    rw [Option.bind_some]
    dsimp only
    rw [b1, Option.bind_some]
    exact k1
  · rw [a2]
    unfold jbv
    rw [Option.bind_some]
    dsimp only
    rw [b2, Option.bind_some]
    exact k2
  · obtain ⟨z1, z2, z3⟩ := hP
    refine ⟨?_, ?_, fun i g0 g7 => ?_⟩
    · rw [k5 15 (by omega) (by omega), b8 15 (by omega) (by omega) (by omega), a6 15 (by omega) (by omega), k7 1 (by omega), e1]; exact z1
    · rw [k5 15 (by omega) (by omega), b8 15 (by omega) (by omega) (by omega), a6 15 (by omega) (by omega), k7 2 (by omega), b12 2 (by omega), a8 2 (by omega)]; exact z2
    · rw [k5 20 (by omega) (by omega), b8 20 (by omega) (by omega) (by omega), a6 20 (by omega) (by omega), k7 (53 + i) (by omega), b12 (53 + i) (by omega), a8 (53 + i) (by omega)]; exact z3 i g0 g7
  · intro i g0 g7
    rw [k5 d (by omega) (by omega), b8 d (by omega) (by omega) (by omega), a6 d (by omega) (by omega), k7 (46 + i) (by omega), b12 (46 + i) (by omega), a8 (46 + i) (by omega)]; exact hd i g0 g7
  · refine FR_congr hF (fun p g1 g2 g3 => ?_) ?_ ?_ ?_ ?_
    · rw [k5 p (by omega) (by omega), b8 p (by omega) (by omega) (by omega), a6 p (by omega) (by omega)]
    · rw [k6 5 (by decide), b10 5 (by decide) (by decide), a7 5 (by decide) (by decide)]
    · rw [k6 4 (by decide), b10 4 (by decide) (by decide), a7 4 (by decide) (by decide)]
    · rw [k6 2 (by decide), b10 2 (by decide) (by decide), a7 2 (by decide) (by decide)]
    · rw [k6 0 (by decide), b11 21 (by decide), a7 0 (by decide) (by decide)]
  · intro p g1 g2 g3
    rw [k5 p (by omega) (by omega), b8 p (by omega) (by omega) (by omega), a6 p (by omega) (by omega)]
  · intro p g1 g2 g3 g4 g5
    rw [k6 p g4, b10 p g4 g1, a7 p g4 g5]
  · intro j g1 g2
    rw [k6 0 (by decide), b11 j g2, a7 0 (by decide) (by decide)]
  · intro k hk
    rw [k7 k (by omega), b12 k (by omega), a8 k (by omega)]
  · intro i g0 g7
    rw [k5 (qy + 1) (by omega) (by omega), b8 (qy + 1) (by omega) (by omega) (by omega), k6 11 (by decide), b10 11 (by decide) (by decide)]
    exact a5 i g0 g7
  · rw [k5 qy (by omega) (by omega), k6 0 (by decide)]
    exact ⟨b5, b6, b7⟩
theorem pass_ok {N : Nat} (hN : 1000 ≤ N) {X Y : jMem} {q qy d rl : Int} (hq : QQ q qy d) (hB : YB X Y q d rl) (hy : 0 ≤ Y 10 10 ∧ Y 10 10 < 2000000) :
    ∃ v v' X' Y', Ye_pass N qy q d rl X = some (v, X') ∧ m_passes N Y = some (v', Y') ∧ ((v = -2 ∧ v' = -1) ∨ (v = v' ∧ 0 ≤ v')) ∧
      YB X' Y' q d rl ∧ GX q qy X X' ∧ GY Y Y' ∧ Y' 10 10 = Y 10 10 + 1 ∧ (∀ i, 0 ≤ i → i < Y 10 1 → X' (qy + 1) i = Y' 11 i ∧ 0 ≤ Y' 11 i ∧ Y' 11 i ≤ 5) ∧ X' qy 1 = Y' 0 24 ∧ 0 ≤ Y' 0 24 ∧ Y' 0 24 < 128 := by
  have hq0 : (q = 21 ∧ qy = 154 ∧ d = 18) ∨ (q = 161 ∧ qy = 158 ∧ d = 18) ∨ (q = 161 ∧ qy = 158 ∧ d = 167) := hq
  have hB' := hB
  obtain ⟨hS, hP, hW, hd, hF⟩ := hB
  have ch : ∃ v v' X1 Y1, (if rl < 0 then (Ye_firstTwo N q X).bind fun r => some (r, X) else Ye_bestTwo N qy q rl X) = some (v, X1) ∧ m_choice N Y = some (v', Y1) ∧ TwoR (Y 10) v v' ∧ (∀ p, p ≠ qy + 2 → ¬ Stk p → X1 p = X p) ∧ (∀ p, p ≠ 0 → p ≠ 8 → p ≠ 9 → Y1 p = Y p) ∧ (∀ j, j ≠ 18 → Y1 0 j = Y 0 j) := by
    rcases hF with ⟨z1, z2⟩ | ⟨r, z1, z2, z3, z4, z5⟩
    · obtain ⟨v, v', c1, c2, c3⟩ := noRule_ok hN hS hP hW z2
      exact ⟨v, v', X, Y, by rw [if_pos z1, c1, Option.bind_some], c2, c3, fun _ _ _ => rfl, fun _ _ _ _ => rfl, fun _ _ => rfl⟩
    · obtain ⟨v, v', X1, Y1, c1, c2, c3, c4, c5, c6⟩ := best_ok hN (qy := qy) hS hP hW ⟨z1, z2⟩ z4 z5 (by omega)
      exact ⟨v, v', X1, Y1, by rw [if_neg (by omega), z3]; exact c1, c2, c3, fun p g1 g2 => c4 p g1 (by unfold Stk at g2; omega), c5, c6⟩
  obtain ⟨v, v', X1, Y1, c1, c2, c3, c4, c5, c6⟩ := ch
  have hs : ∀ p, q ≤ p → p ≤ q + 5 → ¬ Stk p := fun p h1 h2 => by unfold Stk; omega
  have y10 : Y1 10 = Y 10 := c5 10 (by decide) (by decide) (by decide)
  have hB1 : YB X1 Y1 q d rl := by
    refine ⟨?_, ?_, by rw [y10]; exact hW, ?_, ?_⟩
    · rw [y10]; exact SR_congr hS (fun p h1 h2 => c4 p (by omega) (hs p h1 h2))
    · rw [y10]; exact PK_congr hP (c4 15 (by omega) (by unfold Stk; omega)) (c4 20 (by omega) (by unfold Stk; omega))
    · intro i g0 g7; rw [y10, c4 d (by omega) (by unfold Stk; omega)]; exact hd i g0 g7
    · exact FR_congr hF (fun p g1 g2 g3 => c4 p (by omega) g3) (c5 5 (by decide) (by decide) (by decide)) (c5 4 (by decide) (by decide) (by decide)) (c5 2 (by decide) (by decide) (by decide)) (c6 21 (by decide))
  have gX1 : GX q qy X X1 := fun p _ g2 g3 => c4 p (by omega) g3
  have gY1 : GY Y Y1 := ⟨fun p g1 g2 g3 _ _ => c5 p g1 g2 g3, fun j g1 _ => c6 j g1, fun k _ => by rw [y10]⟩
  have hsplit : ∀ T : Int → jMem → Option (Int × jMem), (if rl < 0 then (Ye_firstTwo N q X).bind fun r15 => T r15 X else jb1 (Ye_bestTwo N qy q rl X) fun r13 M14 => T r13 M14) = T v X1 := by
    intro T
    by_cases hrl : rl < 0
    · rw [if_pos hrl] at c1 ⊢
      cases hft : Ye_firstTwo N q X with
      | none => rw [hft] at c1; cases c1
      | some z => rw [hft, Option.bind_some] at c1; rw [Option.bind_some]; cases c1; rfl
    · rw [if_neg hrl] at c1 ⊢
      rw [c1]; rfl
  have hT : Ye_pass N qy q d rl X = jlt (fun (M3 : jMem) => jbv (Ye_drawAll N qy q d M3) fun M4 => jbv (Ye_rainOnAll N qy q ((M4 15 1)) M4) fun M5 => jlt (fun (M6 : jMem) => jlt (up M6 q 1 ((w32 (((M6 q 1)) + 1)))) fun M7 => some (v, M7)) fun j92 => (if (((w32 (((M5 q 1)) + 1))).tmod 5) = 0 then jfix N (Ye_pass_L71 N q j92) (0, M5) else j92 M5)) fun j42 => (if v < 0 then j42 X1 else jbv (St_marry N q ((w32 (v.tdiv 8))) ((v.tmod 8)) X1) fun M11 => j42 M11) := hsplit (fun (u1 : Int) (M2 : jMem) => jlt (fun (M3 : jMem) => jbv (Ye_drawAll N qy q d M3) fun M4 => jbv (Ye_rainOnAll N qy q ((M4 15 1)) M4) fun M5 => jlt (fun (M6 : jMem) => jlt (up M6 q 1 ((w32 (((M6 q 1)) + 1)))) fun M7 => some (u1, M7)) fun j92 => (if (((w32 (((M5 q 1)) + 1))).tmod 5) = 0 then jfix N (Ye_pass_L71 N q j92) (0, M5) else j92 M5)) fun j42 => (if u1 < 0 then j42 M2 else jbv (St_marry N q ((w32 (u1.tdiv 8))) ((u1.tmod 8)) M2) fun M11 => j42 M11))
  rw [hT]
  unfold m_passes
  rw [c2]
  unfold jb1
  rw [Option.bind_some]
  dsimp only
  rcases c3 with ⟨e1, e2⟩ | ⟨e1, a, b, e2, e3, e4, e5, e6, e7⟩
  · obtain ⟨X', Y', t1, t2, t3, t4, t5, t6, t7, t8⟩ := tail_ok hN (v := v) (v' := v') hq hB1 (by rw [y10]; exact hy)
    unfold jlt at t1 t2 ⊢
    dsimp only at t1 t2 ⊢
    rw [if_pos (show v < 0 by omega), if_pos (show v' < 0 by omega)]
    exact ⟨v, v', X', Y', t1, t2, Or.inl ⟨e1, e2⟩, t3, GX_trans gX1 t4, GY_trans gY1 t5, by rw [t6, y10], by rw [y10] at t7; exact t7, t8⟩
  · subst e1
    have hn : 0 ≤ Y 10 1 ∧ Y 10 1 ≤ 7 := hW.1
    unfold jlt
    dsimp only
    rw [if_neg (show ¬ v < 0 by omega), if_neg (show ¬ v < 0 by omega)]
    have d1 : v.tdiv 8 = a := by rw [td_nn (by omega)]; omega
    have d2 : v.tmod 8 = b := by rw [tm_nn (by omega)]; omega
    rw [d1, d2, w32_id (x := a) (by omega)]
    obtain ⟨mS, mP, mW, md, mF⟩ := hB1
    obtain ⟨X2, Y2, m1, m2, m3, m4, ⟨m5, m5'⟩, ⟨m6, m7⟩, m8⟩ := marry_ok (N := N) (X := X1) (Y := Y1) (q := q) (a := a) (b := b) mS mW (by rw [y10]; omega) (by rw [y10]; omega) (by omega) (by rw [y10]; exact e6) (by rw [y10]; exact e7)
    have hB2 : YB X2 Y2 q d rl := by
      obtain ⟨z1, z2, z3⟩ := mP
      refine ⟨m3, ⟨?_, ?_, fun i g0 g7 => ?_⟩, m4, ?_, ?_⟩
      · rw [m5 15 (by omega), m7 1 (by omega)]; exact z1
      · rw [m5 15 (by omega), m7 2 (by omega)]; exact z2
      · rw [m5 20 (by omega), m7 (53 + i) (by omega)]; exact z3 i g0 g7
      · intro i g0 g7; rw [m5 d (by omega), m7 (46 + i) (by omega)]; exact md i g0 g7
      · exact FR_congr mF (fun p g1 g2 g3 => m5 p (by omega)) (m6 5 (by decide)) (m6 4 (by decide)) (m6 2 (by decide)) (by rw [m6 0 (by decide)])
    obtain ⟨X', Y', t1, t2, t3, t4, t5, t6, t7, t8⟩ := tail_ok hN (v := v) (v' := v) hq hB2 (by rw [m8, y10]; exact hy)
    rw [m1, m2]
    unfold jlt at t1 t2
    unfold jbv at t1 t2 ⊢
    rw [Option.bind_some, Option.bind_some]
    have gX2 : GX q qy X1 X2 := fun p g1 _ _ => m5 p g1
    have gY2 : GY Y1 Y2 := ⟨fun p _ _ _ g4 _ => m6 p g4, fun j _ _ => by rw [m6 0 (by decide)], m7⟩
    refine ⟨v, v, X', Y', t1, t2, Or.inr ⟨rfl, by omega⟩, t3, GX_trans gX1 (GX_trans gX2 t4), GY_trans gY1 (GY_trans gY2 t5), by rw [t6, m8, y10], ?_, t8⟩
    rw [m7 1 (by omega), y10] at t7
    exact t7
