/-! what a RULE says of two FARMS -/
def RuleR (X Y : jMem) (r : Int) : Prop :=
  X (177 + 6 * r) 5 = Y 5 r ∧ 0 ≤ Y 5 r ∧ Y 5 r ≤ 12 ∧ ∀ i, 0 ≤ i → i < Y 5 r → ∃ a b e : Int, X (177 + 6 * r + 2) i = a ∧ X (177 + 6 * r + 3) i = b ∧ X (177 + 6 * r + 4) i = e ∧ Y 4 (48 * r + 4 * i) = a ∧ Y 4 (48 * r + 4 * i + 1) = b ∧ 0 ≤ a ∧ a ≤ b ∧ b ≤ e ∧ e ≤ 400 ∧
    (∀ j, a ≤ j → j < e → CR (X (177 + 6 * r + 1) j) (Y 2 (400 * r + j))) ∧ tyF (X (177 + 6 * r + 1)) (b - a).toNat a [] = some [false] ∧
    ((Y 4 (48 * r + 4 * i + 2) = -1 ∧ e = b) ∨ (Y 4 (48 * r + 4 * i + 2) = b ∧ Y 4 (48 * r + 4 * i + 3) = e ∧ b < e ∧ tyF (X (177 + 6 * r + 1)) (e - b).toNat b [] = some [true]))
theorem worth_ok {N : Nat} (hN : 1000 ≤ N) {X Y : jMem} {r a3 : Int} (hr : 0 ≤ r ∧ r < 6) (hR : RuleR X Y r) (hwd : ∀ k, 0 ≤ k → k < 12 → X a3 k = Y 9 k) (h3 : a3 ≠ 177 + 6 * r + 5) :
    ∃ v X' Y', Ru_worth N (177 + 6 * r) a3 X = some (v, X') ∧ m_summedBy N r Y = some (v, Y') ∧ (∀ p, p ≠ 177 + 6 * r + 5 → X' p = X p) ∧ (∀ p, p ≠ 0 → p ≠ 8 → Y' p = Y p) ∧ (∀ j, j ≠ 18 → Y' 0 j = Y 0 j) := by
  obtain ⟨c0, c1, c2, cl⟩ := hR
  generalize hq : 177 + 6 * r = q at *
  have key : wp2 (Ru_worth N q a3 X) (m_summedBy N r Y) (fun o o' => o.1 = o'.1 ∧ (∀ p, p ≠ q + 5 → o.2 p = X p) ∧ (∀ p, p ≠ 0 → p ≠ 8 → o'.2 p = Y p) ∧ (∀ j, j ≠ 18 → o'.2 0 j = Y 0 j)) := by
    unfold Ru_worth m_summedBy
    refine wp2_fix (fun z : Int × jMem => (Y 5 r - z.1).toNat) (fun z z' => z.1 = z'.1 ∧ 0 ≤ z.1 ∧ z.1 ≤ Y 5 r ∧ (∀ p, p ≠ q + 5 → z.2 p = X p) ∧ (∀ p, p ≠ 0 → p ≠ 8 → z'.2 p = Y p) ∧ (∀ j, j ≠ 18 → z'.2 0 j = Y 0 j)) ?_ N N (0, X) (0, Y) ⟨rfl, Int.le_refl 0, c1, fun _ _ => rfl, fun _ _ _ => rfl, fun _ _ => rfl⟩ (by show (Y 5 r - 0).toNat < N; omega) (by show (Y 5 r - 0).toNat < N; omega)
    rintro h h' ⟨i, A⟩ ⟨i', B⟩ ⟨e1, e2, e3, eX, eY, eZ⟩ ih
    dsimp only at e1 e2 e3 eX eY eZ ih
    subst e1
    unfold Ru_worth_L2 m_summedBy_L2
    dsimp only
    have a0 : A q = X q := eX q (by omega)
    have a1 : A (q + 1) = X (q + 1) := eX _ (by omega)
    have a2 : A (q + 2) = X (q + 2) := eX _ (by omega)
    have a3' : A (q + 3) = X (q + 3) := eX _ (by omega)
    have a4 : A (q + 4) = X (q + 4) := eX _ (by omega)
    have b2 : B 2 = Y 2 := eY 2 (by decide) (by decide)
    have b4 : B 4 = Y 4 := eY 4 (by decide) (by decide)
    have b5 : B 5 = Y 5 := eY 5 (by decide) (by decide)
    have b9 : B 9 = Y 9 := eY 9 (by decide) (by decide)
    have aw : A a3 = X a3 := eX a3 h3
    rw [a0, b5, jchk_pos (show 0 ≤ r ∧ r < 6 from hr)]
    refine wp2_ite (by rw [c0]) (fun hx => ?_) (fun hx => wp2_some ⟨rfl, eX, eY, eZ⟩)
    rw [c0] at hx
    obtain ⟨a, b, e, g1, g2, g3, g4, g5, g6, g7, g8, g9, gC, gS, gT⟩ := cl i e2 hx
    unfold jlt
    dsimp only
    rw [a3', a4, b4, g2, g3]
    rw [w32_id (x := 48 * r) (by omega), w32_id (x := 4 * i) (by omega), w32_id (x := 48 * r + 4 * i) (by omega), w32_id (x := 48 * r + 4 * i + 2) (by omega), w32_id (x := 48 * r + 4 * i + 3) (by omega), w32_id (x := i + 1) (by omega)]
    rw [jchk_pos (show 0 ≤ i ∧ i < 12 by omega), jchk_pos (show 0 ≤ i ∧ i < 12 by omega), jchk_pos (show 0 ≤ 48 * r + 4 * i + 2 ∧ 48 * r + 4 * i + 2 < 288 by omega)]
    have sum : ∀ A' B' : jMem, (∀ p, p ≠ q + 5 → A' p = X p) → (∀ p, p ≠ 0 → p ≠ 8 → B' p = Y p) → (∀ j, j ≠ 18 → B' 0 j = Y 0 j) →
        wp2 (jchk (0 ≤ i ∧ i < 12) (jchk (0 ≤ i ∧ i < 12) (jb1 (Ru_run N q (A' (q + 2) i) (A' (q + 3) i) a3 A') fun r9 M10 => some (r9, M10)))) (jchk (0 ≤ 48 * r + 4 * i ∧ 48 * r + 4 * i < 288) (jchk (0 ≤ w32 (48 * r + 4 * i + 1) ∧ w32 (48 * r + 4 * i + 1) < 288) (jb1 (m_reckons N r (B' 4 (48 * r + 4 * i)) (B' 4 (w32 (48 * r + 4 * i + 1))) B') fun r9 M10 => some (r9, M10)))) (fun o o' => o.1 = o'.1 ∧ (∀ p, p ≠ q + 5 → o.2 p = X p) ∧ (∀ p, p ≠ 0 → p ≠ 8 → o'.2 p = Y p) ∧ (∀ j, j ≠ 18 → o'.2 0 j = Y 0 j)) := by
      intro A' B' hA hB hZ
      rw [w32_id (x := 48 * r + 4 * i + 1) (by omega), jchk_pos (show 0 ≤ i ∧ i < 12 by omega), jchk_pos (show 0 ≤ i ∧ i < 12 by omega), jchk_pos (show 0 ≤ 48 * r + 4 * i ∧ 48 * r + 4 * i < 288 by omega), jchk_pos (show 0 ≤ 48 * r + 4 * i + 1 ∧ 48 * r + 4 * i + 1 < 288 by omega)]
      rw [hA (q + 2) (by omega), hA (q + 3) (by omega), hB 4 (by decide) (by decide), g1, g2, g4, g5]
      obtain ⟨v, X', Y', u1, u2, -, u4, u5, u6⟩ := run_ok hN (X := A') (Y := B') (q := q) (a := a) (b := b) (a3 := a3) (r := r) (t := false) hr ⟨g6, g7, by omega⟩ (fun j h0 h1 => by rw [hA (q + 1) (by omega), hB 2 (by decide) (by decide)]; exact gC j h0 (by omega)) (by rw [hA (q + 1) (by omega)]; exact gS) (fun k h0 h1 => by rw [hA a3 h3, hB 9 (by decide) (by decide)]; exact hwd k h0 h1) h3
      unfold jb1
      rw [u1, u2, Option.bind_some, Option.bind_some]
      refine wp2_some ?_
      dsimp only
      exact ⟨rfl, fun p hp => by rw [u4 p hp]; exact hA p hp, fun p h0 h1 => by rw [u5 p h0 h1]; exact hB p h0 h1, fun j hj => by rw [u6 j hj]; exact hZ j hj⟩
    rcases gT with ⟨t1, t2⟩ | ⟨t1, t2, t3, t4⟩
    · rw [if_pos (show b = e by omega), if_neg (by decide), t1, if_pos (by decide)]
      have tt := sum A B eX eY eZ
      rw [a3', g2, b4] at tt
      exact tt
    · rw [if_neg (show ¬ b = e by omega), t1, if_neg (show ¬ b < 0 by omega), jchk_pos (show 0 ≤ i ∧ i < 12 by omega), jchk_pos (show 0 ≤ i ∧ i < 12 by omega), jchk_pos (show 0 ≤ 48 * r + 4 * i + 2 ∧ 48 * r + 4 * i + 2 < 288 by omega), jchk_pos (show 0 ≤ 48 * r + 4 * i + 3 ∧ 48 * r + 4 * i + 3 < 288 by omega), t2]
      obtain ⟨v, X', Y', u1, u2, u3, u4, u5, u6⟩ := run_ok hN (X := A) (Y := B) (q := q) (a := b) (b := e) (a3 := a3) (r := r) (t := true) hr ⟨by omega, g8, g9⟩ (fun j h0 h1 => by rw [a1, b2]; exact gC j (by omega) h1) (by rw [a1]; exact t4) (fun k h0 h1 => by rw [aw, b9]; exact hwd k h0 h1) h3
      unfold jb1
      rw [u1, u2, Option.bind_some, Option.bind_some]
      dsimp only
      have v01 := u3 rfl
      have f1 : ∀ p, p ≠ q + 5 → X' p = X p := fun p hp => by rw [u4 p hp]; exact eX p hp
      have f2 : ∀ p, p ≠ 0 → p ≠ 8 → Y' p = Y p := fun p h0 h1 => by rw [u5 p h0 h1]; exact eY p h0 h1
      have f3 : ∀ j, j ≠ 18 → Y' 0 j = Y 0 j := fun j hj => by rw [u6 j hj]; exact eZ j hj
      rcases v01 with rfl | rfl
      · rw [if_pos (show jcmp 0 0 = 0 by decide), if_pos rfl, if_neg (show ¬ jcmp 0 1 = 0 by decide)]
        exact ih (i + 1, X') (i + 1, Y') ⟨rfl, by show 0 ≤ i + 1; omega, by show i + 1 ≤ Y 5 r; omega, f1, f2, f3⟩ (by show (Y 5 r - (i + 1)).toNat < (Y 5 r - i).toNat; omega)
      · rw [if_neg (show ¬ jcmp 1 0 = 0 by decide), if_neg (by decide), if_pos (show jcmp 1 1 = 0 by decide)]
        exact sum X' Y' f1 f2 f3
  obtain ⟨⟨o1, o2⟩, ⟨p1, p2⟩, g1, g2, g3, g4⟩ := key
  dsimp only at g3 g4
  subst g3
  exact ⟨o1, o2, p2, g1, g2, g4⟩
