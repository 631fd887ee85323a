/-! who WED: without a RULE, and by one -/
theorem SR_congr {X X' : jMem} {q : Int} {σ : Int → Int} (h : SR X q σ) (hx : ∀ p, q ≤ p → p ≤ q + 5 → X' p = X p) : SR X' q σ := by
  obtain ⟨f0, f1, fd, ft, fw, fh, fe⟩ := h
  have g0 := hx q (by omega) (by omega)
  have g1 := hx (q + 1) (by omega) (by omega)
  have g2 := hx (q + 2) (by omega) (by omega)
  have g3 := hx (q + 3) (by omega) (by omega)
  have g4 := hx (q + 4) (by omega) (by omega)
  have g5 := hx (q + 5) (by omega) (by omega)
  unfold SR
  rw [g0, g1, g2, g3, g4, g5]
  exact ⟨f0, f1, fd, ft, fw, fh, fe⟩
theorem PK_congr {X X' : jMem} {σ : Int → Int} (h : PK X σ) (h1 : X' 15 = X 15) (h2 : X' 20 = X 20) : PK X' σ := by
  unfold PK; rw [h1, h2]; exact h
def First (n : Int) (c : Int → Int → Int) (v : Int) : Prop :=
  (v = -1 ∧ ∀ a b, 0 ≤ a → a < b → b < n → c a b = 0) ∨ ∃ a b, 0 ≤ a ∧ a < b ∧ b < n ∧ v = 8 * a + b ∧ c a b ≠ 0 ∧ ∀ a' b', 0 ≤ a' → a' < b' → b' < n → (a' < a ∨ (a' = a ∧ b' < b)) → c a' b' = 0
theorem First_one {n : Int} {c : Int → Int → Int} {v v' : Int} (h : First n c v) (h' : First n c v') : v = v' := by
  rcases h with ⟨h1, h2⟩ | ⟨a, b, h1, h2, h3, h4, h5, h6⟩
  · rcases h' with ⟨g1, g2⟩ | ⟨a', b', g1, g2, g3, g4, g5, g6⟩
    · omega
    · exact absurd (h2 a' b' g1 g2 g3) g5
  · rcases h' with ⟨g1, g2⟩ | ⟨a', b', g1, g2, g3, g4, g5, g6⟩
    · exact absurd (g2 a b h1 h2 h3) h5
    · by_cases z : a' < a ∨ (a' = a ∧ b' < b)
      · exact absurd (h6 a' b' g1 g2 g3 z) g5
      · by_cases y : a < a' ∨ (a = a' ∧ b < b')
        · exact absurd (g6 a b h1 h2 h3 y) h5
        · omega
theorem firstTwo_first {N : Nat} (hN : 1000 ≤ N) {X : jMem} {q n : Int} {c : Int → Int → Int} (hn : 0 ≤ n ∧ n ≤ 7) (h0 : X q 0 = n) (hc : ∀ a b, 0 ≤ a → a < n → 0 ≤ b → b < n → St_canWed N q a b X = some (c a b)) : ∃ v, Ye_firstTwo N q X = some (if v < 0 then -2 else v) ∧ First n c v := by
  have key : wp (Ye_firstTwo N q X) (fun o => ∃ v, o = (if v < 0 then -2 else v) ∧ First n c v) := by
    unfold Ye_firstTwo
    refine wp_fix (fun z : Int => (n - z).toNat) (fun z => 0 ≤ z ∧ z ≤ n ∧ ∀ a b, 0 ≤ a → a < b → b < n → a < z → c a b = 0) ?_ N 0 ⟨by omega, hn.1, fun a b _ _ _ _ => by omega⟩ (by show (n - 0).toNat < N; omega)
    intro h x ⟨e1, e2, e3⟩ ih
    unfold Ye_firstTwo_L2 jlt
    dsimp only
    rw [h0]
    refine wp_ite (fun hx => ?_) (fun hx => wp_some ⟨-1, rfl, Or.inl ⟨rfl, fun a b g1 g2 g3 => e3 a b g1 g2 g3 (by omega)⟩⟩)
    rw [w32_id (by omega)]
    refine wp_fix (fun z : Int => (n - z).toNat) (fun z => x + 1 ≤ z ∧ z ≤ n ∧ ∀ b, x < b → b < z → c x b = 0) ?_ N (x + 1) ⟨by omega, by omega, fun b _ _ => by omega⟩ (by show (n - (x + 1)).toNat < N; omega)
    intro k y ⟨d1, d2, d3⟩ jh
    unfold Ye_firstTwo_L14
    dsimp only
    rw [h0]
    refine wp_ite (fun hy => ?_) (fun hy => ?_)
    · rw [hc x y e1 hx (by omega) hy, Option.bind_some, w32_id (x := y + 1) (by omega), w32_id (x := 8 * x) (by omega), w32_id (by omega)]
      refine wp_ite (fun hr => ?_) (fun hr => ?_)
      · exact jh (y + 1) ⟨by omega, by omega, fun b g1 g2 => by
          by_cases hb : b = y
          · rw [hb]; exact hr
          · exact d3 b g1 (by omega)⟩ (by show (n - (y + 1)).toNat < (n - y).toNat; omega)
      · exact wp_some ⟨8 * x + y, by rw [if_neg (by omega)], Or.inr ⟨x, y, e1, by omega, hy, rfl, hr, fun a' b' g1 g2 g3 g4 => by
          rcases g4 with g4 | ⟨g4, g5⟩
          · exact e3 a' b' g1 g2 g3 g4
          · rw [g4]; exact d3 b' (by omega) g5⟩⟩
    · rw [w32_id (by omega)]
      exact ih (x + 1) ⟨by omega, by omega, fun a b g1 g2 g3 g4 => by
        by_cases ha : a = x
        · rw [ha]; exact d3 b (by omega) (by omega)
        · exact e3 a b g1 g2 g3 (by omega)⟩ (by show (n - (x + 1)).toNat < (n - x).toNat; omega)
  obtain ⟨o, h1, v, rfl, h2⟩ := key
  exact ⟨v, h1, h2⟩
theorem choice_first {N : Nat} (hN : 1000 ≤ N) {Y : jMem} {n : Int} {c : Int → Int → Int} (hn : 0 ≤ n ∧ n ≤ 7) (h0 : Y 10 1 = n) (hf : Y 0 21 < 0) (hc : ∀ a b, 0 ≤ a → a < n → 0 ≤ b → b < n → m_canWed N a b Y = some (c a b)) : ∃ v, m_choice N Y = some (v, Y) ∧ First n c v := by
  have key : wp (m_choice N Y) (fun o => o.2 = Y ∧ First n c o.1) := by
    unfold m_choice
    refine wp_fix (fun z : Int × Int × Int × jMem => (n - z.2.2.1).toNat) (fun z => z.2.2.2 = Y ∧ 0 ≤ z.2.2.1 ∧ z.2.2.1 ≤ n ∧ ((z.1 = -1 ∧ z.2.1 = 0 ∧ ∀ a b, 0 ≤ a → a < b → b < n → a < z.2.2.1 → c a b = 0) ∨ (z.2.1 = 1 ∧ ∃ a b, 0 ≤ a ∧ a < b ∧ b < n ∧ z.1 = 8 * a + b ∧ c a b ≠ 0 ∧ ∀ a' b', 0 ≤ a' → a' < b' → b' < n → (a' < a ∨ (a' = a ∧ b' < b)) → c a' b' = 0))) ?_ N (-1, 0, 0, Y) ⟨rfl, Int.le_refl 0, hn.1, Or.inl ⟨rfl, rfl, fun a b g1 g2 g3 g4 => by exfalso; revert g4; show ¬ a < 0; omega⟩⟩ (by show (n - 0).toNat < N; omega)
    rintro h ⟨v, m, x, M⟩ ⟨e0, e1, e2, e3⟩ ih
    dsimp only at e0 e1 e2 e3 ih
    subst e0
    unfold m_choice_L7 jlt
    dsimp only
    rw [h0]
    refine wp_ite (fun hx => ?_) (fun hx => wp_some ⟨rfl, ?_⟩)
    · rw [w32_id (by omega)]
      refine wp_fix (fun z : Int × Int × Int × jMem => (n - z.2.2.1).toNat) (fun z => z.2.2.2 = M ∧ x + 1 ≤ z.2.2.1 ∧ z.2.2.1 ≤ n ∧ ((z.1 = -1 ∧ z.2.1 = 0 ∧ (∀ a b, 0 ≤ a → a < b → b < n → a < x → c a b = 0) ∧ ∀ b, x < b → b < z.2.2.1 → c x b = 0) ∨ (z.2.1 = 1 ∧ ∃ a b, 0 ≤ a ∧ a < b ∧ b < n ∧ z.1 = 8 * a + b ∧ c a b ≠ 0 ∧ ∀ a' b', 0 ≤ a' → a' < b' → b' < n → (a' < a ∨ (a' = a ∧ b' < b)) → c a' b' = 0))) ?_ N (v, m, x + 1, M) ⟨rfl, Int.le_refl _, by show x + 1 ≤ n; omega, ?_⟩ (by show (n - (x + 1)).toNat < N; omega)
      · rintro k ⟨v, m, y, M'⟩ ⟨d0, d1, d2, d3⟩ jh
        dsimp only at d0 d1 d2 d3 jh
        subst d0
        unfold m_choice_L24 jlt
        dsimp only
        rw [h0]
        refine wp_ite (fun hy => ?_) (fun hy => ?_)
        · rw [hc x y e1 hx (by omega) hy, Option.bind_some, w32_id (x := y + 1) (by omega), w32_id (x := 8 * x) (by omega), w32_id (x := 8 * x + y) (by omega)]
          refine wp_ite (fun hr => ?_) (fun hr => ?_)
          · refine jh (v, m, y + 1, M') ⟨rfl, by show x + 1 ≤ y + 1; omega, by show y + 1 ≤ n; omega, ?_⟩ (by show (n - (y + 1)).toNat < (n - y).toNat; omega)
            rcases d3 with ⟨z1, z2, z3, z4⟩ | z
            · exact Or.inl ⟨z1, z2, z3, fun b g1 g2 => by
                have g2' : b < y + 1 := g2
                by_cases hb : b = y
                · rw [hb]; exact hr
                · exact z4 b g1 (by omega)⟩
            · exact Or.inr z
          · rw [if_pos hf]
            rcases d3 with ⟨z1, z2, z3, z4⟩ | ⟨z1, z2⟩
            · rw [z2, if_pos (show 0 < jcmp 1 0 by decide)]
              exact jh (8 * x + y, 1, y + 1, M') ⟨rfl, by show x + 1 ≤ y + 1; omega, by show y + 1 ≤ n; omega, Or.inr ⟨rfl, x, y, e1, by omega, hy, rfl, hr, fun a' b' g1 g2 g3 g4 => by
                rcases g4 with g4 | ⟨g4, g5⟩
                · exact z3 a' b' g1 g2 g3 g4
                · rw [g4]; exact z4 b' (by omega) g5⟩⟩ (by show (n - (y + 1)).toNat < (n - y).toNat; omega)
            · rw [z1, if_neg (show ¬ 0 < jcmp 1 1 by decide)]
              exact jh (v, 1, y + 1, M') ⟨rfl, by show x + 1 ≤ y + 1; omega, by show y + 1 ≤ n; omega, Or.inr ⟨rfl, z2⟩⟩ (by show (n - (y + 1)).toNat < (n - y).toNat; omega)
        · rw [w32_id (by omega)]
          refine ih (v, m, x + 1, M') ⟨rfl, by show 0 ≤ x + 1; omega, by show x + 1 ≤ n; omega, ?_⟩ (by show (n - (x + 1)).toNat < (n - x).toNat; omega)
          rcases d3 with ⟨z1, z2, z3, z4⟩ | z
          · exact Or.inl ⟨z1, z2, fun a b g1 g2 g3 g4 => by
              have g4' : a < x + 1 := g4
              by_cases ha : a = x
              · rw [ha]; exact z4 b (by omega) (by omega)
              · exact z3 a b g1 g2 g3 (by omega)⟩
          · exact Or.inr z
      · rcases e3 with ⟨z1, z2, z3⟩ | z
        · exact Or.inl ⟨z1, z2, z3, fun b g1 g2 => by have g2' : b < x + 1 := g2; omega⟩
        · exact Or.inr z
    · rcases e3 with ⟨z1, z2, z3⟩ | ⟨z1, z2⟩
      · exact Or.inl ⟨z1, fun a b g1 g2 g3 => z3 a b g1 g2 g3 (by omega)⟩
      · exact Or.inr z2
  obtain ⟨⟨v, M⟩, h1, h2, h3⟩ := key
  dsimp only at h2 h3
  subst h2
  exact ⟨v, h1, h3⟩
