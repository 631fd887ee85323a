/-! words passed and signs taken -/
theorem RD_w {X X' Y Y' : jMem} {m j : Int} (h : RD X Y m j) (hx : ∀ p, 2 ≤ p → p ≤ 5 → X' p = X p) (h1 : Y' 1 = Y 1) (h0 : ∀ k, k = 1 ∨ k = 8 ∨ k = 9 → Y' 0 k = Y 0 k) : RD X' Y' m j := by
  obtain ⟨a, b, c, d⟩ := h
  refine ⟨?_, by rw [hx 2 (by omega) (by omega)]; exact b, by rw [hx 2 (by omega) (by omega)]; exact c, by rw [h0 9 (by omega)]; exact d⟩
  have a' := At_X a (X' := X') (fun p hp => hx p (by omega) (by omega))
  unfold At at a' ⊢
  rw [h1, h0 1 (by omega), h0 8 (by omega)]
  exact a'
theorem FD_w {X X' Y Y' : jMem} (h : FD X Y) (hx : X' 2 = X 2) (h9 : Y' 0 9 = Y 0 9) : FD X' Y' := by
  unfold FD; rw [hx, h9]; exact h
theorem RD_see {X Y : jMem} {m j : Int} (h : RD X Y m j) : RD X (up Y 0 8 (X 4 j)) m j :=
  ⟨At_move h.1 RF_up8 (up_hit rfl rfl), h.2.1, h.2.2.1, by rw [up_col (by omega)]; exact h.2.2.2⟩
theorem passWord_ok {N : Nat} (hN : 1000 ≤ N) {X Y : jMem} {m j : Int} (h : RD X Y m j) (h8 : Y 0 8 = X 4 j) (hk : 17 ≤ X 3 j) : ∃ Y', m_passWord N Y = some (0, Y') ∧ RF Y Y' ∧ Y' 0 9 = 0 ∧ Y' 0 10 = Y 0 10 ∧ At X Y' m (j + 1) := by
  have hA := h.1
  have jm := kind_end hA (by omega)
  have rd := h
  obtain ⟨⟨t, h2, h3, h4, h5, h6⟩, x3, x4, y9⟩ := h
  obtain ⟨tm, -, -, -, e⟩ := t
  obtain ⟨e1, e2, q, tk, sk⟩ := e j h4.1 jm
  have tk' := tk
  rcases tk with ⟨a, b, k1, k2⟩ | ⟨a, b, k1⟩ | ⟨a, b, k1⟩
  · exfalso
    by_cases c : 5 < q - X 4 j
    · rw [if_pos c] at k1; omega
    · rw [if_neg c] at k1; omega
  · obtain ⟨b1, b2, b3, b4⟩ := b
    have H : wp (m_passWord N Y) (fun o => o.1 = 0 ∧ RF Y o.2 ∧ o.2 0 9 = 0 ∧ o.2 0 10 = Y 0 10 ∧ o.2 0 8 = q) := by
      unfold m_passWord
      refine wp_fix (fun (Z : jMem) => (400 - Z 0 8).toNat) (fun Z => (X 4 j ≤ Z 0 8 ∧ Z 0 8 ≤ q) ∧ RF Y Z ∧ Z 0 9 = 0 ∧ Z 0 10 = Y 0 10) ?_ N _ ⟨by omega, RF_refl, y9, rfl⟩ (by omega)
      rintro hh Z ⟨z1, z2, z3, z4⟩ ih
      have Z1 : Z 1 = Y 1 := z2.1 1 (by omega)
      have Z01 : Z 0 1 = Y 0 1 := z2.2 1 (by omega) (by omega) (by omega)
      obtain ⟨r, r1, r2⟩ := isLetterY (N := N) (Y := Z) (p := Z 0 8) (by omega) (by rw [Z01]; omega)
      rw [Z01, Z1] at r2
      unfold m_passWord_L0 jlt
      dsimp only
      rw [r1, Option.bind_some]
      by_cases c : Z 0 8 < q
      · have lx := b3 (Z 0 8) z1.1 c
        rw [if_neg (show ¬ r = 0 by
          rcases r2 with w | w
          · omega
          · exact absurd ⟨by omega, lx⟩ w.2), w32_id (by omega)]
        exact ih _ ⟨by rw [up_hit rfl rfl]; omega, RF_trans z2 RF_up8, by rw [up_col (by omega)]; exact z3, by rw [up_col (by omega)]; exact z4⟩ (by rw [up_hit rfl rfl]; omega)
      · have zq : Z 0 8 = q := by omega
        rw [if_pos (show r = 0 by
          rcases r2 with w | w
          · rw [zq] at w; exact absurd w.2.2 (b4 w.2.1)
          · exact w.1)]
        exact wp_some ⟨rfl, z2, z3, z4, zq⟩
    obtain ⟨⟨v, Y'⟩, o1, o2, o3, o4, o5, o6⟩ := H
    dsimp only at o2 o3 o4 o5 o6
    subst o2
    exact ⟨Y', o1, o3, o4, o5, At_next hA o3 jm tk' sk o6⟩
  · exfalso
    have sg := sgk_in (Y 1 (X 4 j))
    rcases k1 with k | k | k <;> omega
theorem takes_ok {N : Nat} {X Y : jMem} {m j k : Int} (h : RD X Y m j) (hk : k ≠ 0) : (X 3 j = k ∧ To_takes N k X = some (1, up X 2 3 (j + 1))) ∨ (X 3 j ≠ k ∧ To_takes N k X = some (0, X)) := by
  unfold To_takes jlt jbv
  rw [looked_ok (N := N) h, Option.bind_some]
  by_cases c : X 3 j = k
  · refine Or.inl ⟨c, ?_⟩
    dsimp only
    rw [if_pos c, if_neg (show ¬ (1 : Int) = 0 by decide), move_ok h (kind_end h.1 (by omega)), Option.bind_some, jchk_pos (Or.inr rfl)]
  · refine Or.inr ⟨c, ?_⟩
    dsimp only
    rw [if_neg c, if_pos rfl, jchk_pos (Or.inl rfl)]
theorem takes_F {N : Nat} {X : jMem} {k : Int} (h : X 2 4 ≠ 0) (hk : k ≠ 0) : To_takes N k X = some (0, X) := by
  unfold To_takes jlt
  rw [looked_F h, Option.bind_some]
  dsimp only
  rw [if_neg (fun z => hk z.symm), if_pos rfl, jchk_pos (Or.inl rfl)]
/-- a sign of one byte, seen by both -/
theorem sign_at {X Y : jMem} {m j c : Int} (h : At X Y m j) {K t : Int} (hs : (j = m ∧ c = -1) ∨ (j < m ∧ c = jand (Y 1 (X 4 j)) 255)) (ht : 0 ≤ t ∧ t < 128 ∧ ¬ Dg t ∧ ¬ Lt t ∧ t ≠ 60 ∧ t ≠ 62) (hK : sgk t = K) (h3 : K ≠ 3) (hinj : ∀ u, sgk u = K → u = t) : (c = t ↔ X 3 j = K) ∧ (X 3 j = K → j < m ∧ ∃ q, q = X 4 j + 1 ∧ TkS (Y 1) (Y 0 1) (X 4 j) (X 3 j) (X 5 j) q ∧ Sk (Y 1) (Y 0 1) q (X 4 (j + 1))) := by
  have pl := At_pl h
  obtain ⟨⟨tm, -, -, -, e⟩, h2, h3', h4, h5, h6⟩ := h
  have sK := sgk_in t
  rcases pl with ⟨z1, z2, z3⟩ | ⟨z1, z2, z3⟩
  · refine ⟨?_, fun q => ?_⟩
    · rcases hs with w | w <;> omega
    · omega
  · have hc : c = jand (Y 1 (X 4 j)) 255 := by rcases hs with w | w <;> omega
    have hb := h3' (X 4 j) z2 (by omega)
    have ct : c = t ↔ Y 1 (X 4 j) = t := by
      rw [hc, and255 hb]
      by_cases cc : Y 1 (X 4 j) < 0
      · rw [if_pos cc]; omega
      · rw [if_neg cc]
    obtain ⟨e1, e2, q, tk, sk⟩ := e j h4.1 z1
    have tk' := tk
    rw [ct]
    rcases tk with ⟨a, b, k1, k2⟩ | ⟨a, b, k1⟩ | ⟨a, b, k1⟩
    · have nk : X 3 j ≠ K := by
        rw [k1]
        by_cases cc : 5 < q - X 4 j
        · rw [if_pos cc]; omega
        · rw [if_neg cc]; omega
      exact ⟨⟨fun w => by rw [w] at a; exact absurd a ht.2.2.1, fun w => absurd w nk⟩, fun w => absurd w nk⟩
    · have nk : X 3 j ≠ K := by rcases k1 with ⟨i, i0, -, i2⟩ | ⟨-, k⟩ <;> omega
      exact ⟨⟨fun w => by rw [w] at a; exact absurd a ht.2.2.2.1, fun w => absurd w nk⟩, fun w => absurd w nk⟩
    · rcases k1 with ⟨k, ku, kv, kw, kx⟩ | ⟨k, ku, kv, kw, kx⟩ | ⟨k, ku, kv⟩
      · have nk : X 3 j ≠ K := by omega
        exact ⟨⟨fun w => by omega, fun w => absurd w nk⟩, fun w => absurd w nk⟩
      · have nk : X 3 j ≠ K := by omega
        exact ⟨⟨fun w => by omega, fun w => absurd w nk⟩, fun w => absurd w nk⟩
      · rw [ku]
        refine ⟨⟨fun w => by rw [w]; exact hK, fun w => hinj _ w⟩, fun w => ⟨z1, q, kv, ?_, sk⟩⟩
        rw [← ku]; exact tk'
