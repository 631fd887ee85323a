/-! the reference at a token -/
def Ag (T T' : Int → Int) : Prop := ∀ i, 0 ≤ i → i < 400 → T' i = T i
theorem Sk_c {T T' : Int → Int} {s p q : Int} (h : Ag T T') (hp : 0 ≤ p) (hs : s ≤ 400) (k : Sk T s p q) : Sk T' s p q := by
  obtain ⟨a, b, c, d⟩ := k
  exact ⟨a, b, fun i i0 i1 => by rw [h i (by omega) (by omega)]; exact c i i0 i1, fun z => by rw [h q (by omega) (by omega)]; exact d z⟩
theorem Run_c {P : Int → Prop} {T T' : Int → Int} {s p q : Int} (h : Ag T T') (hp : 0 ≤ p) (hs : s ≤ 400) (k : Run P T s p q) : Run P T' s p q := by
  obtain ⟨a, b, c, d⟩ := k
  exact ⟨a, b, fun i i0 i1 => by rw [h i (by omega) (by omega)]; exact c i i0 i1, fun z => by rw [h q (by omega) (by omega)]; exact d z⟩
theorem dv_c {T T' : Int → Int} {p : Int} (h : Ag T T') (hp : 0 ≤ p) : ∀ k : Nat, p + (k : Int) ≤ 400 → dv T' p k = dv T p k
  | 0, _ => rfl
  | k + 1, hk => by
    show 10 * dv T' p k + T' (p + (k : Int)) - 48 = 10 * dv T p k + T (p + (k : Int)) - 48
    rw [dv_c h hp k (by omega), h (p + (k : Int)) (by omega) (by omega)]
theorem Wm_c {T T' : Int → Int} {p len : Int} {i : Nat} (h : Ag T T') (hp : 0 ≤ p) (hl : p + len ≤ 400) : Wm T p len i ↔ Wm T' p len i := by
  constructor
  · rintro ⟨a, b⟩; exact ⟨a, fun k k0 k1 => by rw [h (p + k) (by omega) (by omega)]; exact b k k0 k1⟩
  · rintro ⟨a, b⟩; exact ⟨a, fun k k0 k1 => by rw [← h (p + k) (by omega) (by omega)]; exact b k k0 k1⟩
theorem TkS_c {T T' : Int → Int} {s p kind val q : Int} (h : Ag T T') (hp : 0 ≤ p) (hps : p < s) (hs : s ≤ 400) (k : TkS T s p kind val q) : TkS T' s p kind val q := by
  have ep := h p hp (by omega)
  rcases k with ⟨a, b, c, d⟩ | ⟨a, b, c⟩ | ⟨a, b, c⟩
  · refine Or.inl ⟨by rw [ep]; exact a, Run_c h hp hs b, c, ?_⟩
    have bb := b.1
    have bq := b.2.1
    have m := jmin_l (a := q - p) (b := 5)
    rw [dv_c h hp _ (by omega)]; exact d
  · have bq := b.2.1
    refine Or.inr (Or.inl ⟨by rw [ep]; exact a, Run_c h hp hs b, ?_⟩)
    rcases c with ⟨i, i0, i1, i2⟩ | ⟨c1, c2⟩
    · exact Or.inl ⟨i, i0, (Wm_c h hp (by omega)).mp i1, i2⟩
    · exact Or.inr ⟨fun i i0 w => c1 i i0 ((Wm_c h hp (by omega)).mpr w), c2⟩
  · refine Or.inr (Or.inr ⟨by rw [ep]; exact a, by rw [ep]; exact b, ?_⟩)
    unfold Sg at c ⊢
    by_cases z : p + 1 < s
    · rw [h (p + 1) (by omega) (by omega), ep]; exact c
    · rw [ep]
      rcases c with c | c | ⟨c1, c2, c3⟩
      · omega
      · omega
      · exact Or.inr (Or.inr ⟨by omega, c2, c3⟩)
theorem Tok_c {X : jMem} {T T' : Int → Int} {s m : Int} (h : Ag T T') (hs : s ≤ 400) (k : Tok X T s m) : Tok X T' s m := by
  obtain ⟨a, b, c, d, e⟩ := k
  refine ⟨a, b, c, Sk_c h (by omega) hs d, fun j j0 j1 => ?_⟩
  obtain ⟨e1, e2, q, e3, e4⟩ := e j j0 j1
  refine ⟨e1, by rw [h _ e1.1 (by omega)]; exact e2, q, TkS_c h e1.1 e1.2 hs e3, ?_⟩
  have qp : 0 ≤ q := by
    rcases e3 with ⟨-, r, -⟩ | ⟨-, r, -⟩ | ⟨-, -, r | r | r⟩
    · have := r.1; omega
    · have := r.1; omega
    · omega
    · omega
    · omega
  exact Sk_c h qp hs e4
/-- the reference stands ahead of token j -/
def At (X Y : jMem) (m j : Int) : Prop := Tok X (Y 1) (Y 0 1) m ∧ (0 ≤ Y 0 1 ∧ Y 0 1 ≤ 400) ∧ By (Y 1) ∧ (0 ≤ j ∧ j ≤ m) ∧ 0 ≤ Y 0 8 ∧ Sk (Y 1) (Y 0 1) (Y 0 8) (X 4 j)
/-- only what reading changes on the way has changed -/
def RF (Y Y' : jMem) : Prop := (∀ p, p ≠ 0 → Y' p = Y p) ∧ (∀ k, k ≠ 8 → k ≠ 9 → k ≠ 10 → Y' 0 k = Y 0 k)
theorem RF_refl {Y : jMem} : RF Y Y := ⟨fun _ _ => rfl, fun _ _ _ _ => rfl⟩
theorem RF_trans {Y Y' Y'' : jMem} (h : RF Y Y') (h' : RF Y' Y'') : RF Y Y'' := ⟨fun p a => by rw [h'.1 p a, h.1 p a], fun k a b c => by rw [h'.2 k a b c, h.2 k a b c]⟩
theorem At_pl {X Y : jMem} {m j : Int} (h : At X Y m j) : (j = m ∧ X 4 j = Y 0 1 ∧ X 3 j = 0) ∨ (j < m ∧ 0 ≤ X 4 j ∧ X 4 j < Y 0 1) := by
  obtain ⟨⟨a, b, c, d, e⟩, h2, h3, h4, h5, h6⟩ := h
  by_cases z : j = m
  · subst z; exact Or.inl ⟨rfl, b, c⟩
  · obtain ⟨e1, -⟩ := e j h4.1 (by omega)
    exact Or.inr ⟨by omega, e1.1, e1.2⟩
/-- moved to the token itself, or behind it -/
theorem At_move {X Y Y' : jMem} {m j : Int} (h : At X Y m j) (f : RF Y Y') (h8 : Y' 0 8 = X 4 j) : At X Y' m j := by
  have pl := At_pl h
  obtain ⟨t, h2, h3, h4, h5, h6⟩ := h
  unfold At
  rw [f.1 1 (by omega), f.2 1 (by omega) (by omega) (by omega), h8]
  refine ⟨t, h2, h3, h4, by omega, Int.le_refl _, h6.2.1, fun i i0 i1 => by omega, h6.2.2.2⟩
theorem At_next {X Y Y' : jMem} {m j q : Int} (h : At X Y m j) (f : RF Y Y') (hj : j < m) (ht : TkS (Y 1) (Y 0 1) (X 4 j) (X 3 j) (X 5 j) q) (hs : Sk (Y 1) (Y 0 1) q (X 4 (j + 1))) (h8 : Y' 0 8 = q) : At X Y' m (j + 1) := by
  have pl := At_pl h
  obtain ⟨t, h2, h3, h4, h5, h6⟩ := h
  unfold At
  rw [f.1 1 (by omega), f.2 1 (by omega) (by omega) (by omega), h8]
  have q0 : 0 ≤ q := by
    rcases ht with ⟨-, r, -⟩ | ⟨-, r, -⟩ | ⟨-, -, r | r | r⟩
    · have := r.1; omega
    · have := r.1; omega
    · omega
    · omega
    · omega
  exact ⟨t, h2, h3, by omega, q0, hs⟩
theorem see_ok {N : Nat} (hN : 1000 ≤ N) {X Y : jMem} {m j : Int} (h : At X Y m j) : ∃ c, m_see N Y = some (c, up Y 0 8 (X 4 j)) ∧ ((j = m ∧ c = -1) ∨ (j < m ∧ c = jand (Y 1 (X 4 j)) 255)) := by
  have pl := At_pl h
  have h0 := h
  obtain ⟨t, h2, h3, h4, h5, h6, h7, h8, h9⟩ := h
  have H : wp (m_see N Y) (fun o => o.2 = up Y 0 8 (X 4 j) ∧ ((j = m ∧ o.1 = -1) ∨ (j < m ∧ o.1 = jand (Y 1 (X 4 j)) 255))) := by
    unfold m_see
    refine wp_fix (fun (Z : jMem) => (400 - Z 0 8).toNat) (fun Z => ∃ x, Y 0 8 ≤ x ∧ x ≤ X 4 j ∧ Z = up Y 0 8 x) ?_ N _ ⟨Y 0 8, by omega, h6, ?_⟩ (by omega)
    · rintro hh Z ⟨x, x0, x1, e⟩ ih
      subst e
      unfold m_see_L0 jlt
      dsimp only
      rw [up_hit rfl rfl, up_col (show (1 : Int) ≠ 8 by omega), up_row (q' := 1) (by omega)]
      by_cases c : x < X 4 j
      · rw [if_pos (by omega), jchk_pos (by omega), if_pos (h8 x x0 c), w32_id (by omega)]
        have e2 : up (up Y 0 8 x) 0 8 (x + 1) = up Y 0 8 (x + 1) := by
          funext p k
          by_cases a : p = 0
          · by_cases b : k = 8
            · rw [up_hit a b, up_hit a b]
            · rw [up_col b, up_col b, up_col b]
          · rw [up_row a, up_row a, up_row a]
        rw [e2]
        exact ih _ ⟨x + 1, by omega, by omega, rfl⟩ (by rw [up_hit rfl rfl, up_hit rfl rfl]; omega)
      · have ex : x = X 4 j := by omega
        subst ex
        rcases pl with ⟨z1, z2, z3⟩ | ⟨z1, z2, z3⟩
        · rw [if_neg (by omega), if_neg (by omega)]
          exact wp_some ⟨rfl, Or.inl ⟨z1, rfl⟩⟩
        · rw [if_pos z3, jchk_pos (by omega), if_neg (h9 z3), if_pos z3, jchk_pos (by omega)]
          exact wp_some ⟨rfl, Or.inr ⟨z1, rfl⟩⟩
    · funext p k
      by_cases a : p = 0
      · by_cases b : k = 8
        · rw [up_hit a b, a, b]
        · rw [up_col b]
      · rw [up_row a]
  obtain ⟨⟨c, Y'⟩, e, q1, q2⟩ := H
  dsimp only at q1 q2
  subst q1
  exact ⟨c, e, q2⟩
theorem RF_up8 {Y : jMem} {v : Int} : RF Y (up Y 0 8 v) := ⟨fun p a => up_ne a, fun k a _ _ => up_col a⟩
theorem isDigitY {N : Nat} {Y : jMem} {p : Int} (h0 : 0 ≤ p) (h1 : Y 0 1 ≤ 400) : ∃ r, m_isDigit N p Y = some r ∧ ((r = 1 ∧ p < Y 0 1 ∧ Dg (Y 1 p)) ∨ (r = 0 ∧ ¬ (p < Y 0 1 ∧ Dg (Y 1 p)))) := by
  unfold m_isDigit Dg
  by_cases c : p < Y 0 1
  · rw [if_pos c, jchk_pos (by omega), jchk_pos (by omega)]
    by_cases d : Y 1 p < 48
    · rw [if_pos d]; exact ⟨0, rfl, Or.inr ⟨rfl, by omega⟩⟩
    · rw [if_neg d]
      by_cases e : 57 < Y 1 p
      · rw [if_pos e]; exact ⟨0, rfl, Or.inr ⟨rfl, by omega⟩⟩
      · rw [if_neg e]; exact ⟨1, rfl, Or.inl ⟨rfl, c, by omega, by omega⟩⟩
  · rw [if_neg c]; exact ⟨0, rfl, Or.inr ⟨rfl, by omega⟩⟩
theorem isLetterY {N : Nat} {Y : jMem} {p : Int} (h0 : 0 ≤ p) (h1 : Y 0 1 ≤ 400) : ∃ r, m_isLetter N p Y = some r ∧ ((r = 1 ∧ p < Y 0 1 ∧ Lt (Y 1 p)) ∨ (r = 0 ∧ ¬ (p < Y 0 1 ∧ Lt (Y 1 p)))) := by
  unfold m_isLetter Lt
  by_cases c : p < Y 0 1
  · rw [if_pos c, jchk_pos (by omega), jchk_pos (by omega)]
    by_cases d : Y 1 p < 97
    · rw [if_pos d]; exact ⟨0, rfl, Or.inr ⟨rfl, by omega⟩⟩
    · rw [if_neg d]
      by_cases e : 122 < Y 1 p
      · rw [if_pos e]; exact ⟨0, rfl, Or.inr ⟨rfl, by omega⟩⟩
      · rw [if_neg e]; exact ⟨1, rfl, Or.inl ⟨rfl, c, by omega, by omega⟩⟩
  · rw [if_neg c]; exact ⟨0, rfl, Or.inr ⟨rfl, by omega⟩⟩
