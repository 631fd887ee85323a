/-! all tokens -/
theorem sgk_in (t : Int) : 3 ≤ sgk t ∧ sgk t ≤ 14 ∧ (sgk t = 12 ↔ t = 60) ∧ (sgk t = 14 ↔ t = 62) := by
  unfold sgk
  by_cases c0 : t = 59
  · rw [if_pos c0]; omega
  · rw [if_neg c0]
    by_cases c1 : t = 91
    · rw [if_pos c1]; omega
    · rw [if_neg c1]
      by_cases c2 : t = 93
      · rw [if_pos c2]; omega
      · rw [if_neg c2]
        by_cases c3 : t = 43
        · rw [if_pos c3]; omega
        · rw [if_neg c3]
          by_cases c4 : t = 45
          · rw [if_pos c4]; omega
          · rw [if_neg c4]
            by_cases c5 : t = 42
            · rw [if_pos c5]; omega
            · rw [if_neg c5]
              by_cases c6 : t = 47
              · rw [if_pos c6]; omega
              · rw [if_neg c6]
                by_cases c7 : t = 37
                · rw [if_pos c7]; omega
                · rw [if_neg c7]
                  by_cases c8 : t = 60
                  · rw [if_pos c8]; omega
                  · rw [if_neg c8]
                    by_cases c9 : t = 61
                    · rw [if_pos c9]; omega
                    · rw [if_neg c9]
                      by_cases c10 : t = 62
                      · rw [if_pos c10]; omega
                      · rw [if_neg c10]; omega
theorem cutSign_ok {N : Nat} (hN : 1000 ≤ N) {X : jMem} {s a p : Int} (ha : 0 ≤ a ∧ a < 401) (hp : X 4 a = p) (h0 : 0 ≤ p) (h1 : p < s) (h2 : s ≤ 400) (hb : By (X 1)) (hd : ¬ Dg (X 1 p)) (hl : ¬ Lt (X 1 p)) : ∃ q kind X', To_cutSign N s a X = some (q, X') ∧ p < q ∧ q ≤ s ∧ (∀ r, r ≠ 3 → X' r = X r) ∧ (∀ j, j ≠ a → X' 3 j = X 3 j) ∧ X' 3 a = kind ∧ ∀ val, TkS (X 1) s p kind val q := by
  have hbp := hb p h0 (by omega)
  obtain ⟨r, r1, r2⟩ := indexOf_ok hN (M := X) hbp
  have sg := sgk_in (X 1 p)
  have tk : ∀ kind q, Sg (X 1) s p kind q → ∀ val, TkS (X 1) s p kind val q := fun kind q z val => Or.inr (Or.inr ⟨hd, hl, z⟩)
  unfold To_cutSign jlt
  rw [jchk_pos ha, hp]
  dsimp only
  rw [jchk_pos (by omega), r1, Option.bind_some]
  have K : ∀ u, u = sgk (X 1 p) → ∃ q kind X', (jchk (0 ≤ a ∧ a < 401) (if w32 (p + 1) < s then jchk (0 ≤ w32 (p + 1) ∧ w32 (p + 1) < 400) (if up X 3 a u 1 (w32 (p + 1)) = 61 then (if (1 : Int) = 0 then (if (1 : Int) = 0 then some (w32 (p + 1), up X 3 a u) else jchk (0 ≤ a ∧ a < 401) (if up X 3 a u 3 a = 14 then jchk (0 ≤ a ∧ a < 401) (some (w32 (p + 2), up (up X 3 a u) 3 a 16)) else some (w32 (p + 1), up X 3 a u))) else jchk (0 ≤ a ∧ a < 401) (if up X 3 a u 3 a = 12 then jchk (0 ≤ a ∧ a < 401) (some (w32 (p + 2), up (up X 3 a u) 3 a 15)) else (if (1 : Int) = 0 then some (w32 (p + 1), up X 3 a u) else jchk (0 ≤ a ∧ a < 401) (if up X 3 a u 3 a = 14 then jchk (0 ≤ a ∧ a < 401) (some (w32 (p + 2), up (up X 3 a u) 3 a 16)) else some (w32 (p + 1), up X 3 a u))))) else some (w32 (p + 1), up X 3 a u)) else some (w32 (p + 1), up X 3 a u))) = some (q, X') ∧ p < q ∧ q ≤ s ∧ (∀ r, r ≠ 3 → X' r = X r) ∧ (∀ j, j ≠ a → X' 3 j = X 3 j) ∧ X' 3 a = kind ∧ ∀ val, TkS (X 1) s p kind val q := by
    intro u hu
    have h12 : u = 12 → X 1 p = 60 := fun z => sg.2.2.1.mp (by rw [← hu]; exact z)
    have h14 : u = 14 → X 1 p = 62 := fun z => sg.2.2.2.mp (by rw [← hu]; exact z)
    have hno : u ≠ 12 → u ≠ 14 → ¬ (p + 1 < s ∧ X 1 (p + 1) = 61 ∧ (X 1 p = 60 ∨ X 1 p = 62)) := fun z1 z2 z3 => by
      rcases z3.2.2 with z | z
      · exact z1 (by rw [hu]; exact sg.2.2.1.mpr z)
      · exact z2 (by rw [hu]; exact sg.2.2.2.mpr z)
    have plain : ¬ (p + 1 < s ∧ X 1 (p + 1) = 61 ∧ (X 1 p = 60 ∨ X 1 p = 62)) → ∃ q kind X', some (p + 1, up X 3 a u) = some (q, X') ∧ p < q ∧ q ≤ s ∧ (∀ r, r ≠ 3 → X' r = X r) ∧ (∀ j, j ≠ a → X' 3 j = X 3 j) ∧ X' 3 a = kind ∧ ∀ val, TkS (X 1) s p kind val q := fun no => ⟨p + 1, u, _, rfl, by omega, by omega, fun r hr => up_ne hr, fun j hj => up_col hj, up_hit rfl rfl, tk _ _ (Or.inr (Or.inr ⟨no, hu, rfl⟩))⟩
    simp only [jchk_pos ha]
    rw [w32_id (x := p + 1) (by omega), w32_id (x := p + 2) (by omega), up_row (q' := 1) (by omega), up_hit rfl rfl]
    by_cases c : p + 1 < s
    · rw [if_pos c, jchk_pos (by omega)]
      by_cases d : X 1 (p + 1) = 61
      · rw [if_pos d, if_neg (show ¬ (1 : Int) = 0 by decide), if_neg (show ¬ (1 : Int) = 0 by decide)]
        by_cases e : u = 12
        · rw [if_pos e]
          exact ⟨p + 2, 15, _, rfl, by omega, by omega, fun r hr => by rw [up_ne hr, up_ne hr], fun j hj => by rw [up_col hj, up_col hj], up_hit rfl rfl, tk _ _ (Or.inl ⟨c, d, h12 e, rfl, rfl⟩)⟩
        · rw [if_neg e]
          by_cases f : u = 14
          · rw [if_pos f]
            exact ⟨p + 2, 16, _, rfl, by omega, by omega, fun r hr => by rw [up_ne hr, up_ne hr], fun j hj => by rw [up_col hj, up_col hj], up_hit rfl rfl, tk _ _ (Or.inr (Or.inl ⟨c, d, h14 f, rfl, rfl⟩))⟩
          · rw [if_neg f]; exact plain (hno e f)
      · rw [if_neg d]; exact plain (fun z => d z.2.1)
    · rw [if_neg c]; exact plain (fun z => c z.1)
  rcases r2 with ⟨z1, z2⟩ | ⟨z1, z2, z3⟩
  · rw [if_pos z1]
    exact K 3 z2.symm
  · rw [if_neg (show ¬ r < 0 by omega), w32_id (x := 4 + r) (by omega)]
    exact K (4 + r) z2.symm
def Tok (X : jMem) (T : Int → Int) (s m : Int) : Prop := (0 ≤ m ∧ m ≤ 400) ∧ X 4 m = s ∧ X 3 m = 0 ∧ Sk T s 0 (X 4 0) ∧ (∀ k, 0 ≤ k → k < m → (0 ≤ X 4 k ∧ X 4 k < s) ∧ T (X 4 k) ≠ 32 ∧ ∃ q, TkS T s (X 4 k) (X 3 k) (X 5 k) q ∧ Sk T s q (X 4 (k + 1)))
theorem cut_ok {N : Nat} (hN : 1000 ≤ N) {X : jMem} {s : Int} (h0 : 0 ≤ s) (h2 : s ≤ 400) (hb : By (X 1)) : ∃ X' m, To_cut N s X = some (0, X') ∧ Tok X' (X 1) s m ∧ X' 2 3 = 0 ∧ X' 2 4 = 0 ∧ (∀ p, p < 2 ∨ 5 < p → X' p = X p) := by
  have H : wp (To_cut N s X) (fun o => o.1 = 0 ∧ ∃ m, Tok o.2 (X 1) s m ∧ o.2 2 3 = 0 ∧ o.2 2 4 = 0 ∧ (∀ p, p < 2 ∨ 5 < p → o.2 p = X p)) := by
    unfold To_cut
    refine wp_fix (fun t => (400 - t.2.2.1).toNat) (fun (t : Int × Int × Int × jMem) => (0 ≤ t.1 ∧ t.1 ≤ t.2.2.1 ∧ t.2.2.1 ≤ s) ∧ (0 ≤ t.2.1 ∧ t.2.1 ≤ s) ∧ (∀ i, t.2.1 ≤ i → i < t.2.2.1 → X 1 i = 32) ∧ (∀ p, p < 2 ∨ 5 < p → t.2.2.2 p = X p) ∧ (t.1 = 0 → t.2.1 = 0) ∧ (0 < t.1 → Sk (X 1) s 0 (t.2.2.2 4 0)) ∧ (∀ k, 0 ≤ k → k < t.1 → (0 ≤ t.2.2.2 4 k ∧ t.2.2.2 4 k < s) ∧ X 1 (t.2.2.2 4 k) ≠ 32 ∧ ∃ q, TkS (X 1) s (t.2.2.2 4 k) (t.2.2.2 3 k) (t.2.2.2 5 k) q ∧ (k + 1 < t.1 → Sk (X 1) s q (t.2.2.2 4 (k + 1))) ∧ (k + 1 = t.1 → q = t.2.1))) ?_ N _ ⟨⟨by dsimp only; omega, by dsimp only; omega, by dsimp only; omega⟩, ⟨by dsimp only; omega, by dsimp only; omega⟩, fun i i0 i1 => by dsimp only at i0 i1; omega, fun _ _ => rfl, fun _ => rfl, fun z => by dsimp only at z; omega, fun k k0 k1 => by dsimp only at k1; omega⟩ (by dsimp only; omega)
    rintro h ⟨x1, x2, x3, Xc⟩ ⟨q1, q2, q3, q4, q5, q6, q7⟩ ih
    dsimp only at q1 q2 q3 q4 q5 q6 q7
    have fin : x3 = s → wp (jchk (0 ≤ x1 ∧ x1 < 401) (jchk (0 ≤ x1 ∧ x1 < 401) (some ((0 : Int), up (up (up (up Xc 4 x1 s) 3 x1 0) 2 3 0) 2 4 0)))) (fun o => o.1 = 0 ∧ ∃ m, Tok o.2 (X 1) s m ∧ o.2 2 3 = 0 ∧ o.2 2 4 = 0 ∧ (∀ p, p < 2 ∨ 5 < p → o.2 p = X p)) := fun e => by
      rw [jchk_pos (by omega), jchk_pos (by omega)]
      refine wp_some ⟨rfl, x1, ⟨⟨by omega, by omega⟩, ?_, ?_, ?_, fun k k0 k1 => ?_⟩, ?_, ?_, fun p hp => ?_⟩
      · simp (disch := omega) only [up_row, up_hit]
      · simp (disch := omega) only [up_row, up_hit]
      · by_cases c : x1 = 0
        · have z := q5 c
          simp (disch := omega) only [up_row, up_hit]
          exact ⟨h0, by omega, fun i i0 i1 => q3 i (by omega) (by omega), fun z => by omega⟩
        · simp (disch := omega) only [up_row, up_col]
          exact q6 (by omega)
      · obtain ⟨a1, a2, q, a3, a4, a5⟩ := q7 k k0 k1
        by_cases c : k + 1 = x1
        · have e1 := a5 c
          simp (disch := omega) only [up_row, up_col, up_hit]
          refine ⟨a1, a2, q, a3, ?_⟩
          rw [e1]
          exact ⟨q2.2, by omega, fun i i0 i1 => q3 i i0 (by omega), fun z => by omega⟩
        · simp (disch := omega) only [up_row, up_col]
          exact ⟨a1, a2, q, a3, a4 (by omega)⟩
      · simp (disch := omega) only [up_col, up_hit]
      · simp (disch := omega) only [up_hit]
      · dsimp only; rw [up_ne (by omega), up_ne (by omega), up_ne (by omega), up_ne (by omega)]; exact q4 p hp
    unfold To_cut_L8 jlt
    dsimp only
    by_cases c : x3 < s
    · rw [if_pos c, if_pos (by omega), jchk_pos (by omega), q4 1 (by omega), w32_id (x := x3 + 1) (by omega)]
      have hbx := hb x3 (by omega) (by omega)
      have v32 : jand (X 1 x3) 255 = 32 ↔ X 1 x3 = 32 := by
        rw [and255 hbx]
        by_cases d : X 1 x3 < 0
        · rw [if_pos d]; omega
        · rw [if_neg d]
      by_cases c2 : x3 < x2
      · rw [if_pos c2]
        exact ih _ ⟨⟨by dsimp only; omega, by dsimp only; omega, by dsimp only; omega⟩, q2, fun i i0 i1 => by dsimp only at i0 i1; omega, q4, q5, q6, q7⟩ (by dsimp only; omega)
      · rw [if_neg c2]
        by_cases c3 : X 1 x3 = 32
        · rw [if_pos (v32.mpr c3)]
          exact ih _ ⟨⟨by dsimp only; omega, by dsimp only; omega, by dsimp only; omega⟩, q2, fun i i0 i1 => by
            dsimp only at i0 i1
            by_cases ci : i = x3
            · rw [ci]; exact c3
            · exact q3 i i0 (by omega), q4, q5, q6, q7⟩ (by dsimp only; omega)
        · rw [if_neg (fun z => c3 (v32.mp z)), jchk_pos (by omega), w32_id (x := x1 + 1) (by omega)]
          have sk : Sk (X 1) s x2 x3 := ⟨by omega, by omega, fun i i0 i1 => q3 i i0 i1, fun _ => c3⟩
          have b4 : By (up Xc 4 x1 x3 1) := by rw [up_ne (by omega), q4 1 (by omega)]; exact hb
          have e4 : up Xc 4 x1 x3 1 = X 1 := by rw [up_ne (by omega), q4 1 (by omega)]
          have go : ∀ q kind (Z : jMem), x3 < q → q ≤ s → (∀ r, r ≠ 3 → r ≠ 5 → Z r = up Xc 4 x1 x3 r) → (∀ j, j ≠ x1 → Z 3 j = Xc 3 j ∧ Z 5 j = Xc 5 j) → Z 3 x1 = kind → TkS (X 1) s x3 kind (Z 5 x1) q → wp (h (x1 + 1, q, x3 + 1, Z)) (fun o => o.1 = 0 ∧ ∃ m, Tok o.2 (X 1) s m ∧ o.2 2 3 = 0 ∧ o.2 2 4 = 0 ∧ (∀ p, p < 2 ∨ 5 < p → o.2 p = X p)) := fun q kind Z g1 g2 g3 g4 g5 g6 => by
            have z4 : ∀ k, k ≠ x1 → Z 4 k = Xc 4 k := fun k hk => by rw [g3 4 (by omega) (by omega), up_col hk]
            have z4' : Z 4 x1 = x3 := by rw [g3 4 (by omega) (by omega), up_hit rfl rfl]
            refine ih _ ⟨⟨by dsimp only; omega, by dsimp only; omega, by dsimp only; omega⟩, ⟨by dsimp only; omega, g2⟩, fun i i0 i1 => by dsimp only at i0 i1; omega, fun p hp => by dsimp only; rw [g3 p (by omega) (by omega), up_ne (by omega)]; exact q4 p hp, fun z => by dsimp only at z; omega, fun _ => ?_, fun k k0 k1 => ?_⟩ (by dsimp only; omega)
            · dsimp only
              by_cases cz : x1 = 0
              · rw [← cz, z4']
                have := q5 cz
                rw [this] at sk
                rw [cz]; exact sk
              · rw [z4 0 (by omega)]; exact q6 (by omega)
            · dsimp only at k1 ⊢
              by_cases ck : k = x1
              · subst ck
                rw [z4', g5]
                exact ⟨⟨by omega, c⟩, c3, q, g6, fun z => by omega, fun _ => rfl⟩
              · obtain ⟨a1, a2, q', a3, a4, a5⟩ := q7 k k0 (by omega)
                rw [z4 k ck, (g4 k ck).1, (g4 k ck).2]
                refine ⟨a1, a2, q', a3, fun z => ?_, fun z => by omega⟩
                by_cases cl : k + 1 = x1
                · rw [cl, z4', a5 cl]; exact sk
                · rw [z4 (k + 1) cl]; exact a4 (by omega)
          obtain ⟨r, r1, r2⟩ := isDg_ok (N := N) (M := up Xc 4 x1 x3) hbx
          rw [r1, Option.bind_some]
          rcases r2 with ⟨z1, z2⟩ | ⟨z1, z2⟩
          · rw [if_neg (show ¬ r = 0 by omega)]
            obtain ⟨⟨q, Z⟩, w1, w2, w3, kind, val, w4, w5⟩ := cutNumber_ok hN (X := up Xc 4 x1 x3) (s := s) (a := x1) (p := x3) (by omega) (up_hit rfl rfl) (by omega) c h2 b4 (by rw [e4]; exact z2)
            dsimp only at w2 w3 w4 w5
            rw [e4] at w5
            subst w4
            unfold jb1
            rw [w1, Option.bind_some]
            refine go q kind _ w2 w3 (fun r r3 r5 => by dsimp only; rw [up_ne r5, up_ne r3]) (fun j hj => by simp (disch := omega) only [up_row, up_col]; exact ⟨trivial, trivial⟩) (by dsimp only; rw [up_row (by omega), up_hit rfl rfl]) (by dsimp only; rw [up_hit rfl rfl]; exact w5)
          · rw [if_pos z1]
            obtain ⟨r', r1', r2'⟩ := isLt_ok (N := N) (M := up Xc 4 x1 x3) hbx
            rw [r1', Option.bind_some]
            unfold jb1
            rcases r2' with ⟨y1, y2⟩ | ⟨y1, y2⟩
            · rw [if_neg (show ¬ r' = 0 by omega)]
              obtain ⟨⟨q, Z⟩, w1, w2, w3, kind, w4, w5⟩ := cutWord_ok hN (X := up Xc 4 x1 x3) (s := s) (a := x1) (p := x3) (by omega) (up_hit rfl rfl) (by omega) c h2 b4 (by rw [e4]; exact y2)
              dsimp only at w2 w3 w4 w5
              rw [e4] at w5
              subst w4
              rw [w1, Option.bind_some]
              exact go q kind _ w2 w3 (fun r r3 r5 => by dsimp only; rw [up_ne r3]) (fun j hj => by simp (disch := omega) only [up_row, up_col]; exact ⟨trivial, trivial⟩) (by dsimp only; rw [up_hit rfl rfl]) (w5 _)
            · rw [if_pos y1]
              obtain ⟨q, kind, Z, w1, w2, w3, w4, w5, w6, w7⟩ := cutSign_ok hN (X := up Xc 4 x1 x3) (s := s) (a := x1) (p := x3) (by omega) (up_hit rfl rfl) (by omega) c h2 b4 (by rw [e4]; exact z2) (by rw [e4]; exact y2)
              rw [e4] at w7
              rw [w1, Option.bind_some]
              exact go q kind Z w2 w3 (fun r r3 r5 => w4 r r3) (fun j hj => ⟨by rw [w5 j hj, up_row (by omega)], by rw [w4 5 (by omega), up_row (by omega)]⟩) w6 (w7 _)
    · rw [if_neg c]
      exact fin (by omega)
  obtain ⟨⟨v, X'⟩, e, q1, m, q2⟩ := H
  dsimp only at q1 q2
  subst q1
  exact ⟨X', m, e, q2⟩
