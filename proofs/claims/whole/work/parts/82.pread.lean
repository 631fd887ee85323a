/-! a PARISH is read -/
theorem pclause_ok {N : Nat} (hN : 1000 ≤ N) {X Y : jMem} {m j k : Int} (h : RD X Y m j) (h11 : Y 0 11 = 6) (h14 : Y 0 14 = k) (hk : 0 ≤ k ∧ k ≤ 40) (hd : (k = 0 ∧ D0 X Y) ∨ (1 ≤ k ∧ DR X Y)) :
    ∃ (r : Int) (X' Y' : jMem), Pa_readClause N 6 k X = some (0, X') ∧ m_clauseHere N Y = some (r, Y') ∧ XD X X' ∧ YD Y Y' ∧ (r = 0 ∨ r = 1) ∧ ((r = 1 ∧ k < 40 ∧ Y' 0 14 = k + 1 ∧ ∃ j', j < j' ∧ RD X' Y' m j' ∧ DR X' Y') ∨ (r = 0 ∧ FD X' Y')) := by
  obtain ⟨c, s1, -⟩ := see_ok hN h.1
  have h2 := RD_see h
  generalize hY2 : up Y 0 8 (X 4 j) = Y2 at s1 h2
  have f2 : RF Y Y2 := by rw [← hY2]; exact RF_up8
  have y8 : Y2 0 8 = X 4 j := by rw [← hY2, up_hit rfl rfl]
  have y11 : Y2 0 11 = 6 := by rw [f2.2 11 (by omega) (by omega) (by omega)]; exact h11
  have y14 : Y2 0 14 = k := by rw [f2.2 14 (by omega) (by omega) (by omega)]; exact h14
  have y6 : Y2 6 = Y 6 := f2.1 6 (by omega)
  have lk := looked_ok (N := N) h
  have q3 := h.1.2.1
  have pl := At_pl h.1
  have pr : 0 ≤ X 4 j ∧ X 4 j ≤ 400 := by omega
  rcases pword_ok hN h2.1 y8 with ⟨K, w⟩ | ⟨K, w⟩
  · by_cases c40 : k = 40
    · have fx := fail_ok (N := N) (w := 4) h (by omega)
      have fy := fails_ok (N := N) (w := 4) (p := X 4 j) h2.2.2.2 pr (by omega)
      have F := FD_of (w := 4) h f2 h2.2.2.2 (by omega)
      have l17 : (X 3 j < 17) = False := eq_false (by omega)
      have g20 : (20 < X 3 j) = False := eq_false (by omega)
      refine ⟨0, _, _, ?_, ?_, XD_XF F.2.2, YD_RF F.2.1, Or.inl rfl, Or.inr ⟨rfl, F.1⟩⟩
      · unfold Pa_readClause jlt jbv
        simp only [lk, l17, g20, c40, fx.1, Option.bind_some, Int.reduceLT, Int.reduceEq, reduceIte]
      · unfold m_clauseHere jlt jb1
        simp only [s1, y8, y11, y14, c40, w, fy, Option.bind_some, Int.reduceEq, reduceIte]
        rw [jchk_pos (Or.inl trivial)]
    · have rd3 : RD X (up Y2 0 14 (k + 1)) m j := RD_w h2 (fun _ _ _ => rfl) (up_ne (by omega)) (fun i hi => up_col (by omega))
      have hd3 : (k = 0 ∧ D0 X (up Y2 0 14 (k + 1))) ∨ (1 ≤ k ∧ DR X (up Y2 0 14 (k + 1))) := by
        have e6 : up Y2 0 14 (k + 1) 6 = Y 6 := by rw [up_ne (by omega)]; exact y6
        rcases hd with ⟨a, b⟩ | ⟨a, b⟩
        · refine Or.inl ⟨a, ?_⟩
          unfold D0; rw [e6]; exact b
        · exact Or.inr ⟨a, DR_same b (fun _ _ _ => rfl) e6⟩
      obtain ⟨r, X', Y', a1, a2, a3, a4, a5, a6, a7⟩ := pline_ok hN (a := X 4 j) rd3 (by rw [up_col (by omega)]; exact y8) rfl K ⟨hk.1, by omega⟩ hd3
      have n40 : (k = 40) = False := eq_false c40
      refine ⟨r, X', Y', a1, ?_, a3, YD_trans (YD_RF f2) (YD_trans ⟨fun p a b => up_ne a, fun k' a b c d => up_col d⟩ a4), a6, ?_⟩
      · unfold m_clauseHere jlt jb1
        simp only [s1, y8, y11, y14, n40, w, w32_id (x := k + 1) (show -2147483648 ≤ k + 1 ∧ k + 1 < 2147483648 by omega), a2, Option.bind_some, Int.reduceEq, reduceIte]
        rw [jchk_pos a6]
      · rcases a7 with ⟨z1, z2⟩ | z
        · exact Or.inl ⟨z1, by omega, by rw [a5, up_hit rfl rfl], z2⟩
        · exact Or.inr z
  · have fx := fail_ok (N := N) (w := 0) h (by omega)
    have fy := fails_ok (N := N) (w := 0) (p := X 4 j) h2.2.2.2 pr (by omega)
    have F := FD_of (w := 0) h f2 h2.2.2.2 (by omega)
    refine ⟨0, _, _, ?_, ?_, XD_XF F.2.2, YD_RF F.2.1, Or.inl rfl, Or.inr ⟨rfl, F.1⟩⟩
    · unfold Pa_readClause jlt jbv
      rw [lk, Option.bind_some]
      dsimp only
      by_cases c1 : X 3 j < 17
      · rw [if_pos c1, fx.1, Option.bind_some]
      · rw [if_neg c1, if_pos (show 20 < X 3 j by omega), fx.1, Option.bind_some]
    · unfold m_clauseHere jlt jb1
      simp only [s1, y8, y11, w, fy, Option.bind_some, Int.reduceEq, reduceIte]
      rw [jchk_pos (Or.inl trivial)]
theorem sgk_inj {K t : Int} (hK : K ≠ 3) (h : (K = 4 ∧ t = 59) ∨ (K = 5 ∧ t = 91) ∨ (K = 6 ∧ t = 93) ∨ (K = 7 ∧ t = 43) ∨ (K = 8 ∧ t = 45) ∨ (K = 9 ∧ t = 42) ∨ (K = 10 ∧ t = 47) ∨ (K = 11 ∧ t = 37) ∨ (K = 13 ∧ t = 61)) : sgk t = K ∧ ∀ u, sgk u = K → u = t := by
  refine ⟨?_, fun u hu => ?_⟩
  · rcases h with ⟨a, b⟩ | ⟨a, b⟩ | ⟨a, b⟩ | ⟨a, b⟩ | ⟨a, b⟩ | ⟨a, b⟩ | ⟨a, b⟩ | ⟨a, b⟩ | ⟨a, b⟩ <;> subst a <;> subst b <;> decide
  · unfold sgk at hu
    by_cases c0 : u = 59
    · rw [if_pos c0] at hu; omega
    · rw [if_neg c0] at hu
      by_cases c1 : u = 91
      · rw [if_pos c1] at hu; omega
      · rw [if_neg c1] at hu
        by_cases c2 : u = 93
        · rw [if_pos c2] at hu; omega
        · rw [if_neg c2] at hu
          by_cases c3 : u = 43
          · rw [if_pos c3] at hu; omega
          · rw [if_neg c3] at hu
            by_cases c4 : u = 45
            · rw [if_pos c4] at hu; omega
            · rw [if_neg c4] at hu
              by_cases c5 : u = 42
              · rw [if_pos c5] at hu; omega
              · rw [if_neg c5] at hu
                by_cases c6 : u = 47
                · rw [if_pos c6] at hu; omega
                · rw [if_neg c6] at hu
                  by_cases c7 : u = 37
                  · rw [if_pos c7] at hu; omega
                  · rw [if_neg c7] at hu
                    by_cases c8 : u = 60
                    · rw [if_pos c8] at hu; omega
                    · rw [if_neg c8] at hu
                      by_cases c9 : u = 61
                      · rw [if_pos c9] at hu; omega
                      · rw [if_neg c9] at hu
                        by_cases c10 : u = 62
                        · rw [if_pos c10] at hu; omega
                        · rw [if_neg c10] at hu; omega
