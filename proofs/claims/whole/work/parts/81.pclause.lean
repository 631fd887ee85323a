/-! any clause of a PARISH -/
theorem pword_ok {N : Nat} (hN : 1000 ≤ N) {X Y : jMem} {m j : Int} (h : At X Y m j) (h8 : Y 0 8 = X 4 j) : ((17 ≤ X 3 j ∧ X 3 j ≤ 20) ∧ m_isParishWord N Y = some (1, Y)) ∨ (¬ (17 ≤ X 3 j ∧ X 3 j ≤ 20) ∧ m_isParishWord N Y = some (0, Y)) := by
  have w0 := isW hN h h8 (i := 0) (by omega)
  have w1 := isW hN h h8 (i := 1) (by omega)
  have w2 := isW hN h h8 (i := 2) (by omega)
  have w3 := isW hN h h8 (i := 3) (by omega)
  rw [show wcode 0 = 123563833652072 from rfl] at w0
  rw [show wcode 1 = 2003135596 from rfl] at w1
  rw [show wcode 2 = 1717662317 from rfl] at w2
  rw [show wcode 3 = 7039342 from rfl] at w3
  unfold m_isParishWord jb1
  rcases w0 with ⟨a, b⟩ | ⟨a, b⟩
  · rw [b, Option.bind_some]
    dsimp only
    rw [if_neg (show ¬ (1 : Int) = 0 by decide)]
    exact Or.inl ⟨by omega, rfl⟩
  · rw [b, Option.bind_some]
    dsimp only
    rw [if_pos rfl]
    rcases w1 with ⟨c, d⟩ | ⟨c, d⟩
    · rw [d, Option.bind_some]
      dsimp only
      rw [if_neg (show ¬ (1 : Int) = 0 by decide)]
      exact Or.inl ⟨by omega, rfl⟩
    · rw [d, Option.bind_some]
      dsimp only
      rw [if_pos rfl]
      rcases w2 with ⟨e, f⟩ | ⟨e, f⟩
      · rw [f, Option.bind_some]
        dsimp only
        rw [if_neg (show ¬ (1 : Int) = 0 by decide)]
        exact Or.inl ⟨by omega, rfl⟩
      · rw [f, Option.bind_some]
        dsimp only
        rw [if_pos rfl]
        rcases w3 with ⟨g, i⟩ | ⟨g, i⟩
        · rw [i, Option.bind_some]
          dsimp only
          rw [if_neg (show ¬ (1 : Int) = 0 by decide)]
          exact Or.inl ⟨by omega, rfl⟩
        · rw [i, Option.bind_some]
          dsimp only
          rw [if_pos rfl]
          exact Or.inr ⟨by omega, rfl⟩
/-- the line that a word opens -/
theorem pline_ok {N : Nat} (hN : 1000 ≤ N) {X Y : jMem} {m j k a : Int} (h : RD X Y m j) (h8 : Y 0 8 = X 4 j) (ha : a = X 4 j) (hK : 17 ≤ X 3 j ∧ X 3 j ≤ 20) (hk : 0 ≤ k ∧ k < 40) (hd : (k = 0 ∧ D0 X Y) ∨ (1 ≤ k ∧ DR X Y)) :
    ∃ (r : Int) (X' Y' : jMem), Pa_readClause N 6 k X = some (0, X') ∧ m_parishLineHere N a Y = some (r, Y') ∧ XD X X' ∧ YD Y Y' ∧ Y' 0 14 = Y 0 14 ∧ (r = 0 ∨ r = 1) ∧ ((r = 1 ∧ ∃ j', j < j' ∧ RD X' Y' m j' ∧ DR X' Y') ∨ (r = 0 ∧ FD X' Y')) := by
  have jm := kind_end h.1 (by omega)
  have mv := move_ok (N := N) h jm
  have fx := fail_ok (N := N) (w := 4) h (by omega)
  have F := FD_of (w := 4) h (RF_refl (Y := Y)) h.2.2.2 (by omega)
  have fy := fails_ok (N := N) (w := 4) (p := X 4 j) h.2.2.2 (by omega) (by omega)
  have w0 := isW hN h.1 h8 (i := 0) (by omega)
  have w1 := isW hN h.1 h8 (i := 1) (by omega)
  have w2 := isW hN h.1 h8 (i := 2) (by omega)
  rw [show wcode 0 = 123563833652072 from rfl] at w0
  rw [show wcode 1 = 2003135596 from rfl] at w1
  rw [show wcode 2 = 1717662317 from rfl] at w2
  subst ha
  have lk := looked_ok (N := N) h
  have k40 : (k < 40) = True := eq_true (by omega)
  by_cases c0 : X 3 j = 17
  · have w0' : m_isWord N 123563833652072 Y = some (1, Y) := by
      rcases w0 with ⟨-, z⟩ | ⟨z, -⟩
      · exact z
      · omega
    rcases hd with ⟨k0, d⟩ | ⟨k0, d⟩
    · obtain ⟨r, X', Y', a1, a2, a3, a4, a5, a6⟩ := parishLine_ok hN (a := X 4 j) h h8 c0 d
      have r01 : r = 0 ∨ r = 1 := by rcases a6 with z | z <;> omega
      refine ⟨r, X', Y', ?_, ?_, a3, a4, a5, r01, a6⟩
      · unfold Pa_readClause jlt jbv
        simp only [lk, c0, k0, mv, Option.bind_some, Int.reduceLT, Int.reduceEq, reduceIte]
        exact a1
      · unfold m_parishLineHere jb1
        simp only [w0', a2, Option.bind_some, Int.reduceEq, reduceIte]
        rw [jchk_pos r01]
    · have e : m_isParishHere N (X 4 j) Y = some (0, up Y 0 9 (1 + 8 * X 4 j + 4)) := by
        unfold m_isParishHere jb1
        rw [if_pos (by have := d.2.1; omega), fy, Option.bind_some]
        dsimp only
        rw [jchk_pos (Or.inl rfl)]
      have kn : (k = 0) = False := eq_false (by omega)
      refine ⟨0, _, _, ?_, ?_, XD_XF F.2.2, YD_RF F.2.1, up_col (by omega), Or.inl rfl, Or.inr ⟨rfl, F.1⟩⟩
      · unfold Pa_readClause jlt jbv
        simp only [lk, c0, k40, kn, fx.1, Option.bind_some, Int.reduceLT, Int.reduceEq, reduceIte]
      · unfold m_parishLineHere jb1
        simp only [w0', e, Option.bind_some, Int.reduceEq, reduceIte]
        rw [jchk_pos (Or.inl trivial)]
  · have w0' : m_isWord N 123563833652072 Y = some (0, Y) := by
      rcases w0 with ⟨z, -⟩ | ⟨-, z⟩
      · omega
      · exact z
    have n17 : (X 3 j = 17) = False := eq_false c0
    have l17 : (X 3 j < 17) = False := eq_false (by omega)
    have g20 : (20 < X 3 j) = False := eq_false (by omega)
    rcases hd with ⟨k0, d⟩ | ⟨k0, d⟩
    · have y60 := d.1 0 (by omega) (by omega)
      refine ⟨0, _, _, ?_, ?_, XD_XF F.2.2, YD_RF F.2.1, up_col (by omega), Or.inl rfl, Or.inr ⟨rfl, F.1⟩⟩
      · unfold Pa_readClause jlt jbv
        simp only [lk, n17, l17, g20, k0, fx.1, Option.bind_some, Int.reduceLT, Int.reduceEq, reduceIte]
      · unfold m_parishLineHere jb1
        simp only [w0', y60, fy, Option.bind_some, Int.reduceEq, reduceIte]
        rw [jchk_pos (Or.inl trivial)]
    · have kn : (k = 0) = False := eq_false (by omega)
      have y60 : (Y 6 0 = 0) = False := eq_false (by have := d.2.1; omega)
      by_cases c1 : X 3 j = 18
      · have w1' : m_isWord N 2003135596 Y = some (1, Y) := by
          rcases w1 with ⟨-, z⟩ | ⟨z, -⟩
          · exact z
          · omega
        obtain ⟨r, X', Y', a1, a2, a3, a4, a5, a6⟩ := wellLine_ok hN h h8 c1 d
        have r01 : r = 0 ∨ r = 1 := by rcases a6 with z | z <;> omega
        refine ⟨r, X', Y', ?_, ?_, a3, a4, a5, r01, a6⟩
        · unfold Pa_readClause jlt jbv
          simp only [lk, c1, k40, kn, mv, Option.bind_some, Int.reduceLT, Int.reduceEq, reduceIte]
          exact a1
        · unfold m_parishLineHere jb1
          simp only [w0', w1', y60, a2, Option.bind_some, Int.reduceEq, reduceIte]
          rw [jchk_pos r01]
      · have w1' : m_isWord N 2003135596 Y = some (0, Y) := by
          rcases w1 with ⟨z, -⟩ | ⟨-, z⟩
          · omega
          · exact z
        by_cases c2 : X 3 j = 19
        · have w2' : m_isWord N 1717662317 Y = some (1, Y) := by
            rcases w2 with ⟨-, z⟩ | ⟨z, -⟩
            · exact z
            · omega
          obtain ⟨r, X', Y', a1, a2, a3, a4, a5, a6⟩ := farmLine_ok hN h h8 c2 d
          have r01 : r = 0 ∨ r = 1 := by rcases a6 with z | z <;> omega
          refine ⟨r, X', Y', ?_, ?_, a3, a4, a5, r01, a6⟩
          · unfold Pa_readClause jlt jbv
            simp only [lk, c2, k40, kn, mv, Option.bind_some, Int.reduceLT, Int.reduceEq, reduceIte]
            exact a1
          · unfold m_parishLineHere jb1
            simp only [w0', w1', w2', y60, a2, Option.bind_some, Int.reduceEq, reduceIte]
            rw [jchk_pos r01]
        · have w2' : m_isWord N 1717662317 Y = some (0, Y) := by
            rcases w2 with ⟨z, -⟩ | ⟨-, z⟩
            · omega
            · exact z
          have c3 : X 3 j = 20 := by omega
          obtain ⟨r, X', Y', a1, a2, a3, a4, a5, a6⟩ := kinLine_ok hN h h8 c3 d
          have r01 : r = 0 ∨ r = 1 := by rcases a6 with z | z <;> omega
          refine ⟨r, X', Y', ?_, ?_, a3, a4, a5, r01, a6⟩
          · unfold Pa_readClause jlt jbv
            simp only [lk, c3, k40, kn, mv, a1, Option.bind_some, Int.reduceLT, Int.reduceEq, reduceIte]
          · unfold m_parishLineHere jb1
            simp only [w0', w1', w2', y60, a2, Option.bind_some, Int.reduceEq, reduceIte]
            rw [jchk_pos r01]
