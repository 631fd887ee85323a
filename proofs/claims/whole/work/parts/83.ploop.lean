/-! all clauses of a PARISH -/
def YE (Y Y' : jMem) : Prop := (∀ p, p ≠ 0 → p ≠ 6 → Y' p = Y p) ∧ (∀ k, k ≠ 1 → k ≠ 8 → k ≠ 9 → k ≠ 10 → k ≠ 14 → Y' 0 k = Y 0 k) ∧ Y' 0 1 = 0
theorem YE_of {Y Y' : jMem} (h : YD Y Y') : YE Y (up Y' 0 1 0) := ⟨fun p a b => by rw [up_ne a]; exact h.1 p a b, fun k a b c d e => by rw [up_col a]; exact h.2 k b c d e, up_hit rfl rfl⟩
theorem endX_F {N : Nat} {X : jMem} (h : X 2 4 ≠ 0) : To_takeEnd N X = some (0, X) := by
  unfold To_takeEnd; rw [looked_F h, Option.bind_some, if_pos rfl]
/-- a fault ends both -/
theorem endY_F {N G : Nat} {Y : jMem} (h : Y 0 9 ≠ 0) (hG : 1 ≤ G) : jfix G (m_readsAll_L35 N) (0, Y) = some (0, up Y 0 1 0) := by
  obtain ⟨g, rfl⟩ : ∃ g, G = g + 1 := ⟨G - 1, by omega⟩
  rw [jfix_s]
  unfold m_readsAll_L35 jlt
  dsimp only
  rw [if_pos rfl, if_pos rfl, up_col (by omega), if_neg h]
theorem ploop_ok {N : Nat} (hN : 1000 ≤ N) : ∀ (d : Nat) (k : Int) (X Y : jMem) (m j : Int) (F G : Nat), k + (d : Int) = 40 → 0 ≤ k → d + 1 ≤ F → d + 2 ≤ G → RD X Y m j → Y 0 11 = 6 → Y 0 14 = k → ((k = 0 ∧ D0 X Y) ∨ (1 ≤ k ∧ DR X Y)) →
    ∃ (v g r : Int) (X' Yc Y' : jMem), jfix F (Pa_readFrom_L6 N 6) (k, X) = some (v, X') ∧ m_clauseHere N Y = some (r, Yc) ∧ jfix G (m_readsAll_L35 N) (r, Yc) = some (g, Y') ∧ XD X X' ∧ YE Y Y' ∧ ((g = 1 ∧ v = 0 ∧ DR X' Y') ∨ (g = 0 ∧ v ≠ 0 ∧ Y' 0 9 = v ∧ (-2147483648 ≤ v ∧ v < 2147480000))) := by
  intro d
  induction d with
  | zero =>
    intro k X Y m j F G hk k0 hF hG h h11 h14 hd
    obtain ⟨f, rfl⟩ : ∃ f, F = f + 1 := ⟨F - 1, by omega⟩
    obtain ⟨r, X1, Y1, a1, a2, a3, a4, a5, a6⟩ := pclause_ok hN h h11 h14 ⟨k0, by omega⟩ hd
    rcases a6 with ⟨-, z, -⟩ | ⟨z1, z2⟩
    · omega
    · subst z1
      refine ⟨X1 2 4, 0, 0, X1, Y1, up Y1 0 1 0, ?_, a2, endY_F (by rw [z2.2.1]; exact z2.1) (by omega), a3, YE_of a4, Or.inr ⟨rfl, z2.1, by rw [up_col (by omega)]; exact z2.2.1, z2.2.2⟩⟩
      rw [jfix_s]
      unfold Pa_readFrom_L6 jbv jlt
      dsimp only
      rw [a1, Option.bind_some]
      dsimp only
      rw [if_pos (by rw [w32_id (by omega)]; omega), endX_F z2.1, Option.bind_some]
  | succ d ih =>
    intro k X Y m j F G hk k0 hF hG h h11 h14 hd
    obtain ⟨f, rfl⟩ : ∃ f, F = f + 1 := ⟨F - 1, by omega⟩
    obtain ⟨g, rfl⟩ : ∃ g, G = g + 1 := ⟨G - 1, by omega⟩
    obtain ⟨r, X1, Y1, a1, a2, a3, a4, a5, a6⟩ := pclause_ok hN h h11 h14 ⟨k0, by omega⟩ hd
    have n41 : ¬ 40 < w32 (k + 1) := by rw [w32_id (by omega)]; omega
    rcases a6 with ⟨z1, z2, z3, j', z4, z5, z6⟩ | ⟨z1, z2⟩
    · subst z1
      obtain ⟨c, s1, s2⟩ := see_ok hN z5.1
      have rd2 := RD_see z5
      have sg := sgk_inj (K := 4) (t := 59) (by omega) (by omega)
      obtain ⟨q1, q2⟩ := sign_at z5.1 s2 (K := 4) (t := 59) ⟨by omega, by omega, by unfold Dg; omega, by unfold Lt; omega, by omega, by omega⟩ sg.1 (by omega) sg.2
      generalize hY2 : up Y1 0 8 (X1 4 j') = Y2 at s1 rd2
      have f2 : RF Y1 Y2 := by rw [← hY2]; exact RF_up8
      have y8 : Y2 0 8 = X1 4 j' := by rw [← hY2, up_hit rfl rfl]
      have q3 := z5.1.2.1
      have pl := At_pl z5.1
      by_cases cs : X1 3 j' = 4
      · obtain ⟨jm, q, e1, tk, sk⟩ := q2 cs
        have tx : To_takes N 4 X1 = some (1, up X1 2 3 (j' + 1)) := by
          rcases takes_ok (N := N) z5 (k := 4) (by omega) with ⟨-, w⟩ | ⟨w, -⟩
          · exact w
          · exact absurd cs w
        have atn : At X1 (up Y2 0 8 (X1 4 j' + 1)) m (j' + 1) := At_next z5.1 (RF_trans f2 RF_up8) jm tk sk (by rw [up_hit rfl rfl]; exact e1.symm)
        have rdn := RD_next z5 atn (by rw [up_col (by omega)]; exact rd2.2.2.2)
        have yd2 : YD Y (up Y2 0 8 (X1 4 j' + 1)) := YD_trans a4 (YD_RF (RF_trans f2 RF_up8))
        have e11 : up Y2 0 8 (X1 4 j' + 1) 0 11 = 6 := by rw [yd2.2 11 (by omega) (by omega) (by omega) (by omega)]; exact h11
        have e14 : up Y2 0 8 (X1 4 j' + 1) 0 14 = k + 1 := by rw [up_col (by omega), f2.2 14 (by omega) (by omega) (by omega)]; exact z3
        obtain ⟨v, g', r', X', Yc, Y', b1, b2, b3, b4, b5, b6⟩ := ih (k + 1) (up X1 2 3 (j' + 1)) (up Y2 0 8 (X1 4 j' + 1)) m (j' + 1) f g (by omega) (by omega) (by omega) (by omega) rdn e11 e14 (Or.inr ⟨by omega, DR_same z6 (fun p a b => up_ne (by omega)) (by rw [up_ne (by omega), f2.1 6 (by omega)])⟩)
        refine ⟨v, g', 1, X', Y1, Y', ?_, a2, ?_, XD_trans a3 (XD_trans (fun p a b => up_ne a) b4), ⟨fun p a b => by rw [b5.1 p a b, yd2.1 p a b], fun i a b c d e => by rw [b5.2.1 i a b c d e, yd2.2 i b c d e], b5.2.2⟩, b6⟩
        · rw [jfix_s]
          generalize jfix f (Pa_readFrom_L6 N 6) = kk at b1 ⊢
          unfold Pa_readFrom_L6 jbv jlt jb1
          dsimp only
          rw [a1, Option.bind_some]
          dsimp only
          rw [if_neg n41, tx, Option.bind_some]
          dsimp only
          rw [if_neg (show ¬ (1 : Int) = 0 by decide), w32_id (by omega)]
          exact b1
        · rw [jfix_s]
          generalize jfix g (m_readsAll_L35 N) = kk at b3 ⊢
          unfold m_readsAll_L35 jlt jb1
          dsimp only
          rw [if_neg (show ¬ (1 : Int) = 0 by decide), s1, Option.bind_some]
          dsimp only
          rw [if_pos (q1.mpr cs), y8, w32_id (by omega), b2, Option.bind_some]
          exact b3
      · have tx : To_takes N 4 X1 = some (0, X1) := by
          rcases takes_ok (N := N) z5 (k := 4) (by omega) with ⟨w, -⟩ | ⟨-, w⟩
          · exact absurd w cs
          · exact w
        obtain ⟨c', t1, t2⟩ := see_ok hN rd2.1
        rw [up_same y8] at t1
        have lk := looked_ok (N := N) z5
        have hend : c' = -1 ↔ X1 3 j' = 0 := by
          rcases t2 with ⟨w1, w2⟩ | ⟨w1, w2⟩
          · rcases pl with p | p
            · exact ⟨fun _ => p.2.2, fun _ => w2⟩
            · omega
          · have kp := kind_pos z5.1 w1
            have hb := rd2.1.2.2.1 (X1 4 j') (by omega) (by omega)
            have : 0 ≤ jand (Y2 1 (X1 4 j')) 255 := by
              rw [and255 hb]
              by_cases cc : Y2 1 (X1 4 j') < 0
              · rw [if_pos cc]; omega
              · rw [if_neg cc]; omega
            omega
        have bodyY : ∀ r1 Y3, (if c' = -1 then some ((0 : Int), Y2) else m_fails N 0 (Y2 0 8) Y2) = some (r1, Y3) → m_readsAll_L35 N (jfix g (m_readsAll_L35 N)) (1, Y1) = if Y3 0 9 = 0 then some (1, up Y3 0 1 0) else some (0, up Y3 0 1 0) := fun r1 Y3 e => by
          generalize jfix g (m_readsAll_L35 N) = kk
          unfold m_readsAll_L35 jlt jb1
          dsimp only
          rw [if_neg (show ¬ (1 : Int) = 0 by decide), s1, Option.bind_some]
          dsimp only
          rw [if_neg (fun z => cs (q1.mp z)), if_neg (show ¬ (1 : Int) = 0 by decide), t1, Option.bind_some]
          dsimp only
          by_cases cc : c' = -1
          · rw [if_pos cc] at e
            cases e
            rw [if_pos cc, up_col (by omega)]
          · rw [if_neg cc] at e
            rw [if_neg cc, e, Option.bind_some]
            dsimp only
            rw [up_col (by omega)]
        have bodyX : ∀ X3, To_takeEnd N X1 = some (0, X3) → jfix (f + 1) (Pa_readFrom_L6 N 6) (k, X) = some (X3 2 4, X3) := fun X3 e => by
          rw [jfix_s]
          generalize jfix f (Pa_readFrom_L6 N 6) = kk
          unfold Pa_readFrom_L6 jbv jlt jb1
          dsimp only
          rw [a1, Option.bind_some]
          dsimp only
          rw [if_neg n41, tx, Option.bind_some]
          dsimp only
          rw [if_pos rfl, e, Option.bind_some]
        have yd2 : YD Y Y2 := YD_trans a4 (YD_RF f2)
        by_cases ce : X1 3 j' = 0
        · have ex : To_takeEnd N X1 = some (0, X1) := by unfold To_takeEnd; rw [lk, Option.bind_some, if_pos ce]
          have by1 := bodyY 0 Y2 (by rw [if_pos (hend.mpr ce)])
          rw [if_pos rd2.2.2.2] at by1
          refine ⟨0, 1, 1, X1, Y1, up Y2 0 1 0, by rw [bodyX X1 ex, z5.2.2.1], a2, by rw [jfix_s]; exact by1, a3, YE_of yd2, Or.inl ⟨rfl, rfl, DR_same z6 (fun _ _ _ => rfl) (by rw [up_ne (by omega), f2.1 6 (by omega)])⟩⟩
        · have fx := fail_ok (N := N) (w := 0) z5 (by omega)
          have F := FD_of (w := 0) z5 f2 rd2.2.2.2 (by omega)
          have ex : To_takeEnd N X1 = some (0, up X1 2 4 (1 + 8 * X1 4 j' + 0)) := by unfold To_takeEnd jbv; rw [lk, Option.bind_some, if_neg ce, fx.1, Option.bind_some]
          have fy := fails_ok (N := N) (w := 0) (p := X1 4 j') rd2.2.2.2 (by omega) (by omega)
          have by1 := bodyY 0 _ (by rw [if_neg (fun z => ce (hend.mp z)), y8, fy])
          have nz : up Y2 0 9 (1 + 8 * X1 4 j' + 0) 0 9 ≠ 0 := by rw [F.1.2.1]; exact F.1.1
          rw [if_neg nz] at by1
          refine ⟨_, 0, 1, _, Y1, _, bodyX _ ex, a2, by rw [jfix_s]; exact by1, XD_trans a3 (XD_XF F.2.2), YE_of (YD_trans a4 (YD_RF F.2.1)), Or.inr ⟨rfl, F.1.1, by rw [up_col (by omega)]; exact F.1.2.1, F.1.2.2⟩⟩
    · subst z1
      refine ⟨X1 2 4, 0, 0, X1, Y1, up Y1 0 1 0, ?_, a2, endY_F (by rw [z2.2.1]; exact z2.1) (by omega), a3, YE_of a4, Or.inr ⟨rfl, z2.1, by rw [up_col (by omega)]; exact z2.2.1, z2.2.2⟩⟩
      rw [jfix_s]
      unfold Pa_readFrom_L6 jbv jlt jb1
      dsimp only
      rw [a1, Option.bind_some]
      dsimp only
      rw [if_neg n41, takes_F z2.1 (by omega), Option.bind_some]
      dsimp only
      rw [if_pos rfl, endX_F z2.1, Option.bind_some]
