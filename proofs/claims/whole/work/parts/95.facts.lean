/-! facts, brackets and NOT on both sides -/
theorem RR_y {X Y Y' : jMem} {m j q t n v a : Int} {ts : List Bool} (h : RR X Y m j q t n v a ts) (h1 : ∀ p, p ≠ 0 → p ≠ 7 → Y' p = Y p) (h0 : ∀ k, k ≠ 13 → k ≠ 16 → Y' 0 k = Y 0 k) : RR X Y' m j q t n v a ts :=
  RR_w h (RD_w h.1 (fun _ _ _ => rfl) (h1 1 (by omega) (by omega)) (fun k hk => h0 k (by omega) (by omega))) (fun _ _ _ => rfl) rfl rfl h.2.2.1.1 (h1 2 (by omega) (by omega)) (h1 3 (by omega) (by omega)) (h0 11 (by omega) (by omega)) (by rw [h0 12 (by omega) (by omega)]; exact h.2.2.1.2.1) h.2.2.1.2.2
theorem opens_ok {N : Nat} {Y : jMem} {w e s : Int} (hd : Y 0 13 = e) (he : 0 ≤ e ∧ e < 10) (ho : Y 0 16 = s) (hs : 0 ≤ s ∧ s < 400) : m_opens N w Y = some (1, up (up (up Y 0 13 (e + 1)) 7 s w) 0 16 (s + 1)) := by
  unfold m_opens jlt
  dsimp only
  rw [hd, if_neg (by omega), w32_id (by omega), up_col (show (16 : Int) ≠ 13 by omega), ho, jchk_pos hs, up_row (show (0 : Int) ≠ 7 by omega), up_col (show (16 : Int) ≠ 13 by omega), ho, w32_id (by omega)]
theorem opens_10 {N : Nat} {Y : jMem} {w : Int} (hd : Y 0 13 = 10) (h9 : Y 0 9 = 0) (hp : 0 ≤ Y 0 8 ∧ Y 0 8 ≤ 400) : m_opens N w Y = some (0, up Y 0 9 (1 + 8 * Y 0 8 + 2)) := by
  unfold m_opens jb1
  rw [if_pos hd, fails_ok h9 hp (by omega), Option.bind_some]
  dsimp only
  rw [jchk_pos (Or.inl rfl)]
theorem fact_ok {N : Nat} (hN : 1000 ≤ N) {rt rf : Int → jMem → Option (Int × jMem)} {deep : Int} (hdp : 0 ≤ deep ∧ deep ≤ 10) (H : deep < 10 → TestOK N rt (deep + 1) ∧ FactOK N rf (deep + 1)) : FactOK N (fun a M => Rr_readFact_B N rt rf a M) deep := by
  intro X Y m j q t n v a k s ts fF fG h hk hn hl hd ho hs hsj hF hG
  have nn := RR_nums h
  have lk := looked_ok (N := N) h.1
  have pl := At_pl h.1.1
  have y400 := h.1.1.2.1
  obtain ⟨f, rfl⟩ : ∃ f, fF = f + 1 := ⟨fF - 1, by omega⟩
  obtain ⟨f0, rfl⟩ : ∃ f0, f = f0 + 1 := ⟨f - 1, by omega⟩
  generalize hh12 : jfix fG (m_tested_L12 N) = h12
  obtain ⟨c, Y2, g⟩ := sgn hN h.1
  have g' := g
  obtain ⟨s1, s2, eY2, rd2, f2, y8, ⟨-, k5, -⟩, -, nx⟩ := g
  have rr2 : RR X Y2 m j q t n v a ts := by rw [eY2]; exact RR_see h
  have y7 : Y2 7 = Y 7 := f2.1 7 (by omega)
  have y16 : Y2 0 16 = s := by rw [f2.2 16 (by omega) (by omega) (by omega)]; exact ho
  have y13 : Y2 0 13 = deep := by rw [f2.2 13 (by omega) (by omega) (by omega)]; exact hd
  have yt2 : YT t n Y Y2 := YT_G (YG_RF f2)
  have wn := isW hN rd2.1 y8 (i := 8) (by omega)
  rw [show wcode 8 = 7237492 from rfl] at wn
  dsimp only
  by_cases K25 : X 3 j = 25
  · have wn1 : m_isWord N 7237492 Y2 = some (1, Y2) := by
      rcases wn with w | w
      · exact w.2
      · exact absurd K25 w.1
    have jm := kind_end h.1.1 (show X 3 j ≠ 0 by omega)
    by_cases d10 : deep = 10
    · obtain ⟨e1, e2, e3⟩ := FO_here (N := N) (w := 2) rr2 RF_refl rd2.2.2.2 (by omega)
      have op := opens_10 (N := N) (w := 11) (by rw [y13]; exact d10) rd2.2.2.2 (by rw [y8]; exact nn.2.2.2.2)
      rw [y8] at op
      refine ⟨_, ?_, Or.inr ⟨_, ?_, FO_ahead XG_refl (YT_le yt2 nn.2.1.1) e3⟩⟩
      · unfold Rr_readFact_B jlt jbv
        rw [jchk_pos h.2.1.1, lk, Option.bind_some]
        dsimp only
        rw [if_pos K25, if_neg (show ¬ deep < 10 by omega), jchk_pos h.2.1.1, e1, Option.bind_some]
      · unfold tA
        rw [jfix_s]
        generalize jfix (f0 + 1) (m_fact_L2 N) = kk
        unfold m_fact_L2 jb1
        dsimp only
        rw [if_neg (show ¬ (1 : Int) = 0 by decide), s1, Option.bind_some]
        dsimp only
        rw [wn1, Option.bind_some]
        dsimp only
        rw [if_neg (show ¬ (1 : Int) = 0 by decide), op, Option.bind_some]
        dsimp only
        rw [if_pos rfl, Option.bind_some]
        dsimp only
        rw [if_pos rfl]
    · have HF := (H (by omega)).2
      have op := opens_ok (N := N) (w := 11) y13 (by omega) y16 (by omega)
      generalize hY3 : up (up (up Y2 0 13 (deep + 1)) 7 s 11) 0 16 (s + 1) = Y3 at op
      have rr3 : RR X Y3 m j q t n v a ts := RR_y rr2 (fun p b1 b2 => by rw [← hY3, up_ne b1, up_ne b2, up_ne b1]) (fun u b1 b2 => by rw [← hY3, up_col b2, up_row (by omega), up_col b1])
      have y38 : Y3 0 8 = X 4 j := by rw [← hY3, up_col (by omega), up_row (by omega), up_col (by omega)]; exact y8
      obtain ⟨Y4, w1, w2, w3, w4, w5⟩ := passWord_ok hN rr3.1 y38 (by omega)
      have rd4 := RD_next rr3.1 w5 w3
      have rr4 : RR (up X 2 3 (j + 1)) Y4 m (j + 1) q t n v a ts := RR_w rr3 rd4 (fun p b1 _ => up_ne b1) (up_row (by omega)) (up_row (by omega)) (by rw [up_row (by omega)]; exact h.2.2.1.1) (w2.1 2 (by omega)) (w2.1 3 (by omega)) (w2.2 11 (by omega) (by omega) (by omega)) (by rw [w2.2 12 (by omega) (by omega) (by omega)]; exact rr3.2.2.1.2.1) h.2.2.1.2.2
      have e7 : ∀ u, u ≠ s → Y4 7 u = Y 7 u := fun u hu => by rw [w2.1 7 (by omega), ← hY3, up_row (by omega), up_col hu, up_row (by omega), y7]
      have e7' : Y4 7 s = 11 := by rw [w2.1 7 (by omega), ← hY3, up_row (by omega), up_hit rfl rfl]
      have e16 : Y4 0 16 = s + 1 := by rw [w2.2 16 (by omega) (by omega) (by omega), ← hY3, up_hit rfl rfl]
      have e13 : Y4 0 13 = deep + 1 := by rw [w2.2 13 (by omega) (by omega) (by omega), ← hY3, up_col (by omega), up_row (by omega), up_hit rfl rfl]
      have yt4 : YT t n Y Y4 := YT_trans yt2 (YT_trans (n' := n) (Y' := Y3) ⟨fun p b1 _ _ b2 => by rw [← hY3, up_ne b1, up_ne b2, up_ne b1], fun u _ _ _ _ b1 b2 => by rw [← hY3, up_col b2, up_row (by omega), up_col b1], fun u _ => by rw [← hY3, up_row (by omega), up_row (by omega), up_row (by omega)]⟩ (YT_G (YG_RF w2)) (Int.le_refl n)) (Int.le_refl n)
      have EA : tA N (f0 + 1 + 1) h12 Y = tA N (f0 + 1) h12 Y4 := by
        unfold tA
        rw [jfix_s]
        generalize jfix (f0 + 1) (m_fact_L2 N) = kk
        unfold m_fact_L2 jb1 jbv
        dsimp only
        rw [if_neg (show ¬ (1 : Int) = 0 by decide), s1, Option.bind_some]
        dsimp only
        rw [wn1, Option.bind_some]
        dsimp only
        rw [if_neg (show ¬ (1 : Int) = 0 by decide), op, Option.bind_some]
        dsimp only
        rw [if_neg (show ¬ (1 : Int) = 0 by decide), w1, Option.bind_some]
      obtain ⟨X5, q1, q2'⟩ := HF (up X 2 3 (j + 1)) Y4 m (j + 1) q t n v a (k + 1) (s + 1) ts (f0 + 1) fG rr4 (by omega) (by omega) (by omega) e13 e16 (by omega) (by omega) (by omega) (by omega)
      rw [hh12] at q2'
      have mv := move_ok (N := N) h.1 jm
      have EX : ∀ X6, X5 12 1 = q → Ru_apply N q 25 X5 = some (0, X6) → Rr_readFact_B N rt rf deep X = some (0, X6) := fun X6 e1 e2 => by
        unfold Rr_readFact_B jlt jbv
        rw [jchk_pos h.2.1.1, lk, Option.bind_some]
        dsimp only
        rw [if_pos K25, if_pos (show deep < 10 by omega), if_pos K25, jchk_pos h.2.1.1, mv, Option.bind_some]
        dsimp only
        rw [w32_id (by omega), q1, Option.bind_some]
        dsimp only
        rw [jchk_pos (show jkb jTX (X5 12 1) 5 = true by rw [e1]; exact nn.2.2.2.1), e1, e2, Option.bind_some]
      rcases q2' with ⟨Y5, j5, n5, v5, fL, fC5, fG5, b1, b2, b3, b4, b5, b6, b7⟩ | ⟨Y5, b1, b2⟩
      · have n5' := RR_nums b2
        obtain ⟨fL', rfl⟩ : ∃ fL', fL = fL' + 1 := ⟨fL - 1, by omega⟩
        obtain ⟨X6, Y6, a1, a2, a3, a4, a5, a6, a7, a8, a9, a10⟩ := lay_pop (N := N) (f := fL') (K := 25) (w := 11) (s := s) (least := 3) b2 (by omega) b4.2.1 (by omega) (by rw [b4.2.2 s (by omega)]; exact e7') (Or.inl ⟨rfl, rfl⟩) (by decide) (by omega) ty_not
        rw [if_pos rfl] at a6
        refine ⟨X6, EX X6 b2.2.1.2.1 a1, Or.inl ⟨Y6, j5, n5 + 1, v5, fL', fC5, fG5, ?_, a3, by omega, ⟨by rw [a6, b4.1]; omega, a4, fun u hu => by rw [a5, b4.2.2 u (by omega), e7 u (by omega)]⟩, by omega, XG_trans (XG_2 (n := n) (by omega)) (XG_trans b6 a8 (by omega)) (Int.le_refl n), YT_trans yt4 (YT_trans b7 a9 (by omega)) (Int.le_refl n)⟩⟩
        rw [EA, b1, tP_pop a2]
      · obtain ⟨X6, a1, a2, a3, a4⟩ := apply_F (N := N) (c := 25) b2.2.1 nn.2.2.1.1
        exact ⟨X6, EX X6 b2.2.1.2.2.1 a1, Or.inr ⟨Y5, by rw [EA]; exact b1, FO_ahead (XG_2 (by omega)) (YT_le yt4 nn.2.1.1) (FO_more b2 a2 a3 a4)⟩⟩
  · have wn0 : m_isWord N 7237492 Y2 = some (0, Y2) := by
      rcases wn with w | w
      · exact absurd w.1 K25
      · exact w.2
    by_cases K5 : X 3 j = 5
    · have c91 := k5.mpr K5
      have jm := kind_end h.1.1 (show X 3 j ≠ 0 by omega)
      by_cases d10 : deep = 10
      · obtain ⟨e1, e2, e3⟩ := FO_here (N := N) (w := 2) rr2 RF_refl rd2.2.2.2 (by omega)
        have op := opens_10 (N := N) (w := 91) (by rw [y13]; exact d10) rd2.2.2.2 (by rw [y8]; exact nn.2.2.2.2)
        rw [y8] at op
        refine ⟨_, ?_, Or.inr ⟨_, ?_, FO_ahead XG_refl (YT_le yt2 nn.2.1.1) e3⟩⟩
        · unfold Rr_readFact_B jlt jbv
          rw [jchk_pos h.2.1.1, lk, Option.bind_some]
          dsimp only
          rw [if_neg K25, if_pos K5, if_neg (show ¬ deep < 10 by omega), jchk_pos h.2.1.1, e1, Option.bind_some]
        · unfold tA
          rw [jfix_s]
          generalize jfix (f0 + 1) (m_fact_L2 N) = kk
          unfold m_fact_L2 jb1
          dsimp only
          rw [if_neg (show ¬ (1 : Int) = 0 by decide), s1, Option.bind_some]
          dsimp only
          rw [wn0, Option.bind_some]
          dsimp only
          rw [if_pos rfl, if_pos c91, op, Option.bind_some]
          dsimp only
          rw [if_pos rfl, Option.bind_some]
          dsimp only
          rw [if_pos rfl]
      · have HT := (H (by omega)).1
        have op := opens_ok (N := N) (w := 91) y13 (by omega) y16 (by omega)
        generalize hY3 : up (up (up Y2 0 13 (deep + 1)) 7 s 91) 0 16 (s + 1) = Y3 at op
        have y38 : Y3 0 8 = X 4 j := by rw [← hY3, up_col (by omega), up_row (by omega), up_col (by omega)]; exact y8
        have rrp := RR_pass h g' (by omega) (by omega)
        generalize hY4 : up Y3 0 8 (X 4 j + 1) = Y4
        have rr4 : RR (up X 2 3 (j + 1)) Y4 m (j + 1) q t n v a ts := RR_y rrp (fun p b1 b2 => by rw [← hY4, up_ne b1, ← hY3, up_ne b1, up_ne b2, up_ne b1, up_ne b1]) (fun u b1 b2 => by
          rw [← hY4]
          by_cases u8 : u = 8
          · rw [up_hit rfl u8, up_hit rfl u8]
          · rw [up_col u8, ← hY3, up_col b2, up_row (by omega), up_col b1, up_col u8])
        have e7 : ∀ u, u ≠ s → Y4 7 u = Y 7 u := fun u hu => by rw [← hY4, up_row (by omega), ← hY3, up_row (by omega), up_col hu, up_row (by omega), y7]
        have e7' : Y4 7 s = 91 := by rw [← hY4, up_row (by omega), ← hY3, up_row (by omega), up_hit rfl rfl]
        have e16 : Y4 0 16 = s + 1 := by rw [← hY4, up_col (by omega), ← hY3, up_hit rfl rfl]
        have e13 : Y4 0 13 = deep + 1 := by rw [← hY4, up_col (by omega), ← hY3, up_col (by omega), up_row (by omega), up_hit rfl rfl]
        have yt4 : YT t n Y Y4 := YT_trans yt2 (n' := n) ⟨fun p b1 _ _ b2 => by rw [← hY4, up_ne b1, ← hY3, up_ne b1, up_ne b2, up_ne b1], fun u b0 _ _ _ b1 b2 => by rw [← hY4, up_col b0, ← hY3, up_col b2, up_row (by omega), up_col b1], fun u _ => by rw [← hY4, up_row (by omega), ← hY3, up_row (by omega), up_row (by omega), up_row (by omega)]⟩ (Int.le_refl n)
        have EA : tA N (f0 + 1 + 1) h12 Y = tA N (f0 + 1) h12 Y4 := by
          unfold tA
          rw [jfix_s]
          generalize jfix (f0 + 1) (m_fact_L2 N) = kk
          unfold m_fact_L2 jb1 jlt
          dsimp only
          rw [if_neg (show ¬ (1 : Int) = 0 by decide), s1, Option.bind_some]
          dsimp only
          rw [wn0, Option.bind_some]
          dsimp only
          rw [if_pos rfl, if_pos c91, op, Option.bind_some]
          dsimp only
          rw [if_neg (show ¬ (1 : Int) = 0 by decide), y38, w32_id (by omega), hY4]
        obtain ⟨X5, q1, q2'⟩ := HT (up X 2 3 (j + 1)) Y4 m (j + 1) q t n v a k (s + 1) ts (f0 + 1) fG rr4 (by omega) (by omega) (by omega) e13 e16 (by omega) (by omega) (Or.inr (by rw [show s + 1 - 1 = s by omega]; exact e7')) (by omega) (by omega)
        rw [hh12] at q2'
        have mv := move_ok (N := N) h.1 jm
        have EX : ∀ r7 M8 X6, X5 12 0 = 2 → To_takes N 6 X5 = some (r7, M8) → M8 12 0 = 2 → (if r7 = 0 then To_fail N 0 M8 else some (0, M8)) = some (0, X6) → Rr_readFact_B N rt rf deep X = some (0, X6) := fun r7 M8 X6 e1 e2 e3 e4 => by
          unfold Rr_readFact_B jlt jbv jb1
          rw [jchk_pos h.2.1.1, lk, Option.bind_some]
          dsimp only
          rw [if_neg K25, if_pos K5, if_pos (show deep < 10 by omega), if_neg K25, jchk_pos h.2.1.1, mv, Option.bind_some]
          dsimp only
          rw [w32_id (by omega), q1, Option.bind_some]
          dsimp only
          rw [jchk_pos e1, e2, Option.bind_some]
          dsimp only
          by_cases c0 : r7 = 0
          · rw [if_pos c0] at e4 ⊢
            rw [jchk_pos e3, e4, Option.bind_some]
          · rw [if_neg c0] at e4 ⊢
            exact e4
        rcases q2' with ⟨Y5, Z, j5, n5, v5, fC5, fG5, b1, b2, b3, b4, b5, b6, b7, b8, b9, b10, b11, b12, b13, b14⟩ | ⟨Y5, b1, b2⟩
        · have n5' := RR_nums b6
          obtain ⟨c5, Y5', g5⟩ := sgn hN b2
          have e5 : Y5' = Y5 := by rw [g5.2.2.1, up_same b3]
          rw [e5] at g5
          have i5 : m_isInside N Y5 = some 1 := by
            obtain ⟨r, r1, r2⟩ := inside_ok hN (Y := Y5) (by omega)
            rcases r2 with ⟨z, -⟩ | ⟨-, z⟩
            · rw [r1, z]
            · exact absurd (by rw [b10.2.2.1 s (by omega)]; exact e7') (z s (by omega) (by omega))
          obtain ⟨fC', rfl⟩ : ∃ fC', fC5 = fC' + 1 := ⟨fC5 - 1, by omega⟩
          obtain ⟨fG', rfl⟩ : ∃ fG', fG5 = fG' + 1 := ⟨fG5 - 1, by omega⟩
          have xg : XG q n X X5 := XG_trans (XG_2 (n := n) (by omega)) b12 (Int.le_refl n)
          by_cases K6 : X5 3 j5 = 6
          · have c93 : c5 = 93 := g5.2.2.2.2.2.2.1.2.2.1.mpr K6
            have tk : To_takes N 6 X5 = some (1, up X5 2 3 (j5 + 1)) := by
              rcases takes_ok (N := N) b2 (k := 6) (by omega) with ⟨-, w⟩ | ⟨w, -⟩
              · exact w
              · exact absurd K6 w
            obtain ⟨cz, Z2, gz⟩ := sgn hN b6.1
            have ez : Z2 = Z := by rw [gz.2.2.1, up_same b7]
            rw [ez] at gz
            have rr6 := RR_pass b6 gz (by omega) (by omega)
            have cl := tQ_close (f := fC') (h12 := jfix (fG' + 1) (m_tested_L12 N)) (s := s) (e := deep) g5 c93 i5 b5 b9.2.1 b9.1 b7 (by omega) hdp n5'.2.2.2.2
            generalize hY6 : up (up (up Z 0 16 s) 0 13 deep) 0 8 (X5 4 j5 + 1) = Y6 at cl
            have rr7 : RR (up X5 2 3 (j5 + 1)) Y6 m (j5 + 1) q t n5 v5 a (true :: ts) := RR_y rr6 (fun p b1 b2 => by rw [← hY6, up_ne b1, up_ne b1, up_ne b1, up_ne b1]) (fun u b1 b2 => by
              rw [← hY6]
              by_cases u8 : u = 8
              · rw [up_hit rfl u8, up_hit rfl u8]
              · rw [up_col u8, up_col b1, up_col b2, up_col u8])
            refine ⟨up X5 2 3 (j5 + 1), EX 1 _ _ b6.2.1.1 tk (by rw [up_row (by omega)]; exact b6.2.1.1) (if_neg (by decide)), Or.inl ⟨Y6, j5 + 1, n5, v5, N, fC', fG' + 1, ?_, rr7, by omega, ⟨by rw [← hY6, up_col (by omega), up_hit rfl rfl], by rw [← hY6, up_col (by omega), up_col (by omega), up_hit rfl rfl], fun u hu => by rw [← hY6, up_row (by omega), up_row (by omega), up_row (by omega), b9.2.2 u (by omega), e7 u (by omega)]⟩, by omega, XG_trans xg (XG_2 (n := n) (by omega)) (Int.le_refl n), YT_trans yt4 (YT_trans b13 (n' := n) ⟨fun p b1 _ _ _ => by rw [← hY6, up_ne b1, up_ne b1, up_ne b1], fun u b0 _ _ _ b1 b2 => by rw [← hY6, up_col b0, up_col b1, up_col b2], fun u _ => by rw [← hY6, up_row (by omega), up_row (by omega), up_row (by omega)]⟩ (Int.le_refl n)) (Int.le_refl n)⟩⟩
            rw [EA, b1, cl]
          · have c93 : c5 ≠ 93 := fun z => K6 (g5.2.2.2.2.2.2.1.2.2.1.mp z)
            have tk : To_takes N 6 X5 = some (0, X5) := by
              rcases takes_ok (N := N) b2 (k := 6) (by omega) with ⟨w, -⟩ | ⟨-, w⟩
              · exact absurd w K6
              · exact w
            have fx := (fail_ok (N := N) (w := 0) b2 (by omega)).1
            have fy := fails_ok (N := N) (w := 0) (p := X5 4 j5) b2.2.2.2 n5'.2.2.2.2 (by omega)
            obtain ⟨F1, F2, F3⟩ := FD_of (w := 0) b2 RF_refl b2.2.2.2 (by omega)
            have cs := b6.2.2.2.1
            refine ⟨_, EX 0 X5 _ b6.2.1.1 tk b6.2.1.1 (by rw [if_pos rfl]; exact fx), Or.inr ⟨up Y5 0 9 (1 + 8 * X5 4 j5 + 0), ?_, F1, ⟨F1.1, by rw [up_row (by omega)]; exact b6.2.1.1, by rw [up_row (by omega)]; exact b6.2.1.2.1, by rw [up_row (by omega), cs.1]; omega, by rw [up_row (by omega), cs.1]; omega⟩, XG_trans (XG_le xg nn.2.1.1) (XG_2 (n := 0) (by omega)) (by omega), YT_trans (YT_le yt4 nn.2.1.1) (YT_trans (YT_le b14 nn.2.1.1) (YT_G (YG_RF F2)) (by omega)) (by omega)⟩⟩
            rw [EA, b1, tQ_out g5 (by omega) (Or.inl c93), tR_no hN b2.1 b3 b4.1 b4.2, jfix_s]
            generalize jfix fG' (m_tested_L12 N) = kk
            unfold m_tested_L12 jb1
            dsimp only
            rw [if_pos rfl, i5, Option.bind_some, if_neg (show ¬ (1 : Int) = 0 by decide), g5.1, Option.bind_some]
            dsimp only
            rw [b3, fy, Option.bind_some]
            dsimp only
            rw [jchk_pos (Or.inl rfl)]
        · exact ⟨X5, EX 0 X5 X5 b2.2.1.2.1 (takes_F b2.2.1.1 (by omega)) b2.2.1.2.1 (by rw [if_pos rfl]; exact fail_F b2.2.1.1), Or.inr ⟨Y5, by rw [EA]; exact b1, FO_ahead (XG_2 (by omega)) (YT_le yt4 nn.2.1.1) b2⟩⟩
    · have c91 : c ≠ 91 := fun z => K5 (k5.mp z)
      obtain ⟨r, X', Y', o1, o2, o3⟩ := cmp_ok hN rr2 hk hn (by omega)
      have EX : Rr_readFact_B N rt rf deep X = some (0, X') := by
        rw [← o1]
        unfold Rr_readFact_B jlt
        rw [jchk_pos h.2.1.1, lk, Option.bind_some]
        dsimp only
        rw [if_neg K25, if_neg K5]
        rfl
      have r01 : r = 0 ∨ r = 1 := by
        rcases o3 with w | w
        · exact Or.inr w.1
        · exact Or.inl w.1
      have EA : tA N (f0 + 1 + 1) h12 Y = if r = 0 then some (0, Y') else tP N N N h12 Y' := by
        unfold tA
        rw [jfix_s, show jfix (f0 + 1) (m_fact_L2 N) = m_fact_L2 N (jfix f0 (m_fact_L2 N)) from rfl]
        generalize jfix f0 (m_fact_L2 N) = kk
        unfold jb1
        have E1 : m_fact_L2 N kk (0, Y2) = some (r, Y') := by
          unfold m_fact_L2 jb1
          dsimp only
          rw [if_pos rfl, o2, Option.bind_some]
          dsimp only
          rw [jchk_pos r01]
        have E2 : m_fact_L2 N (m_fact_L2 N kk) (1, Y) = some (r, Y') := by
          rw [← E1]
          generalize m_fact_L2 N kk = k2
          unfold m_fact_L2 jb1
          dsimp only
          rw [if_neg (show ¬ (1 : Int) = 0 by decide), s1, Option.bind_some]
          dsimp only
          rw [wn0, Option.bind_some]
          dsimp only
          rw [if_pos rfl, if_neg c91]
        rw [E2, Option.bind_some]
      refine ⟨X', EX, ?_⟩
      rcases o3 with ⟨z1, j5, n5, v5, z2, z3, z4, z5, z6, z7⟩ | ⟨z1, z2⟩
      · have n5' := RR_nums z2
        have z7' := z7.1 7 (by omega) (by omega) (by omega)
        refine Or.inl ⟨Y', j5, n5, v5, N, N, fG, by rw [EA, if_neg (show ¬ r = 0 by omega), hh12], z2, by omega, ⟨by rw [z7.2.1 13 (by omega) (by omega) (by omega) (by omega), y13], by rw [z7.2.1 16 (by omega) (by omega) (by omega) (by omega), y16], fun u _ => by rw [z7', y7]⟩, by omega, z6, YT_trans yt2 (YT_G z7) (Int.le_refl n)⟩
      · exact Or.inr ⟨Y', by rw [EA, if_pos z1], FO_ahead XG_refl (YT_le yt2 nn.2.1.1) z2⟩
theorem test_ok {N : Nat} (hN : 1000 ≤ N) {rt rf : Int → jMem → Option (Int × jMem)} {deep : Int} (hdp : 0 ≤ deep ∧ deep ≤ 10) (HF : FactOK N rf deep) : TestOK N (fun a M => Rr_readTest_B N rt rf a M) deep := by
  intro X Y m j q t n v a k s ts fF fG h hk hn hl hd ho hs hsj htop hF hG
  have nn := RR_nums h
  obtain ⟨X1, q1, q2'⟩ := HF X Y m j q t n v a k s ts fF fG h hk hn (by omega) hd ho hs hsj hF hG
  have EX : ∀ r3, X1 12 0 = 2 → To_looked N X1 = some r3 → Rr_readTest_B N rt rf deep X = jfix N (Rr_readTest_L18 N rt rf deep) (0, r3, 0, X1) := fun r3 e1 e2 => by
    unfold Rr_readTest_B jbv
    rw [q1, Option.bind_some]
    dsimp only
    rw [jchk_pos e1, e2, Option.bind_some]
  rcases q2' with ⟨Y5, j5, n5, v5, fL, fC5, fG5, b1, b2, b3, b4, b5, b6, b7⟩ | ⟨Y5, b1, b2⟩
  · have n5' := RR_nums b2
    have cs := b2.2.2.2.1
    have top5 : s = 0 ∨ Y5 7 (s - 1) = 91 := by
      rcases htop with w | w
      · exact Or.inl w
      · exact Or.inr (by rw [b4.2.2 (s - 1) (by omega)]; exact w)
    have ps := tP_stop (N := N) (fL := fL) (fC := fC5) (h12 := jfix fG5 (m_tested_L12 N)) (Y := Y5) (by omega) (by rw [b4.2.1]; exact stg_top (by omega) top5) (by omega)
    obtain ⟨X', o1, o2⟩ := tloop_ok hN (rt := rt) HF hdp hk hl hs 400 X1 X1 Y5 j5 n5 v5 0 0 0 (true :: ts) (true :: ts) N fC5 fG5 (by omega) (by omega) b2 (Or.inl ⟨rfl, rfl, rfl⟩) (Or.inl ⟨rfl, rfl⟩) (by omega) b4.1 (by rw [b4.2.1]; omega) (by omega) (fun e => by omega) (fun e => by omega) top5 (fun _ _ _ => rfl) (by rw [cs.1]; omega) (by omega) (by omega) (by omega)
    refine ⟨X', ?_, TE_ahead (by rw [b1, ps]) b6 b7 b4.2.2 nn.2.1.1 (by omega) (by omega) (by omega) o2⟩
    show Rr_readTest_B N rt rf deep X = some (0, X')
    rw [EX _ b2.2.1.1 (looked_ok (N := N) b2.1)]
    exact o1
  · obtain ⟨X', d1, d2, d3, d4⟩ := tloop_F (N := N) (G := N) (rt := rt) (rf := rf) (a1 := deep) (x4 := 0) (i := 0) b2.2.1 nn.2.2.1.1 nn.2.2.2.1 (by omega)
    refine ⟨X', ?_, Or.inr ⟨Y5, b1, FO_more b2 d2 d3 d4⟩⟩
    show Rr_readTest_B N rt rf deep X = some (0, X')
    rw [EX 0 b2.2.1.2.1 (looked_F b2.2.1.1)]
    exact d1
theorem rr_ok {N : Nat} (hN : 1000 ≤ N) : ∀ nf : Nat, (∀ deep : Int, 0 ≤ deep ∧ deep ≤ 10 → 2 * (10 - deep) + 1 ≤ (nf : Int) → FactOK N (Rr_rr N nf 1) deep) ∧ (∀ deep : Int, 0 ≤ deep ∧ deep ≤ 10 → 2 * (10 - deep) + 2 ≤ (nf : Int) → TestOK N (Rr_rr N nf 0) deep) := by
  intro nf
  induction nf with
  | zero => exact ⟨fun deep h0 h1 => by omega, fun deep h0 h1 => by omega⟩
  | succ nf ih =>
    refine ⟨fun deep h0 h1 => ?_, fun deep h0 h1 => ?_⟩
    · exact fact_ok hN (rt := Rr_rr N nf 0) (rf := Rr_rr N nf 1) h0 (fun hd => ⟨ih.2 (deep + 1) (by omega) (by omega), ih.1 (deep + 1) (by omega) (by omega)⟩)
    · exact test_ok hN (rt := Rr_rr N nf 0) (rf := Rr_rr N nf 1) h0 (ih.1 deep h0 (by omega))
