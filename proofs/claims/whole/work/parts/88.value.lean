/-! a value of a RULE on both sides -/
theorem digit_iff {X Y : jMem} {m j : Int} (h : At X Y m j) : (X 4 j < Y 0 1 ∧ Dg (Y 1 (X 4 j))) ↔ (X 3 j = 1 ∨ X 3 j = 2) := by
  rcases At_pl h with ⟨z1, z2, z3⟩ | ⟨z1, z2, z3⟩
  · constructor
    · intro w; omega
    · intro w; omega
  · obtain ⟨⟨-, -, -, -, e⟩, -, -, h4, -⟩ := h
    obtain ⟨-, -, q, tk, -⟩ := e j h4.1 z1
    rcases tk with ⟨a, b, k1, -⟩ | ⟨a, -, k1⟩ | ⟨a, b, k1⟩
    · refine ⟨fun _ => ?_, fun _ => ⟨z3, a⟩⟩
      rw [k1]
      by_cases c : 5 < q - X 4 j
      · rw [if_pos c]; exact Or.inr rfl
      · rw [if_neg c]; exact Or.inl rfl
    · constructor
      · rintro ⟨-, w⟩
        exfalso
        unfold Dg at w; unfold Lt at a; omega
      · intro w
        exfalso
        rcases k1 with ⟨i, i0, -, i2⟩ | ⟨-, k⟩ <;> omega
    · constructor
      · rintro ⟨-, w⟩; exact absurd w a
      · intro w
        exfalso
        have sg := sgk_in (Y 1 (X 4 j))
        rcases k1 with k | k | k <;> omega
theorem tp_5 {k : Nat} (hk : k ≤ 5) : tp k ≤ 100000 := by
  have : ∀ j : Fin 6, tp j.val ≤ 100000 := by decide
  exact this ⟨k, by omega⟩
theorem numval {X Y : jMem} {m j : Int} (h : At X Y m j) (hk : X 3 j = 1) : 0 ≤ X 5 j ∧ X 5 j ≤ 99999 := by
  have jm := kind_end h (by omega)
  obtain ⟨⟨-, -, -, -, e⟩, -, -, h4, -⟩ := h
  obtain ⟨-, -, q, tk, -⟩ := e j h4.1 jm
  rcases tk with ⟨a, b, k1, k2⟩ | ⟨a, -, k1⟩ | ⟨a, b, k1⟩
  · obtain ⟨b1, b2, b3, b4⟩ := b
    have m2 := jmin_l (a := q - X 4 j) (b := 5)
    have vb := dv_in (T := Y 1) (p := X 4 j) (jmin (q - X 4 j) 5).toNat (fun i hi => b3 _ (by omega) (by omega))
    have tpb : tp (jmin (q - X 4 j) 5).toNat ≤ 100000 := tp_5 (by omega)
    rw [← k2] at vb
    omega
  · exfalso
    rcases k1 with ⟨i, i0, -, i2⟩ | ⟨-, k⟩ <;> omega
  · exfalso
    have sg := sgk_in (Y 1 (X 4 j))
    rcases k1 with k | k | k <;> omega
theorem counted_ok {N : Nat} {X Y : jMem} {m j v : Int} (h : RD X Y m j) (hj : j < m) (h0 : X 12 0 = 2) (h2 : X 12 2 = v) (hv : 0 ≤ v ∧ v < 60) : Rr_takeCounted N X = some (0, up (up X 12 2 (v + 1)) 2 3 (j + 1)) := by
  have r : RD (up X 12 2 (v + 1)) Y m j := RD_w h (fun p a b => up_ne (by omega)) rfl (fun _ _ => rfl)
  unfold Rr_takeCounted jlt jbv
  dsimp only
  rw [h2, w32_id (by omega), up_hit rfl rfl, if_neg (by omega), up_col (by omega), jchk_pos h0, move_ok r hj, Option.bind_some]
theorem counted_60 {N : Nat} {X Y : jMem} {m j : Int} (h : RD X Y m j) (h0 : X 12 0 = 2) (h2 : X 12 2 = 60) : Rr_takeCounted N X = some (0, up (up X 12 2 61) 2 4 (1 + 8 * X 4 j + 3)) := by
  have r : RD (up X 12 2 61) Y m j := RD_w h (fun p a b => up_ne (by omega)) rfl (fun _ _ => rfl)
  have f := (fail_ok (N := N) (w := 3) r (by omega)).1
  rw [up_row (q' := 4) (by omega)] at f
  unfold Rr_takeCounted jlt jbv
  dsimp only
  rw [h2, w32_id (by omega), show (60 : Int) + 1 = 61 from rfl, up_hit rfl rfl, if_pos (by omega), up_col (by omega), jchk_pos h0, f, Option.bind_some]
theorem makes_ok {N : Nat} {Y : jMem} {v p : Int} (h : Y 0 12 = v) (hv : 0 ≤ v ∧ v < 60) : m_makes N p Y = some (1, up Y 0 12 (v + 1)) := by
  unfold m_makes jlt
  rw [h, if_neg (by omega), w32_id (by omega)]
theorem makes_60 {N : Nat} {Y : jMem} {p : Int} (h : Y 0 12 = 60) (h9 : Y 0 9 = 0) (hp : 0 ≤ p ∧ p ≤ 400) : m_makes N p Y = some (0, up Y 0 9 (1 + 8 * p + 3)) := by
  unfold m_makes jb1
  rw [if_pos h, fails_ok h9 hp (by omega), Option.bind_some]
  dsimp only
  rw [jchk_pos (Or.inl rfl)]
theorem vtail_ok {N : Nat} {X Y Y4 : jMem} {m j q t n v a c s w : Int} {ts ts' : List Bool} (h : RR X Y m j q t n v a ts) (hn : n < 400) (hj : j < m) (hv : v < 60) (hs : 0 ≤ s ∧ s < 16) (hw : 0 ≤ w ∧ w ≤ 99999) (hc : CR c (s + 16 * w)) (ht : tyS c ts = some ts')
    (f : ∀ p, p ≠ 0 → Y4 p = Y p) (g : ∀ k, k ≠ 8 → k ≠ 9 → k ≠ 10 → k ≠ 12 → Y4 0 k = Y 0 k) (g12 : Y4 0 12 = v + 1) (g9 : Y4 0 9 = 0) (at4 : At X Y4 m (j + 1)) :
    ∃ X1 X' Y', Ru_push N q c X = some (0, X1) ∧ Rr_takeCounted N X1 = some (0, X') ∧ m_puts N s w Y4 = some (0, Y') ∧ RR X' Y' m (j + 1) q t (n + 1) (v + 1) a ts' ∧ XG q n X X' ∧ YG t n Y Y' := by
  have nn := RR_nums h
  have r12 : RD (up X 12 2 (v + 1)) Y m j := RD_w h.1 (fun p a b => up_ne (by omega)) rfl (fun _ _ => rfl)
  have rd0 : RD (up (up X 12 2 (v + 1)) 2 3 (j + 1)) Y4 m (j + 1) := RD_next r12 (At_X at4 (fun p hp => up_ne (by omega))) g9
  have v0 := h.2.2.1
  have rr0 : RR (up (up X 12 2 (v + 1)) 2 3 (j + 1)) Y4 m (j + 1) q t n (v + 1) a ts := RR_w h rd0 (fun p b1 b2 => by rw [up_ne b1, up_ne b2]) (by rw [up_row (by omega), up_col (by omega)]) (by rw [up_row (by omega), up_col (by omega)]) (by rw [up_row (by omega), up_hit rfl rfl]) (f 2 (by omega)) (f 3 (by omega)) (g 11 (by omega) (by omega) (by omega) (by omega)) g12 (by omega)
  obtain ⟨X', Y', e1, e2, e3, e4, e5, -, -⟩ := emitR (N := N) rr0 hn hs hw hc ht
  obtain ⟨X1, Y1, p1, -, p3, -, -, p6, -⟩ := emitR (N := N) h hn hs hw hc ht
  have e1' := push_mv (push_mv p1 (x := 12) (y := 2) (z := v + 1) (by omega) (by omega)) (x := 2) (y := 3) (z := j + 1) (by omega) (by omega)
  rw [e1, Option.some.injEq, Prod.mk.injEq] at e1'
  refine ⟨X1, X', Y', p1, ?_, e2, e3, ⟨fun p b1 b2 b3 b4 => by rw [e4.1 p b1 b2 b3 b4, up_ne b1, up_ne b2], by rw [e4.2.1, up_row (by omega), up_row (by omega)], fun i hi => by rw [e4.2.2 i hi, up_row (by omega), up_row (by omega)]⟩, ⟨fun p b1 b2 b3 => by rw [e5.1 p b1 b2 b3, f p b1], fun k b1 b2 b3 b4 => by rw [e5.2.1 k b1 b2 b3 b4, g k b1 b2 b3 b4], fun i hi => by rw [e5.2.2 i hi, f 2 (by omega)]⟩⟩
  rw [counted_ok p3.1 hj p3.2.1.1 p3.2.2.1.1 (by omega), e1'.2]
theorem vtail_60 {N : Nat} {X Y : jMem} {m j q t n a c s w : Int} {ts ts' : List Bool} (h : RR X Y m j q t n 60 a ts) (hn : n < 400) (hs : 0 ≤ s ∧ s < 16) (hw : 0 ≤ w ∧ w ≤ 99999) (hc : CR c (s + 16 * w)) (ht : tyS c ts = some ts') :
    ∃ X1 X', Ru_push N q c X = some (0, X1) ∧ Rr_takeCounted N X1 = some (0, X') ∧ X' 2 4 = 1 + 8 * X 4 j + 3 ∧ FZ q X' ∧ XG q 0 X X' := by
  have nn := RR_nums h
  obtain ⟨X1, Y1, p1, -, p3, p4, -, p6, -⟩ := emitR (N := N) h hn hs hw hc ht
  have c60 := counted_60 (N := N) p3.1 p3.2.1.1 p3.2.2.1.1
  rw [p6 4 (by omega) (by omega)] at c60
  have cs := p3.2.2.2.1
  refine ⟨X1, _, p1, c60, up_hit rfl rfl, ⟨by rw [up_hit rfl rfl]; omega, by rw [up_row (by omega), up_col (by omega)]; exact p3.2.1.1, by rw [up_row (by omega), up_col (by omega)]; exact p3.2.1.2.1, by rw [up_row (by omega), up_row (by omega), cs.1]; omega, by rw [up_row (by omega), up_row (by omega), cs.1]; omega⟩, XG_trans (XG_le p4 (by omega)) (XG_trans (XG_12 (n := 0) (by omega)) (XG_2 (n := 0) (by omega)) (by omega)) (by omega)⟩
theorem FO_more {q t : Int} {X Y X' Y' X'' : jMem} (h : FO q t X Y X' Y') (f : FZ q X'') (g : XG q 0 X' X'') (e : X'' 2 = X' 2) : FO q t X Y X'' Y' := ⟨FD_w h.1 e rfl, f, XG_trans h.2.2.1 g (by omega), h.2.2.2⟩
theorem FO_ahead {q t : Int} {X Y X1 Y1 X' Y' : jMem} (g : XG q 0 X X1) (y : YT t 0 Y Y1) (h : FO q t X1 Y1 X' Y') : FO q t X Y X' Y' := ⟨h.1, h.2.1, XG_trans g h.2.2.1 (by omega), YT_trans y h.2.2.2 (by omega)⟩
/-- both fail at the token where both stand -/
theorem FO_here {N : Nat} {X Y Y' : jMem} {m j q t n v a w : Int} {ts : List Bool} (h : RR X Y m j q t n v a ts) (f : RF Y Y') (h9 : Y' 0 9 = 0) (hw : 0 ≤ w ∧ w ≤ 7) : To_fail N w X = some (0, up X 2 4 (1 + 8 * X 4 j + w)) ∧ m_fails N w (X 4 j) Y' = some (0, up Y' 0 9 (1 + 8 * X 4 j + w)) ∧ FO q t X Y (up X 2 4 (1 + 8 * X 4 j + w)) (up Y' 0 9 (1 + 8 * X 4 j + w)) := by
  have nn := RR_nums h
  have cs := h.2.2.2.1
  obtain ⟨F1, F2, F3⟩ := FD_of (w := w) h.1 f h9 hw
  refine ⟨(fail_ok h.1 hw).1, fails_ok h9 nn.2.2.2.2 hw, F1, ⟨F1.1, by rw [up_row (by omega)]; exact h.2.1.1, by rw [up_row (by omega)]; exact h.2.1.2.1, by rw [up_row (by omega), cs.1]; omega, by rw [up_row (by omega), cs.1]; omega⟩, XG_2 (by omega), YT_G (YG_RF F2)⟩
theorem wordHere_ok {N : Nat} (hN : 1000 ≤ N) {X Y : jMem} {m j : Int} (h : At X Y m j) (h8 : Y 0 8 = X 4 j) : ∃ r, m_wordHere N Y = some (r, Y) ∧ ((26 ≤ X 3 j ∧ r = X 3 j - 26) ∨ (X 3 j < 26 ∧ r = -1)) := by
  have kp : X 3 j ≤ 37 := by
    rcases At_pl h with z | z
    · omega
    · exact (kind_pos h z.1).2
  have w0 := isW hN h h8 (i := 9) (by omega)
  rw [show wcode 9 = 422826304613 from rfl] at w0
  have w1 := isW hN h h8 (i := 10) (by omega)
  rw [show wcode 10 = 444301537133 from rfl] at w1
  have w2 := isW hN h h8 (i := 11) (by omega)
  rw [show wcode 11 = 1751478899 from rfl] at w2
  have w3 := isW hN h h8 (i := 12) (by omega)
  rw [show wcode 12 = 6842739 from rfl] at w3
  have w4 := isW hN h h8 (i := 13) (by omega)
  rw [show wcode 13 = 495924372852 from rfl] at w4
  have w5 := isW hN h h8 (i := 14) (by omega)
  rw [show wcode 14 = 1936684402 from rfl] at w5
  have w6 := isW hN h h8 (i := 15) (by omega)
  rw [show wcode 15 = 1718971500 from rfl] at w6
  have w7 := isW hN h h8 (i := 16) (by omega)
  rw [show wcode 16 = 7106423 from rfl] at w7
  have w8 := isW hN h h8 (i := 17) (by omega)
  rw [show wcode 17 = 448378008179 from rfl] at w8
  have w9 := isW hN h h8 (i := 18) (by omega)
  rw [show wcode 18 = 1752132965 from rfl] at w9
  have w10 := isW hN h h8 (i := 19) (by omega)
  rw [show wcode 19 = 6582905 from rfl] at w10
  have w11 := isW hN h h8 (i := 20) (by omega)
  rw [show wcode 20 = 2036687218 from rfl] at w11
  unfold m_wordHere jb1
  rcases w0 with ⟨a0, b0⟩ | ⟨a0, b0⟩
  · rw [b0, Option.bind_some]; dsimp only; rw [if_neg (show ¬ (1 : Int) = 0 by decide)]; exact ⟨_, rfl, Or.inl ⟨by omega, by omega⟩⟩
  rw [b0, Option.bind_some]; dsimp only; rw [if_pos rfl]
  rcases w1 with ⟨a1, b1⟩ | ⟨a1, b1⟩
  · rw [b1, Option.bind_some]; dsimp only; rw [if_neg (show ¬ (1 : Int) = 0 by decide)]; exact ⟨_, rfl, Or.inl ⟨by omega, by omega⟩⟩
  rw [b1, Option.bind_some]; dsimp only; rw [if_pos rfl]
  rcases w2 with ⟨a2, b2⟩ | ⟨a2, b2⟩
  · rw [b2, Option.bind_some]; dsimp only; rw [if_neg (show ¬ (1 : Int) = 0 by decide)]; exact ⟨_, rfl, Or.inl ⟨by omega, by omega⟩⟩
  rw [b2, Option.bind_some]; dsimp only; rw [if_pos rfl]
  rcases w3 with ⟨a3, b3⟩ | ⟨a3, b3⟩
  · rw [b3, Option.bind_some]; dsimp only; rw [if_neg (show ¬ (1 : Int) = 0 by decide)]; exact ⟨_, rfl, Or.inl ⟨by omega, by omega⟩⟩
  rw [b3, Option.bind_some]; dsimp only; rw [if_pos rfl]
  rcases w4 with ⟨a4, b4⟩ | ⟨a4, b4⟩
  · rw [b4, Option.bind_some]; dsimp only; rw [if_neg (show ¬ (1 : Int) = 0 by decide)]; exact ⟨_, rfl, Or.inl ⟨by omega, by omega⟩⟩
  rw [b4, Option.bind_some]; dsimp only; rw [if_pos rfl]
  rcases w5 with ⟨a5, b5⟩ | ⟨a5, b5⟩
  · rw [b5, Option.bind_some]; dsimp only; rw [if_neg (show ¬ (1 : Int) = 0 by decide)]; exact ⟨_, rfl, Or.inl ⟨by omega, by omega⟩⟩
  rw [b5, Option.bind_some]; dsimp only; rw [if_pos rfl]
  rcases w6 with ⟨a6, b6⟩ | ⟨a6, b6⟩
  · rw [b6, Option.bind_some]; dsimp only; rw [if_neg (show ¬ (1 : Int) = 0 by decide)]; exact ⟨_, rfl, Or.inl ⟨by omega, by omega⟩⟩
  rw [b6, Option.bind_some]; dsimp only; rw [if_pos rfl]
  rcases w7 with ⟨a7, b7⟩ | ⟨a7, b7⟩
  · rw [b7, Option.bind_some]; dsimp only; rw [if_neg (show ¬ (1 : Int) = 0 by decide)]; exact ⟨_, rfl, Or.inl ⟨by omega, by omega⟩⟩
  rw [b7, Option.bind_some]; dsimp only; rw [if_pos rfl]
  rcases w8 with ⟨a8, b8⟩ | ⟨a8, b8⟩
  · rw [b8, Option.bind_some]; dsimp only; rw [if_neg (show ¬ (1 : Int) = 0 by decide)]; exact ⟨_, rfl, Or.inl ⟨by omega, by omega⟩⟩
  rw [b8, Option.bind_some]; dsimp only; rw [if_pos rfl]
  rcases w9 with ⟨a9, b9⟩ | ⟨a9, b9⟩
  · rw [b9, Option.bind_some]; dsimp only; rw [if_neg (show ¬ (1 : Int) = 0 by decide)]; exact ⟨_, rfl, Or.inl ⟨by omega, by omega⟩⟩
  rw [b9, Option.bind_some]; dsimp only; rw [if_pos rfl]
  rcases w10 with ⟨a10, b10⟩ | ⟨a10, b10⟩
  · rw [b10, Option.bind_some]; dsimp only; rw [if_neg (show ¬ (1 : Int) = 0 by decide)]; exact ⟨_, rfl, Or.inl ⟨by omega, by omega⟩⟩
  rw [b10, Option.bind_some]; dsimp only; rw [if_pos rfl]
  rcases w11 with ⟨a11, b11⟩ | ⟨a11, b11⟩
  · rw [b11, Option.bind_some]; dsimp only; rw [if_neg (show ¬ (1 : Int) = 0 by decide)]; exact ⟨_, rfl, Or.inl ⟨by omega, by omega⟩⟩
  rw [b11, Option.bind_some]; dsimp only; rw [if_pos rfl]
  exact ⟨_, rfl, Or.inr ⟨by omega, rfl⟩⟩
theorem value_ok {N : Nat} (hN : 1000 ≤ N) {X Y : jMem} {m j q t n v a : Int} {ts : List Bool} (h : RR X Y m j q t n v a ts) (hnj : n ≤ j) (hl : ts.length < 40) :
    ∃ (r : Int) (X' Y' : jMem), Rr_readValue N X = some (0, X') ∧ m_value N Y = some (r, Y') ∧ ((r = 1 ∧ RR X' Y' m (j + 1) q t (n + 1) (v + 1) a (false :: ts) ∧ XG q n X X' ∧ YG t n Y Y') ∨ (r = 0 ∧ FO q t X Y X' Y')) := by
  have nn := RR_nums h
  obtain ⟨rd, ⟨a1, a2, a3, a4, a5, a6⟩, ⟨b1, b2, b3, b4⟩, cs, ca, ty⟩ := id h
  have lk := looked_ok (N := N) rd
  obtain ⟨c, s1, -⟩ := see_ok hN rd.1
  have rd2 := RD_see rd
  generalize hY2 : up Y 0 8 (X 4 j) = Y2 at s1 rd2
  have f2 : RF Y Y2 := by rw [← hY2]; exact RF_up8
  have y8 : Y2 0 8 = X 4 j := by rw [← hY2, up_hit rfl rfl]
  have y1 : Y2 1 = Y 1 := f2.1 1 (by omega)
  have y01 : Y2 0 1 = Y 0 1 := f2.2 1 (by omega) (by omega) (by omega)
  have y12 : Y2 0 12 = v := by rw [f2.2 12 (by omega) (by omega) (by omega)]; exact b2
  obtain ⟨d, d1, d2⟩ := isDigitY (N := N) (Y := Y2) (p := X 4 j) (by omega) (by have := rd2.1.2.1; omega)
  have di := digit_iff rd2.1
  have hd : (d = 1 ∧ (X 3 j = 1 ∨ X 3 j = 2)) ∨ (d = 0 ∧ ¬ (X 3 j = 1 ∨ X 3 j = 2)) := by
    rcases d2 with ⟨w1, w2⟩ | ⟨w1, w2⟩
    · exact Or.inl ⟨w1, di.mp w2⟩
    · exact Or.inr ⟨w1, fun z => w2 (di.mpr z)⟩
  have kp : X 3 j ≤ 37 := by
    rcases At_pl rd.1 with z | z
    · omega
    · exact (kind_pos rd.1 z.1).2
  have tyn : ∀ u : Int, 0 ≤ u ∨ u < -25 → tyS u ts = some (false :: ts) := fun u hu => by
    unfold tyS; rw [if_pos hu, if_pos hl]
  unfold Rr_readValue m_value jlt jb1 jbv
  rw [jchk_pos a1, lk, Option.bind_some, s1, Option.bind_some]
  dsimp only
  rw [y8, d1, Option.bind_some, a2, jchk_pos a1, jchk_pos a1, jchk_pos a1, jchk_pos nn.2.2.2.1, jchk_pos a1]
  rcases hd with ⟨k1, k2⟩ | ⟨k1, k2⟩
  · rw [if_neg (show ¬ d = 0 by omega)]
    obtain ⟨nv, r, X3, Y3, o1, o2, o3, o4, o5⟩ := num_ok hN (lo := 0) (hi := 99999) rd2
    rw [o2, Option.bind_some]
    dsimp only
    by_cases c2 : X 3 j = 2
    · rw [if_pos c2]
      rcases o5 with ⟨-, -, z, -⟩ | ⟨z1, z2, z3, -⟩
      · omega
      · have fx := (fail_ok (N := N) (w := 1) rd2 (by omega)).1
        have ex : X3 = up X 2 4 (1 + 8 * X 4 j + 1) := by
          unfold To_takeNumber jlt jbv at o1
          rw [looked_ok (N := N) rd2, Option.bind_some] at o1
          dsimp only at o1
          rw [if_neg (show ¬ X 3 j = 1 by omega), if_pos c2, rd2.2.1, jchk_pos (by omega), if_pos c2, fx, Option.bind_some, Option.some.injEq, Prod.mk.injEq] at o1
          exact o1.2.symm
        rw [fx, Option.bind_some, if_pos z1]
        dsimp only
        refine ⟨_, _, _, rfl, rfl, Or.inr ⟨rfl, ?_, ?_, XG_2 (by omega), YT_G (YG_RF (RF_trans f2 o4))⟩⟩
        · rw [← ex]; exact z3
        · exact ⟨by rw [← ex]; exact z3.1, by rw [up_row (by omega)]; exact a1, by rw [up_row (by omega)]; exact a2, by rw [up_row (by omega), cs.1]; omega, by rw [up_row (by omega), cs.1]; omega⟩
    · have c1 : X 3 j = 1 := by omega
      have nb := numval rd.1 c1
      have jm := kind_end rd.1 (show X 3 j ≠ 0 by omega)
      rw [if_neg c2, if_pos c1, rd.2.1, jchk_pos (by omega)]
      rcases o5 with ⟨z1, z2, z3, z4, z5, -⟩ | ⟨-, -, -, z⟩
      · rw [if_neg (show ¬ r = 0 by omega)]
        have y312 : Y3 0 12 = v := by rw [o4.2 12 (by omega) (by omega) (by omega)]; exact y12
        have at3 : At X Y3 m (j + 1) := At_X z2.1 (fun p hp => (o3 p (by omega)).symm)
        have f3 := RF_trans f2 o4
        have v10 : Y3 0 10 = X 5 j := by rw [z5, z4]
        have hc : CR (X 5 j) (0 + 16 * X 5 j) := Or.inl ⟨nb.1, nb.2, by omega⟩
        by_cases c60 : v = 60
        · subst c60
          obtain ⟨X1, X', t1, t2, t3, t4, t5⟩ := vtail_60 (N := N) h (show n < 400 by omega) (s := 0) (by omega) nb hc (tyn _ (Or.inl nb.1))
          rw [makes_60 y312 z2.2.2.2 (by omega), t1, Option.bind_some, Option.bind_some]
          dsimp only
          rw [t2, Option.bind_some, if_pos rfl]
          dsimp only
          refine ⟨_, _, _, rfl, rfl, Or.inr ⟨rfl, ⟨t4.1, by rw [up_hit rfl rfl, t3], by rw [t3]; omega⟩, t4, t5, YT_G (YG_RF (RF_trans f3 ⟨fun p hp => up_ne hp, fun k _ hk _ => up_col hk⟩))⟩⟩
        · obtain ⟨X1, X', Y', t1, t2, t3, t4, t5, t6⟩ := vtail_ok (N := N) (Y4 := up Y3 0 12 (v + 1)) h (show n < 400 by omega) jm (by omega) (s := 0) (by omega) nb hc (tyn _ (Or.inl nb.1)) (fun p hp => by rw [up_ne hp]; exact f3.1 p hp) (fun k b1 b2 b3 b4 => by rw [up_col b4]; exact f3.2 k b1 b2 b3) (up_hit rfl rfl) (by rw [up_col (by omega)]; exact z2.2.2.2) (by
            unfold At at at3 ⊢
            rw [up_ne (show (1 : Int) ≠ 0 by omega), up_col (show (1 : Int) ≠ 12 by omega), up_col (show (8 : Int) ≠ 12 by omega)]
            exact at3)
          rw [makes_ok y312 (by omega), t1, Option.bind_some, Option.bind_some]
          dsimp only
          rw [t2, Option.bind_some, if_neg (show ¬ (1 : Int) = 0 by decide), up_col (show (10 : Int) ≠ 12 by omega), v10, t3, Option.bind_some]
          exact ⟨_, _, _, rfl, rfl, Or.inl ⟨rfl, t4, t5, t6⟩⟩
      · exact absurd ⟨c1, nb⟩ z
  · obtain ⟨r, w1, w2⟩ := wordHere_ok hN rd2.1 y8
    rw [if_pos k1, w1, Option.bind_some]
    dsimp only
    rw [if_neg (show ¬ X 3 j = 2 by omega), if_neg (show ¬ X 3 j = 1 by omega)]
    rcases w2 with ⟨w2, w3⟩ | ⟨w2, w3⟩
    · have jm := kind_end rd.1 (show X 3 j ≠ 0 by omega)
      rw [if_neg (show ¬ X 3 j < 26 by omega), if_neg (show ¬ r < 0 by omega)]
      have hc : CR (-(X 3 j)) (1 + 16 * r) := Or.inr (Or.inl ⟨by omega, by omega, by omega⟩)
      unfold Ru_apply jbv
      rw [w32_id (x := -X 3 j) (by omega), jchk_pos nn.2.2.2.1]
      by_cases c60 : v = 60
      · subst c60
        obtain ⟨X1, X', t1, t2, t3, t4, t5⟩ := vtail_60 (N := N) h (show n < 400 by omega) (s := 1) (w := r) (by omega) (by omega) hc (tyn _ (Or.inr (by omega)))
        rw [makes_60 y12 rd2.2.2.2 (by omega), t1, Option.bind_some, Option.bind_some]
        dsimp only
        rw [Option.bind_some]
        dsimp only
        rw [t2, Option.bind_some, if_pos rfl]
        dsimp only
        refine ⟨_, _, _, rfl, rfl, Or.inr ⟨rfl, ⟨t4.1, by rw [up_hit rfl rfl, t3], by rw [t3]; omega⟩, t4, t5, YT_G (YG_RF (RF_trans f2 ⟨fun p hp => up_ne hp, fun k _ hk _ => up_col hk⟩))⟩⟩
      · have rd3 : RD X (up Y2 0 12 (v + 1)) m j := RD_w rd2 (fun _ _ _ => rfl) (up_ne (by omega)) (fun k hk => up_col (by omega))
        obtain ⟨Y4, p1, p2', p3, p4, p5⟩ := passWord_ok hN rd3 (by rw [up_col (by omega)]; exact y8) (by omega)
        obtain ⟨X1, X', Y', t1, t2, t3, t4, t5, t6⟩ := vtail_ok (N := N) (Y4 := Y4) h (show n < 400 by omega) jm (by omega) (s := 1) (w := r) (by omega) (by omega) hc (tyn _ (Or.inr (by omega))) (fun p hp => by rw [p2'.1 p hp, up_ne hp]; exact f2.1 p hp) (fun k b1 b2 b3 b4 => by rw [p2'.2 k b1 b2 b3, up_col b4]; exact f2.2 k b1 b2 b3) (by rw [p2'.2 12 (by omega) (by omega) (by omega), up_hit rfl rfl]) p3 p5
        rw [makes_ok y12 (by omega), t1, Option.bind_some, Option.bind_some]
        dsimp only
        rw [Option.bind_some]
        dsimp only
        rw [t2, Option.bind_some, if_neg (show ¬ (1 : Int) = 0 by decide), p1, Option.bind_some]
        dsimp only
        rw [t3, Option.bind_some]
        exact ⟨_, _, _, rfl, rfl, Or.inl ⟨rfl, t4, t5, t6⟩⟩
    · obtain ⟨u1, u2, u3⟩ := FO_here (N := N) (w := 0) h f2 rd2.2.2.2 (by omega)
      rw [if_pos (show X 3 j < 26 by omega), if_pos (show r < 0 by omega), u1, u2, Option.bind_some, Option.bind_some]
      dsimp only
      rw [jchk_pos (Or.inl rfl)]
      exact ⟨_, _, _, rfl, rfl, Or.inr ⟨rfl, u3⟩⟩
