/-! all clauses of a RULE, and the call -/
def YX (t : Int) (Y Y' : jMem) : Prop := ∃ Y1, YC t Y Y1 ∧ Y' = up Y1 0 1 0
theorem YX_ahead {t : Int} {Y Y1 Y' : jMem} (h : YC t Y Y1) (h' : YX t Y1 Y') : YX t Y Y' := by
  obtain ⟨Y2, a, b⟩ := h'
  exact ⟨Y2, YC_trans h a, b⟩
theorem rloop_ok {N : Nat} (hN : 1000 ≤ N) {q t : Int} : ∀ (d : Nat) (c : Int) (X Y : jMem) (m j n v a : Int) (ts : List Bool) (F G : Nat), c + (d : Int) = 12 → 0 ≤ c → d + 1 ≤ F → d + 2 ≤ G → RR X Y m j q t n v a ts → RC X Y q t c n → n ≤ j → Y 0 14 = c →
    ∃ (w g r : Int) (X' Yc Y' : jMem), jfix F (Rr_read_L24 N) (c, X) = some (w, X') ∧ m_clauseHere N Y = some (r, Yc) ∧ jfix G (m_readsAll_L35 N) (r, Yc) = some (g, Y') ∧ XC q X X' ∧ YX t Y Y' ∧ ((g = 1 ∧ w = 0 ∧ ∃ c' n', CS X' Y' q t n' ∧ RC X' Y' q t c' n') ∨ (g = 0 ∧ w ≠ 0 ∧ Y' 0 9 = w ∧ (-2147483648 ≤ w ∧ w < 2147480000))) := by
  intro d
  induction d with
  | zero =>
    intro c X Y m j n v a ts F G hd c0 hF hG h hc hn h14
    obtain ⟨f, rfl⟩ : ∃ f, F = f + 1 := ⟨F - 1, by omega⟩
    obtain ⟨r, X1, Y1, a1, a2, a3, a4, a5⟩ := wclause_ok hN h hc hn h14
    rcases a5 with ⟨-, z, -⟩ | ⟨z1, z2, z3⟩
    · omega
    · subst z1
      refine ⟨X1 2 4, 0, 0, X1, Y1, up Y1 0 1 0, ?_, a2, endY_F (by rw [z2.2.1]; exact z2.1) (by omega), a3, ⟨Y1, a4, rfl⟩, Or.inr ⟨rfl, z2.1, by rw [up_col (by omega)]; exact z2.2.1, z2.2.2⟩⟩
      rw [jfix_s, read_cB, a1]
      unfold jbv jlt
      dsimp only
      rw [if_pos (by rw [w32_id (by omega)]; omega), jchk_pos z3.2.1, endX_F z2.1, Option.bind_some]
      dsimp only
      rw [jchk_pos z3.2.1]
  | succ d ih =>
    intro c X Y m j n v a ts F G hd c0 hF hG h hc hn h14
    obtain ⟨f, rfl⟩ : ∃ f, F = f + 1 := ⟨F - 1, by omega⟩
    obtain ⟨g, rfl⟩ : ∃ g, G = g + 1 := ⟨G - 1, by omega⟩
    obtain ⟨r, X1, Y1, a1, a2, a3, a4, a5⟩ := wclause_ok hN h hc hn h14
    have n41 : ¬ 12 < w32 (c + 1) := by rw [w32_id (by omega)]; omega
    rcases a5 with ⟨z1, z2, z3, j', n', v', a', ts', z4, z5, z6, z7⟩ | ⟨z1, z2, z3⟩
    · subst z1
      have nn := RR_nums z6
      obtain ⟨c1, Y2, sg⟩ := sgn hN z6.1
      obtain ⟨c', s1, s2⟩ := see_ok hN z6.1.1
      rw [sg.1, Option.some.injEq, Prod.mk.injEq] at s1
      rw [← s1.1] at s2
      have rr2 : RR X1 Y2 m j' q t n' v' a' ts' := by rw [sg.2.2.1]; exact RR_see z6
      have f2 := sg.2.2.2.2.1
      have rd2 := sg.2.2.2.1
      have y8 := sg.2.2.2.2.2.1
      have k4 := sg.2.2.2.2.2.2.1.1
      have pl := At_pl z6.1.1
      have x12 := z6.2.1.1
      by_cases cs : X1 3 j' = 4
      · have rrn := RR_pass z6 sg (by omega) (by omega)
        have tx : To_takes N 4 X1 = some (1, up X1 2 3 (j' + 1)) := by
          rcases takes_ok (N := N) z6.1 (k := 4) (by omega) with ⟨-, w⟩ | ⟨w, -⟩
          · exact w
          · exact absurd cs w
        have fn : RF Y1 (up Y2 0 8 (X1 4 j' + 1)) := RF_trans f2 RF_up8
        have rcn : RC (up X1 2 3 (j' + 1)) (up Y2 0 8 (X1 4 j' + 1)) q t (c + 1) n' := RC_w z7 (up_row (by omega)) (fun p i hp _ _ => up_row (by omega)) (fun i _ _ => up_row (by omega)) (fun i _ _ => by rw [fn.1 4 (by omega)]) (by rw [fn.1 5 (by omega)]) (Int.le_refl n')
        obtain ⟨w, g', r', X', Yc, Y', b1, b2, b3, b4, b5, b6⟩ := ih (c + 1) (up X1 2 3 (j' + 1)) (up Y2 0 8 (X1 4 j' + 1)) m (j' + 1) n' v' a' ts' f g (by omega) (by omega) (by omega) (by omega) rrn rcn (by omega) (by rw [fn.2 14 (by omega) (by omega) (by omega)]; exact z3)
        refine ⟨w, g', 1, X', Y1, Y', ?_, a2, ?_, XC_trans a3 (XC_trans (XC_up (by omega)) b4), YX_ahead a4 (YX_ahead (YC_RF fn) b5), b6⟩
        · rw [jfix_s, read_cB, a1]
          generalize jfix f (Rr_read_L24 N) = kk at b1 ⊢
          unfold jb1 jlt
          dsimp only
          rw [if_neg n41, jchk_pos x12, tx, Option.bind_some]
          dsimp only
          rw [if_neg (show ¬ (1 : Int) = 0 by decide), w32_id (by omega)]
          exact b1
        · rw [jfix_s]
          generalize jfix g (m_readsAll_L35 N) = kk at b3 ⊢
          unfold m_readsAll_L35 jlt jb1
          dsimp only
          rw [if_neg (show ¬ (1 : Int) = 0 by decide), sg.1, Option.bind_some]
          dsimp only
          rw [if_pos (k4.mpr cs), y8, w32_id (by omega), b2, Option.bind_some]
          exact b3
      · have tx : To_takes N 4 X1 = some (0, X1) := by
          rcases takes_ok (N := N) z6.1 (k := 4) (by omega) with ⟨w, -⟩ | ⟨-, w⟩
          · exact absurd w cs
          · exact w
        have lk := looked_ok (N := N) z6.1
        have hend : c1 = -1 ↔ X1 3 j' = 0 := by
          rcases s2 with ⟨w1, w2⟩ | ⟨w1, w2⟩
          · rcases pl with p | p
            · exact ⟨fun _ => p.2.2, fun _ => w2⟩
            · omega
          · have kp := kind_pos z6.1.1 w1
            have hb := z6.1.1.2.2.1 (X1 4 j') (by omega) (by have := z6.1.1.2.1; omega)
            have : 0 ≤ jand (Y1 1 (X1 4 j')) 255 := by
              rw [and255 hb]
              by_cases cc : Y1 1 (X1 4 j') < 0
              · rw [if_pos cc]; omega
              · rw [if_neg cc]; omega
            omega
        have bodyY : ∀ r1 Y3, (if c1 = -1 then some ((0 : Int), Y2) else m_fails N 0 (Y2 0 8) Y2) = some (r1, Y3) → m_readsAll_L35 N (jfix g (m_readsAll_L35 N)) (1, Y1) = if Y3 0 9 = 0 then some (1, up Y3 0 1 0) else some (0, up Y3 0 1 0) := fun r1 Y3 e => by
          generalize jfix g (m_readsAll_L35 N) = kk
          unfold m_readsAll_L35 jlt jb1
          dsimp only
          rw [if_neg (show ¬ (1 : Int) = 0 by decide), sg.1, Option.bind_some]
          dsimp only
          rw [if_neg (fun z => cs (k4.mp z)), if_neg (show ¬ (1 : Int) = 0 by decide), sg.2.1, Option.bind_some]
          dsimp only
          by_cases cc : c1 = -1
          · rw [if_pos cc] at e
            cases e
            rw [if_pos cc, up_col (by omega)]
          · rw [if_neg cc] at e
            rw [if_neg cc, e, Option.bind_some]
            dsimp only
            rw [up_col (by omega)]
        have bodyX : ∀ X3, To_takeEnd N X1 = some (0, X3) → X3 12 0 = 2 → jfix (f + 1) (Rr_read_L24 N) (c, X) = some (X3 2 4, X3) := fun X3 e e' => by
          rw [jfix_s, read_cB, a1]
          generalize jfix f (Rr_read_L24 N) = kk
          unfold jb1 jbv jlt
          dsimp only
          rw [if_neg n41, jchk_pos x12, tx, Option.bind_some]
          dsimp only
          rw [if_pos rfl, jchk_pos x12, e, Option.bind_some]
          dsimp only
          rw [jchk_pos e']
        have yc2 : YC t Y Y2 := YC_trans a4 (YC_RF f2)
        by_cases ce : X1 3 j' = 0
        · have ex : To_takeEnd N X1 = some (0, X1) := by unfold To_takeEnd; rw [lk, Option.bind_some, if_pos ce]
          have by1 := bodyY 0 Y2 (by rw [if_pos (hend.mpr ce)])
          rw [if_pos rd2.2.2.2] at by1
          have c2 := rr2.2.2.2.1
          refine ⟨0, 1, 1, X1, Y1, up Y2 0 1 0, by rw [bodyX X1 ex x12, z6.1.2.2.1], a2, by rw [jfix_s]; exact by1, a3, ⟨Y2, yc2, rfl⟩, Or.inl ⟨rfl, rfl, c + 1, n', ⟨c2.1, by rw [up_row (by omega)]; exact c2.2.1, c2.2.2.1, fun i i0 i1 => by rw [up_row (by omega)]; exact c2.2.2.2 i i0 i1⟩, RC_w z7 rfl (fun _ _ _ _ _ => rfl) (fun _ _ _ => rfl) (fun i _ _ => by rw [up_row (by omega), f2.1 4 (by omega)]) (by rw [up_row (by omega), f2.1 5 (by omega)]) (Int.le_refl n')⟩⟩
        · obtain ⟨e1, e2, e3⟩ := FO_here (N := N) (w := 0) rr2 RF_refl rd2.2.2.2 (by omega)
          have ex : To_takeEnd N X1 = some (0, up X1 2 4 (1 + 8 * X1 4 j' + 0)) := by unfold To_takeEnd jbv; rw [lk, Option.bind_some, if_neg ce, e1, Option.bind_some]
          have by1 := bodyY 0 _ (by rw [if_neg (fun z => ce (hend.mp z)), y8, e2])
          have F := e3.1
          have nz : up Y2 0 9 (1 + 8 * X1 4 j' + 0) 0 9 ≠ 0 := by rw [F.2.1]; exact F.1
          rw [if_neg nz] at by1
          refine ⟨_, 0, 1, _, Y1, _, bodyX _ ex e3.2.1.2.1, a2, by rw [jfix_s]; exact by1, XC_trans a3 (XC_up (by omega)), ⟨_, YC_trans yc2 (YC_0 (by omega)), rfl⟩, Or.inr ⟨rfl, F.1, by rw [up_col (by omega)]; exact F.2.1, F.2.2⟩⟩
    · subst z1
      refine ⟨X1 2 4, 0, 0, X1, Y1, up Y1 0 1 0, ?_, a2, endY_F (by rw [z2.2.1]; exact z2.1) (by omega), a3, ⟨Y1, a4, rfl⟩, Or.inr ⟨rfl, z2.1, by rw [up_col (by omega)]; exact z2.2.1, z2.2.2⟩⟩
      rw [jfix_s, read_cB, a1]
      unfold jb1 jbv jlt
      dsimp only
      rw [if_neg n41, jchk_pos z3.2.1, takes_F z2.1 (by omega), Option.bind_some]
      dsimp only
      rw [if_pos rfl, jchk_pos z3.2.1, endX_F z2.1, Option.bind_some]
      dsimp only
      rw [jchk_pos z3.2.1]
theorem RuleR_part {X X' Y Y' : jMem} {r : Int} (h : RuleR X Y r) (hx : ∀ p, 177 + 6 * r ≤ p → p ≤ 177 + 6 * r + 4 → X' p = X p) (y5 : Y' 5 r = Y 5 r) (y4 : ∀ i, 48 * r ≤ i → i < 48 * r + 48 → Y' 4 i = Y 4 i) (y2 : ∀ i, 400 * r ≤ i → i < 400 * r + 400 → Y' 2 i = Y 2 i) : RuleR X' Y' r := by
  obtain ⟨a1, a2, a3, a4⟩ := h
  refine ⟨by rw [hx _ (by omega) (by omega), y5]; exact a1, by rw [y5]; exact a2, by rw [y5]; exact a3, fun i i0 i1 => ?_⟩
  rw [y5] at i1
  obtain ⟨a, b, e, b1, b2, b3, b4, b5, b6, b7, b8, b9, b10, b11, b12⟩ := a4 i i0 i1
  rw [hx (177 + 6 * r + 1) (by omega) (by omega), hx (177 + 6 * r + 2) (by omega) (by omega), hx (177 + 6 * r + 3) (by omega) (by omega), hx (177 + 6 * r + 4) (by omega) (by omega), y4 (48 * r + 4 * i) (by omega) (by omega), y4 (48 * r + 4 * i + 1) (by omega) (by omega), y4 (48 * r + 4 * i + 2) (by omega) (by omega), y4 (48 * r + 4 * i + 3) (by omega) (by omega)]
  exact ⟨a, b, e, b1, b2, b3, b4, b5, b6, b7, b8, b9, fun k k0 k1 => by rw [y2 (400 * r + k) (by omega) (by omega)]; exact b10 k k0 k1, b11, b12⟩
theorem RuleR_of {X Y : jMem} {q t c n : Int} (hq : q = 177 + 6 * t) (h1 : CS X Y q t n) (h2 : RC X Y q t c n) : RuleR X Y t := by
  subst hq
  obtain ⟨a1, a2, a3, a4⟩ := h2
  obtain ⟨c1, c2, c3, c4⟩ := h1
  refine ⟨by rw [a1, a2], by omega, by omega, fun i i0 i1 => ?_⟩
  rw [a2] at i1
  obtain ⟨a, b, e, b1, b2, b3, b4, b5, b6, b7, b8, b9, b10, b11⟩ := a4 i i0 i1
  exact ⟨a, b, e, b1, b2, b3, b4, b5, b6, b7, b8, by omega, fun k k0 k1 => c4 k (by omega) (by omega), b10, b11⟩
theorem rule_ok {N : Nat} (hN : 1000 ≤ N) : OK (x_rule N) (m_rule N) := by
  intro X Y h
  have h0 := h
  obtain ⟨hT, hU, hV, hA, hI⟩ := h
  obtain ⟨t1, t2, t3, t4⟩ := hT
  obtain ⟨u1, u2, u3, u4⟩ := hU
  generalize ht : Y 0 2 = t at u1 u2 u3 u4
  by_cases c6 : t = 6
  · unfold x_rule m_rule
    rw [u1, ht, if_neg (by omega), if_pos c6]
    exact ⟨_, _, _, rfl, rfl, h0, TF_refl⟩
  have by1 : By (X 1) := fun i i0 i1 => by rw [(t4 i i0 i1).1]; exact (t4 i i0 i1).2
  obtain ⟨X1, m, c1, c2, c3, c4, c5⟩ := cut_ok hN (X := X) (s := Y 0 1) t2 t3 by1
  generalize hq : 177 + 6 * t = q
  have hkb : jkb jTX q 5 = true := jkb_q hq.symm u2 (by omega)
  generalize hM5 : up (up (up (up (up (up X1 0 1 0) 12 0 2) 12 1 q) q 1 0) q 5 0) 12 2 0 = M5
  generalize hZ6 : up (up (up (up (up (up (up Y 0 11 t) 5 t 0) 3 t 0) 0 14 0) 0 8 0) 0 9 0) 0 12 0 = Z6
  have xr : ∀ p, p ≠ 0 → p ≠ 12 → p ≠ q → M5 p = X1 p := fun p b1 b2 b3 => by rw [← hM5, up_ne b2, up_ne b3, up_ne b3, up_ne b2, up_ne b2, up_ne b1]
  have x0 : ∀ k, k ≠ 1 → M5 0 k = X 0 k := fun k hk => by rw [← hM5, up_row (by omega), up_row (by omega), up_row (by omega), up_row (by omega), up_row (by omega), up_col hk, c5 0 (by omega)]
  have x01 : M5 0 1 = 0 := by rw [← hM5, up_row (by omega), up_row (by omega), up_row (by omega), up_row (by omega), up_row (by omega), up_hit rfl rfl]
  have s0 : ∀ k, k ≠ 8 → k ≠ 9 → k ≠ 11 → k ≠ 12 → k ≠ 14 → Z6 0 k = Y 0 k := fun k a b c d e => by rw [← hZ6, up_col d, up_col b, up_col a, up_col e, up_row (by omega), up_row (by omega), up_col c]
  have sr : ∀ p, p ≠ 0 → p ≠ 3 → p ≠ 5 → Z6 p = Y p := fun p a b c => by rw [← hZ6, up_ne a, up_ne a, up_ne a, up_ne a, up_ne b, up_ne c, up_ne a]
  have z8 : Z6 0 8 = 0 := by rw [← hZ6, up_col (by omega), up_col (by omega), up_hit rfl rfl]
  have z9 : Z6 0 9 = 0 := by rw [← hZ6, up_col (by omega), up_hit rfl rfl]
  have z11 : Z6 0 11 = t := by rw [← hZ6, up_col (by omega), up_col (by omega), up_col (by omega), up_col (by omega), up_row (by omega), up_row (by omega), up_hit rfl rfl]
  have z12 : Z6 0 12 = 0 := by rw [← hZ6, up_hit rfl rfl]
  have z14 : Z6 0 14 = 0 := by rw [← hZ6, up_col (by omega), up_col (by omega), up_col (by omega), up_hit rfl rfl]
  have z3 : Z6 3 t = 0 := by rw [← hZ6, up_row (by omega), up_row (by omega), up_row (by omega), up_row (by omega), up_hit rfl rfl]
  have z5 : ∀ i, Z6 5 i = if i = t then 0 else Y 5 i := fun i => by
    rw [← hZ6, up_row (by omega), up_row (by omega), up_row (by omega), up_row (by omega), up_row (by omega)]
    by_cases ci : i = t
    · rw [up_hit rfl ci, if_pos ci]
    · rw [up_col ci, if_neg ci, up_row (by omega)]
  have rd : RD M5 Z6 m 0 := by
    have tk : Tok M5 (Y 1) (Y 0 1) m := by
      have := Tok_c (T' := Y 1) (fun i i0 i1 => ((t4 i i0 i1).1).symm) t3 c2
      unfold Tok at this ⊢
      rw [xr 3 (by omega) (by omega) (by omega), xr 4 (by omega) (by omega) (by omega), xr 5 (by omega) (by omega) (by omega)]
      exact this
    refine ⟨⟨?_, ?_, ?_, ⟨by omega, c2.1.1⟩, by omega, ?_⟩, by rw [xr 2 (by omega) (by omega) (by omega)]; exact c3, by rw [xr 2 (by omega) (by omega) (by omega)]; exact c4, z9⟩
    · rw [sr 1 (by omega) (by omega) (by omega), s0 1 (by omega) (by omega) (by omega) (by omega) (by omega)]; exact tk
    · rw [s0 1 (by omega) (by omega) (by omega) (by omega) (by omega)]; exact ⟨t2, t3⟩
    · rw [sr 1 (by omega) (by omega) (by omega)]; exact fun i i0 i1 => (t4 i i0 i1).2
    · rw [sr 1 (by omega) (by omega) (by omega), s0 1 (by omega) (by omega) (by omega) (by omega) (by omega), z8]
      exact tk.2.2.2.1
  have m120 : M5 12 0 = 2 := by rw [← hM5, up_col (by omega), up_row (by omega), up_row (by omega), up_col (by omega), up_hit rfl rfl]
  have m121 : M5 12 1 = q := by rw [← hM5, up_col (by omega), up_row (by omega), up_row (by omega), up_hit rfl rfl]
  have m122 : M5 12 2 = 0 := by rw [← hM5, up_hit rfl rfl]
  have mq1 : M5 q 1 = 0 := by rw [← hM5, up_row (by omega), up_col (by omega), up_hit rfl rfl]
  have mq5 : M5 q 5 = 0 := by rw [← hM5, up_row (by omega), up_hit rfl rfl]
  have rr : RR M5 Z6 m 0 q t 0 0 0 [] := ⟨rd, ⟨m120, m121, hq.symm, u2, by omega, z11⟩, ⟨m122, z12, by omega, by omega⟩, ⟨mq1, z3, by omega, fun i i0 i1 => by omega⟩, by omega, rfl⟩
  have rc : RC M5 Z6 q t 0 0 := ⟨mq5, by rw [z5, if_pos rfl], by omega, fun i i0 i1 => by omega⟩
  obtain ⟨w, g, r, X', Yc, Y', p1, p2', p3, p4, p5, p6⟩ := rloop_ok hN 12 0 M5 Z6 m 0 0 0 0 [] N N (by omega) (by omega) (by omega) (by omega) rr rc (by omega) z14
  obtain ⟨Yz, yc, eY'⟩ := p5
  have hcut : x_cutTape N X = some (0, up X1 0 1 0) := by unfold x_cutTape jbv jlt; rw [t1, c1, Option.bind_some]
  have e06 : up X1 0 1 0 0 6 = t := by rw [up_col (by omega), c5 0 (by omega)]; exact u1
  have hX : Rr_read N q (up X1 0 1 0) = some (w, X') := by
    unfold Rr_read Ru_clear jbv jlt
    dsimp only
    have e12 : up (up (up X1 0 1 0) 12 0 2) 12 1 q 12 1 = q := up_hit rfl rfl
    rw [jchk_pos (show jkb jTX (up (up (up X1 0 1 0) 12 0 2) 12 1 q 12 1) 5 = true by rw [e12]; exact hkb), e12, Option.bind_some]
    dsimp only
    rw [hM5]
    exact p1
  have hY : m_readsAll N (up (up Y 0 11 t) 5 t 0) = some (g, Y') := by
    have e11 : up (up Y 0 11 t) 5 t 0 0 11 = t := by rw [up_row (by omega), up_hit rfl rfl]
    unfold m_readsAll jlt jb1
    dsimp only
    rw [jchk_pos (show 0 ≤ up (up Y 0 11 t) 5 t 0 0 11 ∧ up (up Y 0 11 t) 5 t 0 0 11 < 7 by omega), e11, hZ6, p2', Option.bind_some]
    exact p3
  have fx : ∀ p, p ≠ 0 → p ≠ 2 → p ≠ 3 → p ≠ 4 → p ≠ 5 → p ≠ 12 → p < q ∨ q + 5 ≤ p → X' p = X p := fun p b0 b2 b3 b4 b5 b12 hp => by rw [p4 p b2 b12 hp, xr p b0 b12 (by omega), c5 p (by omega)]
  have fx0 : X' 0 = M5 0 := p4 0 (by omega) (by omega) (by omega)
  have fy : ∀ p, p ≠ 0 → p ≠ 2 → p ≠ 3 → p ≠ 4 → p ≠ 5 → p ≠ 7 → Y' p = Y p := fun p b0 b2 b3 b4 b5 b7 => by rw [eY', up_ne b0, yc.1 p b0 b2 b3 b4 b5 b7, sr p b0 b3 b5]
  have fy0 : ∀ k, k = 2 ∨ k = 21 ∨ k = 22 ∨ k = 26 → Y' 0 k = Y 0 k := fun k hk => by rw [eY', up_col (by omega), yc.2.1 k (by omega) (by omega) (by omega) (by omega) (by omega) (by omega) (by omega), s0 k (by omega) (by omega) (by omega) (by omega) (by omega)]
  have y01 : Y' 0 1 = 0 := by rw [eY', up_hit rfl rfl]
  have hT' : TR X' Y' := ⟨by rw [fx0, x01, y01], by omega, by omega, by rw [fx 1 (by omega) (by omega) (by omega) (by omega) (by omega) (by omega) (by omega), fy 1 (by omega) (by omega) (by omega) (by omega) (by omega) (by omega)]; exact t4⟩
  have old : ∀ k, 0 ≤ k → k < t → RuleR X' Y' k := fun k k0 k1 => RuleR_part (u4 k k0 k1) (fun p p1 p2 => fx p (by omega) (by omega) (by omega) (by omega) (by omega) (by omega) (by omega)) (by rw [eY', up_row (by omega), yc.2.2.2.2 k (by omega), z5, if_neg (by omega)]) (fun i i0 i1 => by rw [eY', up_row (by omega), yc.2.2.2.1 i (by omega), sr 4 (by omega) (by omega) (by omega)]) (fun i i0 i1 => by rw [eY', up_row (by omega), yc.2.2.1 i (by omega), sr 2 (by omega) (by omega) (by omega)])
  have hV' : VR X' Y' := VR_congr hV (fun p a b => fx p (by omega) (by omega) (by omega) (by omega) (by omega) (by omega) (by omega)) (fy 10 (by omega) (by omega) (by omega) (by omega) (by omega) (by omega)) (fy0 21 (by omega)) (fy0 22 (by omega)) (fy0 2 (by omega))
  have hA' : AR X' Y' := AR_congr hA (fun p a b => fx p (by omega) (by omega) (by omega) (by omega) (by omega) (by omega) (by omega)) (fy 10 (by omega) (by omega) (by omega) (by omega) (by omega) (by omega)) (fy 12 (by omega) (by omega) (by omega) (by omega) (by omega) (by omega)) (fy0 26 (by omega))
  have hI' : IR X' Y' := IR_congr hI (fun p a b => fx p (by omega) (by omega) (by omega) (by omega) (by omega) (by omega) (by omega)) (fy 21 (by omega) (by omega) (by omega) (by omega) (by omega) (by omega)) (fy 22 (by omega) (by omega) (by omega) (by omega) (by omega) (by omega)) (fy 23 (by omega) (by omega) (by omega) (by omega) (by omega) (by omega)) (fy 24 (by omega) (by omega) (by omega) (by omega) (by omega) (by omega)) (fy0 2 (by omega))
  have x06 : X' 0 6 = t := by rw [fx0, x0 6 (by omega)]; exact u1
  have y02 : Y' 0 2 = t := by rw [fy0 2 (by omega)]; exact ht
  have tf : ∀ p, 171 ≤ p → p ≤ 173 → X' p = X p := fun p a b => fx p (by omega) (by omega) (by omega) (by omega) (by omega) (by omega) (by omega)
  have EXr : ∀ v X2, (if w = 0 then some (w32 (up X' 0 6 (w32 (X' 0 6 + 1)) 0 6 - 1), up X' 0 6 (w32 (X' 0 6 + 1))) else some (w32 (-2 - w), X')) = some (v, X2) → x_rule N X = some (v, X2) := fun v X2 e => by
    rw [← e]
    unfold x_rule jb1 jbv jlt
    rw [u1, if_pos (by omega), hcut, Option.bind_some]
    dsimp only
    rw [jchk_pos (show 0 ≤ up X1 0 1 0 0 6 ∧ up X1 0 1 0 0 6 < 6 by omega), e06, show 13 + 164 + 6 * t = q by omega, hX, Option.bind_some]
  have EYr : ∀ v Y2, (if g = 0 then some (w32 (-2 - Y' 0 9), Y') else some (w32 (up Y' 0 2 (w32 (Y' 0 2 + 1)) 0 2 - 1), up Y' 0 2 (w32 (Y' 0 2 + 1)))) = some (v, Y2) → m_rule N Y = some (v, Y2) := fun v Y2 e => by
    rw [← e]
    have e11 : up Y 0 11 t 0 11 = t := up_hit rfl rfl
    unfold m_rule jb1 jlt
    dsimp only
    rw [ht, if_neg c6, jchk_pos (show 0 ≤ up Y 0 11 t 0 11 ∧ up Y 0 11 t 0 11 < 6 by omega), e11, hY, Option.bind_some]
  rcases p6 with ⟨g1, w1, c', n', cs', rc'⟩ | ⟨g1, w1, w2, w3⟩
  · have new : RuleR X' Y' t := RuleR_of hq.symm cs' rc'
    have ex : up X' 0 6 (w32 (X' 0 6 + 1)) = up X' 0 6 (t + 1) := by rw [x06, w32_id (by omega)]
    have ey : up Y' 0 2 (w32 (Y' 0 2 + 1)) = up Y' 0 2 (t + 1) := by rw [y02, w32_id (by omega)]
    have fx2 : ∀ p, p ≠ 0 → up X' 0 6 (t + 1) p = X' p := fun p hp => up_ne hp
    have fy2 : ∀ p, p ≠ 0 → up Y' 0 2 (t + 1) p = Y' p := fun p hp => up_ne hp
    refine ⟨t, up X' 0 6 (t + 1), up Y' 0 2 (t + 1), EXr _ _ ?_, EYr _ _ ?_, ⟨TR_congr hT' (up_col (by omega)) (fx2 1 (by omega)) (up_col (by omega)) (fy2 1 (by omega)), ⟨by rw [up_hit rfl rfl, up_hit rfl rfl], by rw [up_hit rfl rfl]; omega, by rw [up_hit rfl rfl]; omega, fun k k0 k1 => ?_⟩, ?_, AR_congr hA' (fun p a b => fx2 p (by omega)) (fy2 10 (by omega)) (fy2 12 (by omega)) (up_col (by omega)), ?_⟩, by rw [fx2 171 (by omega), tf 171 (by omega) (by omega)], by rw [fx2 172 (by omega), tf 172 (by omega) (by omega)], by rw [fx2 173 (by omega), tf 173 (by omega) (by omega)]⟩
    · rw [if_pos w1, ex, up_hit rfl rfl, show t + 1 - 1 = t by omega, w32_id (by omega)]
    · rw [if_neg (by omega), ey, up_hit rfl rfl, show t + 1 - 1 = t by omega, w32_id (by omega)]
    · rw [up_hit rfl rfl] at k1
      have rk : RuleR X' Y' k := by
        by_cases ck : k = t
        · rw [ck]; exact new
        · exact old k k0 (by omega)
      exact RuleR_part rk (fun p _ _ => fx2 p (by omega)) (by rw [fy2 5 (by omega)]) (fun i _ _ => by rw [fy2 4 (by omega)]) (fun i _ _ => by rw [fy2 2 (by omega)])
    · obtain ⟨v1, v2, v3, v4, v5, v6, v7⟩ := hV'
      unfold VR
      rw [fy2 10 (by omega), fx2 14 (by omega), up_col (show (21 : Int) ≠ 2 by omega), up_col (show (22 : Int) ≠ 2 by omega), up_hit rfl rfl]
      exact ⟨WR_congr v1 (fun p _ _ => fx2 p (by omega)), v2, v3, v4, by omega, v6, v7⟩
    · intro k k0 k1
      obtain ⟨i1, i2, i3⟩ := hI' k k0 k1
      have e : imgR (up Y' 0 2 (t + 1)) k = imgR Y' k := by unfold imgR; rw [fy2 21 (by omega)]
      rw [fx2 (213 + 17 * k) (by omega), fy2 24 (by omega), fy2 22 (by omega), fy2 23 (by omega), up_hit rfl rfl, e]
      refine ⟨i1, i2, fun z => ?_⟩
      obtain ⟨l1, l2, l3, l4, l5, l6, l7⟩ := i3 z
      exact ⟨WR_congr l1 (fun p _ _ => fx2 p (by omega)), l2, l3, l4, by omega, l6, l7⟩
  · exact ⟨w32 (-2 - w), X', Y', EXr _ _ (if_neg w1), EYr _ _ (by rw [if_pos g1, w2]), ⟨hT', ⟨by rw [x06, y02], by omega, by omega, fun k k0 k1 => old k k0 (by omega)⟩, hV', hA', hI'⟩, tf 171 (by omega) (by omega), tf 172 (by omega) (by omega), tf 173 (by omega) (by omega)⟩
