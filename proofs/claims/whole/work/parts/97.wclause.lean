/-! one clause of a RULE, read by both -/
def wJ (w : Int) (M16 : jMem) : Option (Int × jMem) := jchk (0 ≤ (M16 0 11) ∧ (M16 0 11) < 7) <| jlt (up M16 4 (w + 3) ((M16 3 ((M16 0 11))))) fun M19 => jchk (0 ≤ (M19 0 11) ∧ (M19 0 11) < 6) <| jchk (0 ≤ (M19 0 11) ∧ (M19 0 11) < 6) <| jlt (up M19 5 ((M19 0 11)) ((w32 (((M19 5 ((M19 0 11)))) + 1)))) fun M22 => some (1, M22)
def wT (N : Nat) (w : Int) (M8 : jMem) : Option (Int × jMem) := jchk (0 ≤ (M8 0 11) ∧ (M8 0 11) < 7) <| jlt (up M8 4 (w + 1) ((M8 3 ((M8 0 11))))) fun M11 => jlt (up M11 4 (w + 2) ((-1))) fun M13 => jb1 (m_takesWord N 26982 M13) fun r14 M15 => (if r14 = 0 then wJ w M15 else jchk (0 ≤ (M15 0 11) ∧ (M15 0 11) < 7) <| jlt (up M15 4 (w + 2) ((M15 3 ((M15 0 11))))) fun M25 => jb1 (m_tested N M25) fun r26 M27 => (if r26 = 0 then some (0, M27) else wJ w M27))
theorem wJ_eq {M : jMem} {w t n c : Int} (h11 : M 0 11 = t) (ht : 0 ≤ t ∧ t < 6) (h3 : M 3 t = n) (h5 : M 5 t = c) (hc : 0 ≤ c ∧ c < 12) : wJ w M = some (1, up (up M 4 (w + 3) n) 5 t (c + 1)) := by
  unfold wJ jlt
  dsimp only
  simp (disch := omega) only [h11, h3, h5, up_row, jchk_pos, w32_id]
theorem wed_ref {N : Nat} {M Ya : jMem} {t c n : Int} (hp : m_passWord N M = some (0, Ya)) (h11 : Ya 0 11 = t) (ht : 0 ≤ t ∧ t < 6) (h5 : Ya 5 t = c) (hc : 0 ≤ c ∧ c < 12) (h3 : Ya 3 t = n) : m_isWedHere N M = jb1 (m_sum N (up Ya 4 (48 * t + 4 * c) n)) fun r7 M8 => (if r7 = 0 then some (0, M8) else wT N (48 * t + 4 * c) M8) := by
  unfold m_isWedHere wT wJ jlt jbv jb1
  rw [hp, Option.bind_some]
  dsimp only
  simp (disch := omega) only [h11, h5, h3, w32_id, jchk_pos]
theorem clause_ref {N : Nat} (hN : 1000 ≤ N) {X Y Y2 : jMem} {m j c1 t c : Int} (g : SG N X Y Y2 m j c1) (h11 : Y 0 11 = t) (ht : 0 ≤ t ∧ t < 6) (h14 : Y 0 14 = c) (hc : 0 ≤ c ∧ c ≤ 12) : m_clauseHere N Y = if X 3 j = 21 then (if c = 12 then jb1 (m_fails N 4 (X 4 j) Y2) fun r M => jchk (r = 0 ∨ r = 1) <| some (r, M) else jb1 (m_isWedHere N (up Y2 0 14 (c + 1))) fun r M => jchk (r = 0 ∨ r = 1) <| some (r, M)) else jb1 (m_fails N 0 (X 4 j) Y2) fun r M => jchk (r = 0 ∨ r = 1) <| some (r, M) := by
  obtain ⟨s1, -, -, rd2, f2, y8, -⟩ := g
  have w4 := isW hN rd2.1 y8 (i := 4) (by omega)
  rw [show wcode 4 = 7824740 from rfl] at w4
  have y11 : Y2 0 11 = t := by rw [f2.2 11 (by omega) (by omega) (by omega)]; exact h11
  have y14 : Y2 0 14 = c := by rw [f2.2 14 (by omega) (by omega) (by omega)]; exact h14
  unfold m_clauseHere jlt jb1
  rw [s1, Option.bind_some]
  dsimp only
  rw [if_neg (show ¬ Y2 0 11 = 6 by omega), if_pos rfl]
  rcases w4 with ⟨k, w⟩ | ⟨k, w⟩
  · rw [w, Option.bind_some]
    dsimp only
    rw [if_neg (show ¬ (1 : Int) = 0 by decide), if_pos rfl, if_pos (show X 3 j = 21 by omega)]
    by_cases c12 : c = 12
    · rw [if_pos (show Y2 0 14 = 12 by omega), if_pos c12, y8]
    · rw [if_neg (show ¬ Y2 0 14 = 12 by omega), if_neg c12, if_pos rfl, y14, w32_id (by omega)]
  · rw [w, Option.bind_some]
    dsimp only
    rw [if_pos rfl, if_neg (show ¬ X 3 j = 21 by omega), y8]
theorem tail_11 {N : Nat} {q : Int} {X : jMem} (h : FZ q X) (hq : 177 ≤ q) (h5 : 0 ≤ X q 5) : ∃ M13 M19, Ru_openTest N q X = some (0, M13) ∧ M13 12 0 = 2 ∧ To_takes N 22 M13 = some (0, M13) ∧ M13 12 1 = q ∧ Ru_closeClause N q M13 = some (0, M19) ∧ FZ q M19 ∧ XC q X M19 ∧ M19 2 = X 2 := by
  obtain ⟨M13, a1, a2⟩ := openT_t (N := N) h5
  have f13 : FZ q M13 := FZ_w h (a2 2 (by omega)) (a2 12 (by omega)) (by rw [a2 q (by omega)])
  obtain ⟨M19, b1, b2, b3, b4⟩ := closeC_t (N := N) (q := q) (X := M13) (by rw [a2 q (by omega)]; exact h5)
  refine ⟨M13, M19, a1, f13.2.1, takes_F f13.1 (by omega), f13.2.2.1, b1, FZ_w f13 (b2 2 (by omega) (by omega)) (b2 12 (by omega) (by omega)) b3, fun p w1 w2 w3 => by rw [b2 p (by omega) (by omega), a2 p (by omega)], by rw [b2 2 (by omega) (by omega), a2 2 (by omega)]⟩
theorem tail_8 {N : Nat} (hN : 1000 ≤ N) {q c : Int} {X M8 : jMem} (hk : jkb jTX q 5 = true) (h1 : Rr_takeWed N c X = some (0, M8)) (h : FZ q M8) (hq : 177 ≤ q) (h5 : 0 ≤ M8 q 5) : ∃ X', (∀ kk, cB N c X kk = kk X') ∧ FZ q X' ∧ XC q M8 X' ∧ X' 2 = M8 2 := by
  obtain ⟨M10, a1, a2⟩ := openC_t (N := N) h5
  have f10 : FZ q M10 := FZ_w h (a2 2 (by omega)) (a2 12 (by omega)) (by rw [a2 q (by omega)])
  obtain ⟨M13, M19, b1, b2, b3, b4, b5, b6, b7, b8⟩ := tail_11 (N := N) f10 hq (by rw [a2 q (by omega)]; exact h5)
  refine ⟨M19, fun kk => cB_eq hk h1 h.2.2.1 a1 (sum_F hN f10) f10.2.2.1 b1 b2 b3 (if_pos rfl) b4 b5, b6, XC_trans (fun p w1 w2 w3 => a2 p (by omega)) b7, by rw [b8, a2 2 (by omega)]⟩
theorem close_ok {N : Nat} {X : jMem} {q c n : Int} (h5 : X q 5 = c) (hc : 0 ≤ c ∧ c < 12) (h1 : X q 1 = n) : Ru_closeClause N q X = some (0, up (up X (q + 4) c n) q 5 (c + 1)) := by
  unfold Ru_closeClause jlt
  dsimp only
  rw [h5, if_pos hc.2, jchk_pos hc, h1, up_row (by omega), h5, w32_id (by omega)]
theorem RC_more {X Y : jMem} {q t c n a b e : Int} (h : RC X Y q t c n) (hc : c < 12) (h2 : X (q + 2) c = a) (h3 : X (q + 3) c = b) (y0 : Y 4 (48 * t + 4 * c) = a) (y1 : Y 4 (48 * t + 4 * c + 1) = b) (ha : 0 ≤ a ∧ a ≤ b ∧ b ≤ e ∧ e ≤ n) (ht : tyF (X (q + 1)) (b - a).toNat a [] = some [false]) (hz : (Y 4 (48 * t + 4 * c + 2) = -1 ∧ e = b) ∨ (Y 4 (48 * t + 4 * c + 2) = b ∧ b < e ∧ tyF (X (q + 1)) (e - b).toNat b [] = some [true])) : RC (up (up X (q + 4) c e) q 5 (c + 1)) (up (up Y 4 (48 * t + 4 * c + 3) e) 5 t (c + 1)) q t (c + 1) n := by
  obtain ⟨a1, a2, a3, a4⟩ := h
  have r1 : ∀ p, p ≠ q → p ≠ q + 4 → up (up X (q + 4) c e) q 5 (c + 1) p = X p := fun p w1 w2 => by rw [up_ne w1, up_ne w2]
  have r4 : ∀ i, up (up X (q + 4) c e) q 5 (c + 1) (q + 4) i = if i = c then e else X (q + 4) i := fun i => by
    rw [up_row (by omega)]
    by_cases ci : i = c
    · rw [up_hit rfl ci, if_pos ci]
    · rw [up_col ci, if_neg ci]
  have s4 : ∀ i, up (up Y 4 (48 * t + 4 * c + 3) e) 5 t (c + 1) 4 i = if i = 48 * t + 4 * c + 3 then e else Y 4 i := fun i => by
    rw [up_row (by omega)]
    by_cases ci : i = 48 * t + 4 * c + 3
    · rw [up_hit rfl ci, if_pos ci]
    · rw [up_col ci, if_neg ci]
  refine ⟨up_hit rfl rfl, up_hit rfl rfl, by omega, fun i i0 i1 => ?_⟩
  rw [r1 (q + 1) (by omega) (by omega), r1 (q + 2) (by omega) (by omega), r1 (q + 3) (by omega) (by omega), r4, s4, s4, s4, s4]
  by_cases ci : i = c
  · subst ci
    rw [if_pos rfl, if_neg (by omega), if_neg (by omega), if_neg (by omega), if_pos rfl]
    refine ⟨a, b, e, h2, h3, rfl, y0, y1, ha.1, ha.2.1, ha.2.2.1, ha.2.2.2, ht, ?_⟩
    rcases hz with w | ⟨w1, w2, w3⟩
    · exact Or.inl w
    · exact Or.inr ⟨w1, rfl, w2, w3⟩
  · rw [if_neg ci, if_neg (by omega), if_neg (by omega), if_neg (by omega), if_neg (by omega)]
    exact a4 i i0 (by omega)
theorem wclause_ok {N : Nat} (hN : 1000 ≤ N) {X Y : jMem} {m j q t n v a c : Int} {ts : List Bool} (h : RR X Y m j q t n v a ts) (hc : RC X Y q t c n) (hn : n ≤ j) (h14 : Y 0 14 = c) :
    ∃ (r : Int) (X' Y' : jMem), (∀ kk, cB N c X kk = kk X') ∧ m_clauseHere N Y = some (r, Y') ∧ XC q X X' ∧ YC t Y Y' ∧ ((r = 1 ∧ c < 12 ∧ Y' 0 14 = c + 1 ∧ ∃ j' n' v' a' ts', j < j' ∧ n' ≤ j' ∧ RR X' Y' m j' q t n' v' a' ts' ∧ RC X' Y' q t (c + 1) n') ∨ (r = 0 ∧ FD X' Y' ∧ FZ q X')) := by
  have nn := RR_nums h
  have hq := nn.2.2.1.1
  have hkb := nn.2.2.2.1
  obtain ⟨-, ⟨a1, a2, a3, a4, a5, a6⟩, -, cs, -, -⟩ := id h
  have x5 := hc.1
  have c012 := hc.2.2.1
  have lk := looked_ok (N := N) h.1
  obtain ⟨c1, Y2, g⟩ := sgn hN h.1
  have f2 := g.2.2.2.2.1
  have rd2 := g.2.2.2.1
  have y8 := g.2.2.2.2.2.1
  have eY2 := g.2.2.1
  have rr2 : RR X Y2 m j q t n v a ts := by rw [eY2]; exact RR_see h
  have CRf := clause_ref hN g a6 ⟨a4, a5⟩ h14 c012
  clear g
  by_cases K : X 3 j = 21
  · rw [if_pos K] at CRf
    by_cases c12 : c = 12
    · rw [if_pos c12] at CRf
      obtain ⟨e1, e2, e3⟩ := FO_here (N := N) (w := 4) rr2 RF_refl rd2.2.2.2 (by omega)
      have tw : Rr_takeWed N c X = some (0, up X 2 4 (1 + 8 * X 4 j + 4)) := by
        unfold Rr_takeWed jbv
        rw [jchk_pos a1, lk, Option.bind_some, if_pos K, if_neg (by omega), jchk_pos a1, e1, Option.bind_some]
      obtain ⟨X', b1, b2, b3, b4⟩ := tail_8 hN hkb tw e3.2.1 hq (by rw [e3.2.2.1.2.1]; omega)
      refine ⟨0, X', _, b1, ?_, XC_trans (XC_XG e3.2.2.1) b3, YC_trans (YC_RF f2) (YC_YT e3.2.2.2 (by omega)), Or.inr ⟨rfl, FD_w e3.1 b4 rfl, b2⟩⟩
      rw [CRf]
      unfold jb1
      rw [e2, Option.bind_some]
      dsimp only
      rw [jchk_pos (Or.inl rfl)]
    · rw [if_neg c12] at CRf
      have c011 : 0 ≤ c ∧ c < 12 := by omega
      have jm := kind_end h.1.1 (show X 3 j ≠ 0 by omega)
      have tw : Rr_takeWed N c X = some (0, up X 2 3 (j + 1)) := by
        unfold Rr_takeWed jbv
        rw [jchk_pos a1, lk, Option.bind_some, if_pos K, if_pos (by omega), jchk_pos a1, move_ok h.1 jm, Option.bind_some]
      have rr7 : RR X (up Y2 0 14 (c + 1)) m j q t n v a ts := RR_v rr2 (fun _ _ => rfl) rfl (fun p hp => up_ne (by omega)) (fun k hk => up_col (by omega))
      obtain ⟨Ya, w1, w2, w3, w4, w5⟩ := passWord_ok hN rr7.1 (by rw [up_col (by omega)]; exact y8) (by omega)
      have fya : ∀ p, p ≠ 0 → Ya p = Y p := fun p hp => by rw [w2.1 p hp, up_ne hp, f2.1 p hp]
      have fy0 : ∀ k, k ≠ 8 → k ≠ 9 → k ≠ 10 → k ≠ 14 → Ya 0 k = Y 0 k := fun k b1 b2 b3 b4 => by rw [w2.2 k b1 b2 b3, up_col b4, f2.2 k b1 b2 b3]
      have ya14 : Ya 0 14 = c + 1 := by rw [w2.2 14 (by omega) (by omega) (by omega), up_hit rfl rfl]
      have yca : YC t Y Ya := YC_trans (YC_RF f2) (YC_trans (YC_0 (by omega)) (YC_RF w2))
      have rda := RD_next rr7.1 w5 w3
      have rra : RR (up X 2 3 (j + 1)) Ya m (j + 1) q t n v n [] := RR_new (RR_w rr7 rda (fun p b1 _ => up_ne b1) (up_row (by omega)) (up_row (by omega)) (by rw [up_row (by omega)]; exact h.2.2.1.1) (w2.1 2 (by omega)) (w2.1 3 (by omega)) (w2.2 11 (by omega) (by omega) (by omega)) (by rw [w2.2 12 (by omega) (by omega) (by omega)]; exact rr7.2.2.1.2.1) h.2.2.1.2.2)
      have WR1 := wed_ref (N := N) (t := t) (c := c) (n := n) w1 (by rw [fy0 11 (by omega) (by omega) (by omega) (by omega)]; exact a6) ⟨a4, a5⟩ (by rw [fya 5 (by omega)]; exact hc.2.1) c011 (by rw [fya 3 (by omega)]; exact cs.2.1)
      have oc : Ru_openClause N q (up X 2 3 (j + 1)) = some (0, up (up X 2 3 (j + 1)) (q + 2) c n) := by
        unfold Ru_openClause jlt
        dsimp only
        rw [up_row (by omega), up_row (by omega), x5, cs.1, if_pos c011.2, jchk_pos c011]
      generalize hM10 : up (up X 2 3 (j + 1)) (q + 2) c n = M10 at oc
      generalize hYb : up Ya 4 (48 * t + 4 * c) n = Yb at WR1
      have rrb : RR M10 Yb m (j + 1) q t n v n [] := RR_v rra (fun p hp => by rw [← hM10, up_ne (by omega)]) (by rw [← hM10, up_row (by omega)]) (fun p hp => by rw [← hYb, up_ne (by omega)]) (fun k hk => by rw [← hYb, up_row (by omega)])
      have xcb : XC q X M10 := by rw [← hM10]; exact XC_trans (XC_up (by omega)) (XC_up (by omega))
      have ycb : YC t Y Yb := by rw [← hYb]; exact YC_trans yca (YC_4 (by omega))
      have m10q : M10 q 5 = c := by rw [← hM10, up_row (by omega), up_row (by omega)]; exact x5
      have rcb : RC M10 Yb q t c n := RC_w hc (by rw [m10q, x5]) (fun p i hp i0 i1 => by
        rw [← hM10]
        by_cases p2x : p = q + 2
        · rw [up_col (by omega), up_row (by omega)]
        · rw [up_row p2x, up_row (by omega)]) (fun i _ _ => by rw [← hM10, up_row (by omega), up_row (by omega)]) (fun i i0 i1 => by rw [← hYb, up_col (by omega), fya 4 (by omega)]) (by rw [← hYb, up_row (by omega), fya 5 (by omega)]) (Int.le_refl n)
      obtain ⟨r1, X1, Y1, v1, v2, v3⟩ := sum_ok hN rrb (k := 0) (by omega) (by omega) (by simp)
      rw [v2] at WR1
      unfold jb1 at WR1 CRf
      rw [Option.bind_some] at WR1
      dsimp only at WR1
      rcases v3 with ⟨z1, j1, n1, u1, z2, z3, z4, z5, z6, z7⟩ | ⟨z1, z2⟩
      · rw [if_neg (show ¬ r1 = 0 by omega)] at WR1
        have n1' := RR_nums z2
        have cs1 := z2.2.2.2.1
        have x15 : X1 q 5 = c := by rw [z6.2.1]; exact m10q
        have rc1 : RC X1 Y1 q t c n1 := RC_keep rcb z6 (YT_G z7) hq (by omega)
        have ot : Ru_openTest N q X1 = some (0, up X1 (q + 3) c n1) := by
          unfold Ru_openTest jlt
          dsimp only
          rw [x15, cs1.1, if_pos c011.2, jchk_pos c011]
        generalize hM13 : up X1 (q + 3) c n1 = M13 at ot
        generalize hYc : up (up Y1 4 (48 * t + 4 * c + 1) n1) 4 (48 * t + 4 * c + 2) (-1) = Yc
        have WT1 : wT N (48 * t + 4 * c) Y1 = jb1 (m_takesWord N 26982 Yc) fun r14 M15 => (if r14 = 0 then wJ (48 * t + 4 * c) M15 else jchk (0 ≤ (M15 0 11) ∧ (M15 0 11) < 7) <| jlt (up M15 4 (48 * t + 4 * c + 2) ((M15 3 ((M15 0 11))))) fun M25 => jb1 (m_tested N M25) fun r26 M27 => (if r26 = 0 then some (0, M27) else wJ (48 * t + 4 * c) M27)) := by
          have y11 : Y1 0 11 = t := z2.2.1.2.2.2.2.2
          unfold wT jlt
          rw [jchk_pos (show 0 ≤ Y1 0 11 ∧ Y1 0 11 < 7 by omega), y11, cs1.2.1, ← hYc]
        rw [WT1] at WR1
        clear WT1
        have rrc : RR M13 Yc m j1 q t n1 u1 n [false] := RR_v z2 (fun p hp => by rw [← hM13, up_ne (by omega)]) (by rw [← hM13, up_row (by omega)]) (fun p hp => by rw [← hYc, up_ne (by omega), up_ne (by omega)]) (fun k hk => by rw [← hYc, up_row (by omega), up_row (by omega)])
        have xcc : XC q X M13 := XC_trans xcb (XC_trans (XC_XG z6) (by rw [← hM13]; exact XC_up (by omega)))
        have ycc : YC t Y Yc := YC_trans ycb (YC_trans (YC_YT (YT_G z7) nn.2.1.1) (by rw [← hYc]; exact YC_trans (YC_4 (by omega)) (YC_4 (by omega))))
        have m13q : M13 q 5 = c := by rw [← hM13, up_row (by omega)]; exact x15
        have rcc : RC M13 Yc q t c n1 := RC_w rc1 (by rw [m13q, x15]) (fun p i hp i0 i1 => by
          rw [← hM13]
          by_cases p3x : p = q + 3
          · rw [up_col (by omega)]
          · rw [up_row p3x]) (fun i _ _ => by rw [← hM13, up_row (by omega)]) (fun i i0 i1 => by rw [← hYc, up_col (by omega), up_col (by omega)]) (by rw [← hYc, up_row (by omega), up_row (by omega)]) (Int.le_refl n1)
        have E2 : M13 (q + 2) c = n := by rw [← hM13, up_row (by omega), z6.1 (q + 2) (by omega) (by omega) (by omega) (by omega), ← hM10, up_hit rfl rfl]
        have E3 : M13 (q + 3) c = n1 := by rw [← hM13, up_hit rfl rfl]
        have F0 : Yc 4 (48 * t + 4 * c) = n := by rw [← hYc, up_col (by omega), up_col (by omega), z7.1 4 (by omega) (by omega) (by omega), ← hYb, up_hit rfl rfl]
        have F1 : Yc 4 (48 * t + 4 * c + 1) = n1 := by rw [← hYc, up_col (by omega), up_hit rfl rfl]
        have F2 : Yc 4 (48 * t + 4 * c + 2) = -1 := by rw [← hYc, up_hit rfl rfl]
        have F14 : Yc 0 14 = c + 1 := by rw [← hYc, up_row (by omega), up_row (by omega), z7.2.1 14 (by omega) (by omega) (by omega) (by omega), ← hYb, up_row (by omega)]; exact ya14
        obtain ⟨ri, i1, i2⟩ := isWord_ok hN rrc.1.1 (i := 5) (by omega)
        rw [show wcode 5 = 26982 from rfl] at i1
        have rrd := RR_see rrc
        have fd : RF Yc (up Yc 0 8 (M13 4 j1)) := RF_up8
        have yd8 : up Yc 0 8 (M13 4 j1) 0 8 = M13 4 j1 := up_hit rfl rfl
        generalize hYd : up Yc 0 8 (M13 4 j1) = Yd at i1 rrd fd yd8
        rcases i2 with ⟨k1, k2⟩ | ⟨k1, k2⟩
        · -- a test
          subst k1
          have jm1 := kind_end rrc.1.1 (show M13 3 j1 ≠ 0 by omega)
          have tk : To_takes N 22 M13 = some (1, up M13 2 3 (j1 + 1)) := by
            rcases takes_ok (N := N) rrc.1 (k := 22) (by omega) with ⟨-, w⟩ | ⟨w, -⟩
            · exact w
            · omega
          obtain ⟨Ye, p1, p2', p3, p4, p5⟩ := passWord_ok hN rrd.1 yd8 (by omega)
          have fe := RF_trans fd p2'
          have rde := RD_next rrd.1 p5 p3
          have rre : RR (up M13 2 3 (j1 + 1)) Ye m (j1 + 1) q t n1 u1 n [false] := RR_w rrc rde (fun p b1 _ => up_ne b1) (up_row (by omega)) (up_row (by omega)) (by rw [up_row (by omega)]; exact rrc.2.2.1.1) (fe.1 2 (by omega)) (fe.1 3 (by omega)) (fe.2 11 (by omega) (by omega) (by omega)) (by rw [fe.2 12 (by omega) (by omega) (by omega)]; exact rrc.2.2.1.2.1) rrc.2.2.1.2.2
          generalize hM16 : up M13 2 3 (j1 + 1) = M16 at tk rre
          generalize hYf : up Ye 4 (48 * t + 4 * c + 2) n1 = Yf
          have rrf : RR M16 Yf m (j1 + 1) q t n1 u1 n1 [] := RR_new (RR_v rre (fun _ _ => rfl) rfl (fun p hp => by rw [← hYf, up_ne (by omega)]) (fun k hk => by rw [← hYf, up_row (by omega)]))
          obtain ⟨r2, X2, Y5, o1, o2, o3⟩ := tested_ok hN rrf (by omega)
          have WR2 : m_isWedHere N (up Y2 0 14 (c + 1)) = if r2 = 0 then some (0, Y5) else wJ (48 * t + 4 * c) Y5 := by
            rw [WR1]
            unfold m_takesWord jb1 jbv jlt
            rw [i1, Option.bind_some]
            dsimp only
            rw [if_neg (show ¬ (1 : Int) = 0 by decide), p1, Option.bind_some, Option.bind_some]
            dsimp only
            have e11 : Ye 0 11 = t := rre.2.1.2.2.2.2.2
            have e3 : Ye 3 t = n1 := rre.2.2.2.1.2.1
            rw [if_neg (show ¬ (1 : Int) = 0 by decide), jchk_pos (show 0 ≤ Ye 0 11 ∧ Ye 0 11 < 7 by omega), e11, e3, hYf, o2, Option.bind_some]
          rw [WR2] at CRf
          have xcf : XC q X M16 := XC_trans xcc (by rw [← hM16]; exact XC_up (by omega))
          have ycf : YC t Y Yf := YC_trans ycc (YC_trans (YC_RF fe) (by rw [← hYf]; exact YC_4 (by omega)))
          have m16q : M16 q 5 = c := by rw [← hM16, up_row (by omega)]; exact m13q
          rcases o3 with ⟨s1, j2, n2, u2, s2, s3, s4, s5, s6, s7⟩ | ⟨s1, s2⟩
          · rw [if_neg (show ¬ r2 = 0 by omega)] at CRf
            have n2' := RR_nums s2
            have cs2 := s2.2.2.2.1
            have x25 : X2 q 5 = c := by rw [s6.2.1]; exact m16q
            have rcf : RC M16 Yf q t c n1 := RC_w rcc (by rw [m16q, m13q]) (fun p i hp i0 i1 => by rw [← hM16, up_row (by omega)]) (fun i _ _ => by rw [← hM16, up_row (by omega)]) (fun i i0 i1 => by rw [← hYf, up_col (by omega), fe.1 4 (by omega)]) (by rw [← hYf, up_row (by omega), fe.1 5 (by omega)]) (Int.le_refl n1)
            have rc2 : RC X2 Y5 q t c n2 := RC_keep rcf s6 s7 hq (by omega)
            have y5r : ∀ p, p = 4 ∨ p = 5 → Y5 p = Yf p := fun p hp => s7.1 p (by omega) (by omega) (by omega) (by omega)
            have y514 : Y5 0 14 = c + 1 := by rw [s7.2.1 14 (by omega) (by omega) (by omega) (by omega) (by omega) (by omega), ← hYf, up_row (by omega), fe.2 14 (by omega) (by omega) (by omega)]; exact F14
            have clo := close_ok (N := N) x25 c011 cs2.1
            have wj := wJ_eq (w := 48 * t + 4 * c) (s2.2.1.2.2.2.2.2) ⟨a4, a5⟩ cs2.2.1 rc2.2.1 c011
            rw [wj, Option.bind_some] at CRf
            dsimp only at CRf
            rw [jchk_pos (Or.inr rfl)] at CRf
            have sumc : tyF (X2 (q + 1)) (n1 - n).toNat n [] = some [false] := by
              rw [tyF_congr (code := X1 (q + 1)) (n1 - n).toNat n [] (fun x _ x1 => by rw [s6.2.2 x (by omega), ← hM16, up_row (by omega), ← hM13, up_row (by omega)])]
              exact z2.2.2.2.2.2
            have rc3 := RC_more (a := n) (b := n1) (e := n2) rc2 c011.2 (by rw [s6.1 (q + 2) (by omega) (by omega) (by omega) (by omega), ← hM16, up_row (by omega)]; exact E2) (by rw [s6.1 (q + 3) (by omega) (by omega) (by omega) (by omega), ← hM16, up_row (by omega)]; exact E3) (by rw [y5r 4 (by omega), ← hYf, up_col (by omega), fe.1 4 (by omega)]; exact F0) (by rw [y5r 4 (by omega), ← hYf, up_col (by omega), fe.1 4 (by omega)]; exact F1) (by omega) sumc (Or.inr ⟨by rw [y5r 4 (by omega), ← hYf, up_hit rfl rfl], by omega, s2.2.2.2.2.2⟩)
            have rrz : RR (up (up X2 (q + 4) c n2) q 5 (c + 1)) (up (up Y5 4 (48 * t + 4 * c + 3) n2) 5 t (c + 1)) m j2 q t n2 u2 n1 [true] := RR_v s2 (fun p hp => by rw [up_ne (by omega), up_ne (by omega)]) (by rw [up_col (by omega), up_row (by omega)]) (fun p hp => by rw [up_ne (by omega), up_ne (by omega)]) (fun k hk => by rw [up_row (by omega), up_row (by omega)])
            refine ⟨1, _, _, fun kk => cB_eq hkb tw (by rw [up_row (by omega)]; exact a2) oc v1 z2.2.1.2.1 ot (by rw [← hM13, up_row (by omega)]; exact z2.2.1.1) tk (by rw [if_neg (by decide)]; exact o1) s2.2.1.2.1 clo, CRf, XC_trans xcf (XC_trans (XC_XG s6) (XC_trans (XC_up (by omega)) (XC_up (by omega)))), YC_trans ycf (YC_trans (YC_YT s7 (by omega)) (YC_trans (YC_4 (by omega)) YC_5)), Or.inl ⟨rfl, c011.2, ?_, j2, n2, u2, n1, [true], by omega, by omega, rrz, rc3⟩⟩
            rw [up_row (by omega), up_row (by omega)]; exact y514
          · rw [if_pos s1, Option.bind_some] at CRf
            dsimp only at CRf
            rw [jchk_pos (Or.inl rfl)] at CRf
            obtain ⟨M19, b1, b2, b3, b4⟩ := closeC_t (N := N) (q := q) (X := X2) (by rw [s2.2.2.1.2.1, m16q]; omega)
            refine ⟨0, M19, Y5, fun kk => cB_eq hkb tw (by rw [up_row (by omega)]; exact a2) oc v1 z2.2.1.2.1 ot (by rw [← hM13, up_row (by omega)]; exact z2.2.1.1) tk (by rw [if_neg (by decide)]; exact o1) s2.2.1.2.2.1 b1, CRf, XC_trans xcf (XC_trans (XC_XG s2.2.2.1) (fun p w1 w2 w3 => b2 p (by omega) (by omega))), YC_trans ycf (YC_YT s2.2.2.2 (by omega)), Or.inr ⟨rfl, FD_w s2.1 (b2 2 (by omega) (by omega)) rfl, FZ_w s2.2.1 (b2 2 (by omega) (by omega)) (b2 12 (by omega) (by omega)) b3⟩⟩
        · -- no test
          subst k1
          have tk : To_takes N 22 M13 = some (0, M13) := by
            rcases takes_ok (N := N) rrc.1 (k := 22) (by omega) with ⟨w, -⟩ | ⟨-, w⟩
            · omega
            · exact w
          have d11 : Yd 0 11 = t := rrd.2.1.2.2.2.2.2
          have d3 : Yd 3 t = n1 := rrd.2.2.2.1.2.1
          have d5 : Yd 5 t = c := by rw [fd.1 5 (by omega)]; exact rcc.2.1
          have wj := wJ_eq (w := 48 * t + 4 * c) d11 ⟨a4, a5⟩ d3 d5 c011
          have WR2 : m_isWedHere N (up Y2 0 14 (c + 1)) = wJ (48 * t + 4 * c) Yd := by
            rw [WR1]
            unfold m_takesWord jb1
            rw [i1, Option.bind_some]
            dsimp only
            rw [if_pos rfl, Option.bind_some]
            dsimp only
            rw [if_pos rfl]
          rw [WR2, wj, Option.bind_some] at CRf
          dsimp only at CRf
          rw [jchk_pos (Or.inr rfl)] at CRf
          have rcd : RC M13 Yd q t c n1 := RC_w rcc rfl (fun _ _ _ _ _ => rfl) (fun _ _ _ => rfl) (fun i _ _ => by rw [fd.1 4 (by omega)]) (by rw [fd.1 5 (by omega)]) (Int.le_refl n1)
          have csd := rrd.2.2.2.1
          have clo := close_ok (N := N) m13q c011 csd.1
          have rc3 := RC_more (a := n) (b := n1) (e := n1) rcd c011.2 E2 E3 (by rw [fd.1 4 (by omega)]; exact F0) (by rw [fd.1 4 (by omega)]; exact F1) (by omega) rrd.2.2.2.2.2 (Or.inl ⟨by rw [fd.1 4 (by omega)]; exact F2, rfl⟩)
          have rrz : RR (up (up M13 (q + 4) c n1) q 5 (c + 1)) (up (up Yd 4 (48 * t + 4 * c + 3) n1) 5 t (c + 1)) m j1 q t n1 u1 n [false] := RR_v rrd (fun p hp => by rw [up_ne (by omega), up_ne (by omega)]) (by rw [up_col (by omega), up_row (by omega)]) (fun p hp => by rw [up_ne (by omega), up_ne (by omega)]) (fun k hk => by rw [up_row (by omega), up_row (by omega)])
          refine ⟨1, _, _, fun kk => cB_eq hkb tw (by rw [up_row (by omega)]; exact a2) oc v1 z2.2.1.2.1 ot rrc.2.1.1 tk (if_pos rfl) rrc.2.1.2.1 clo, CRf, XC_trans xcc (XC_trans (XC_up (by omega)) (XC_up (by omega))), YC_trans ycc (YC_trans (YC_RF fd) (YC_trans (YC_4 (by omega)) YC_5)), Or.inl ⟨rfl, c011.2, ?_, j1, n1, u1, n, [false], by omega, by omega, rrz, rc3⟩⟩
          rw [up_row (by omega), up_row (by omega), fd.2 14 (by omega) (by omega) (by omega)]; exact F14
      · rw [if_pos z1] at WR1
        rw [WR1, Option.bind_some] at CRf
        dsimp only at CRf
        rw [jchk_pos (Or.inl rfl)] at CRf
        obtain ⟨M13, M19, b1, b2, b3, b4, b5, b6, b7, b8⟩ := tail_11 (N := N) z2.2.1 hq (by rw [z2.2.2.1.2.1, m10q]; omega)
        exact ⟨0, M19, Y1, fun kk => cB_eq hkb tw (by rw [up_row (by omega)]; exact a2) oc v1 z2.2.1.2.2.1 b1 b2 b3 (if_pos rfl) b4 b5, CRf, XC_trans xcb (XC_trans (XC_XG z2.2.2.1) b7), YC_trans ycb (YC_YT z2.2.2.2 (by omega)), Or.inr ⟨rfl, FD_w z2.1 b8 rfl, b6⟩⟩
  · rw [if_neg K] at CRf
    obtain ⟨e1, e2, e3⟩ := FO_here (N := N) (w := 0) rr2 RF_refl rd2.2.2.2 (by omega)
    have tw : Rr_takeWed N c X = some (0, up X 2 4 (1 + 8 * X 4 j + 0)) := by
      unfold Rr_takeWed jbv
      rw [jchk_pos a1, lk, Option.bind_some, if_neg K, jchk_pos a1, e1, Option.bind_some]
    obtain ⟨X', b1, b2, b3, b4⟩ := tail_8 hN hkb tw e3.2.1 hq (by rw [e3.2.2.1.2.1]; omega)
    refine ⟨0, X', _, b1, ?_, XC_trans (XC_XG e3.2.2.1) b3, YC_trans (YC_RF f2) (YC_YT e3.2.2.2 (by omega)), Or.inr ⟨rfl, FD_w e3.1 b4 rfl, b2⟩⟩
    rw [CRf]
    unfold jb1
    rw [e2, Option.bind_some]
    dsimp only
    rw [jchk_pos (Or.inl rfl)]
