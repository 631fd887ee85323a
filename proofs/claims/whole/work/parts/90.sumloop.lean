/-! all of a sum -/
theorem sexit_ok {N : Nat} (hN : 1000 ≤ N) {X Y : jMem} {m j q t n v a hb e k i : Int} {ts tx : List Bool} {F T G : Nat} (h : RR X Y m j q t n v a (false :: tx)) (H : (hb = 0 ∧ e = 0 ∧ tx = ts) ∨ ((hb = 7 ∨ hb = 8) ∧ e = 1 ∧ tx = false :: ts)) (hk : 0 ≤ k) (hn : n + e + k ≤ j) (hK : X 3 j < 7 ∨ 11 < X 3 j) (hF : 1 ≤ F) (hT : 1 ≤ T) (hG : 1 ≤ G) :
    ∃ X' Y', jfix F (Rr_readSum_L16 N) (hb, X 3 j, i, X) = some (0, X') ∧ sE N hb T G Y = some (1, Y') ∧ RR X' Y' m j q t (n + e) v a (false :: ts) ∧ XG q n X X' ∧ YG t n Y Y' := by
  have nn := RR_nums h
  obtain ⟨c, Y2, g⟩ := sgn hN h.1
  have g' := g
  obtain ⟨-, -, eY2, rd2, f2, y8, -⟩ := g
  have rr2 : RR X Y2 m j q t n v a (false :: tx) := by rw [eY2]; exact RR_see h
  obtain ⟨X', Z, p1, p2', p3, p4, p5, p6, p7⟩ := held_ok (N := N) rr2 H (by omega)
  obtain ⟨c', Z2, gz⟩ := sgn hN p3.1
  have gz' := gz
  obtain ⟨-, -, eZ2, -, fz, -⟩ := gz
  have x3 : X' 3 = X 3 := p6 3 (by omega) (by omega)
  have rr3 : RR X' Z2 m j q t (n + e) v a (false :: ts) := by rw [eZ2]; exact RR_see p3
  have sx := sum_exit gz' (G := G) (by rw [x3]; omega) hG
  have tx' := term_exit g' (T := T) (by omega) hT
  refine ⟨X', Z2, ?_, ?_, rr3, p4, YG_trans (YG_RF f2) (YG_trans p5 (YG_RF fz (n := n)) (by omega)) (Int.le_refl n)⟩
  · obtain ⟨F', rfl⟩ : ∃ F', F = F' + 1 := ⟨F - 1, by omega⟩
    rw [jfix_s]
    generalize jfix F' (Rr_readSum_L16 N) = kk
    have E : (if hb = 0 then some ((0 : Int), X) else jchk (jkb jTX (X 12 1) 5 = true) <| jbv (Ru_apply N (X 12 1) hb X) fun M9 => some ((0 : Int), M9)) = some (0, X') := by
      by_cases c0 : hb = 0
      · rw [if_pos c0] at p1 ⊢; exact p1
      · rw [if_neg c0] at p1 ⊢
        unfold jbv
        rw [h.2.1.2.1, jchk_pos nn.2.2.2.1, p1, Option.bind_some]
    unfold Rr_readSum_L16 jlt
    dsimp only
    by_cases ci : i < 400
    · rw [if_pos ci]
      rcases hK with w | w
      · rw [if_pos w]; exact E
      · rw [if_neg (show ¬ X 3 j < 7 by omega), if_pos w]; exact E
    · rw [if_neg ci]; exact E
  · unfold sE jb1 jbv
    rw [tx', Option.bind_some]
    dsimp only
    rw [if_neg (show ¬ (1 : Int) = 0 by decide)]
    by_cases c0 : hb = 0
    · rw [if_pos c0] at p2' ⊢
      rw [Option.some.injEq, Prod.mk.injEq] at p2'
      rw [p2'.2]; exact sx
    · rw [if_neg c0] at p2' ⊢
      rw [p2', Option.bind_some]; exact sx
theorem sloop_ok {N : Nat} (hN : 1000 ≤ N) {m q t a k : Int} {ts : List Bool} (hl : ts.length ≤ 37) (hk : 0 ≤ k) : ∀ (d : Nat) (X Y : jMem) (j n v hb e i : Int) (tx : List Bool) (F T G : Nat), m - j ≤ (d : Int) → d < N → RR X Y m j q t n v a (false :: tx) → ((hb = 0 ∧ e = 0 ∧ tx = ts) ∨ ((hb = 7 ∨ hb = 8) ∧ e = 1 ∧ tx = false :: ts)) → n + e + k ≤ j → (0 ≤ i ∧ i ≤ j) → d < F → d < T → d < G →
    ∃ (r : Int) (X' Y' : jMem), jfix F (Rr_readSum_L16 N) (hb, X 3 j, i, X) = some (0, X') ∧ sE N hb T G Y = some (r, Y') ∧ ((r = 1 ∧ ∃ j' n' v', RR X' Y' m j' q t n' v' a (false :: ts) ∧ j ≤ j' ∧ n ≤ n' ∧ n' + k ≤ j' ∧ XG q n X X' ∧ YG t n Y Y') ∨ (r = 0 ∧ FO q t X Y X' Y')) := by
  intro d
  induction d with
  | zero =>
    intro X Y j n v hb e i tx F T G hd hdN h H hn hi hF hT hG
    have nn := RR_nums h
    have K0 : X 3 j = 0 := by
      rcases At_pl h.1.1 with z | z
      · exact z.2.2
      · omega
    obtain ⟨X', Y', s1, s2, s3, s4, s5⟩ := sexit_ok hN (F := F) (T := T) (G := G) (i := i) h H hk hn (by omega) (by omega) (by omega) (by omega)
    exact ⟨1, X', Y', s1, s2, Or.inl ⟨rfl, j, n + e, v, s3, by omega, by omega, by omega, s4, s5⟩⟩
  | succ d ih =>
    intro X Y j n v hb e i tx F T G hd hdN h H hn hi hF hT hG
    have nn := RR_nums h
    by_cases hK : X 3 j < 7 ∨ 11 < X 3 j
    · obtain ⟨X', Y', s1, s2, s3, s4, s5⟩ := sexit_ok hN (F := F) (T := T) (G := G) (i := i) h H hk hn hK (by omega) (by omega) (by omega)
      exact ⟨1, X', Y', s1, s2, Or.inl ⟨rfl, j, n + e, v, s3, by omega, by omega, by omega, s4, s5⟩⟩
    · obtain ⟨F', rfl⟩ : ∃ F', F = F' + 1 := ⟨F - 1, by omega⟩
      obtain ⟨T', rfl⟩ : ∃ T', T = T' + 1 := ⟨T - 1, by omega⟩
      obtain ⟨G', rfl⟩ : ∃ G', G = G' + 1 := ⟨G - 1, by omega⟩
      have jm := kind_end h.1.1 (show X 3 j ≠ 0 by omega)
      have pl := At_pl h.1.1
      have y400 := h.1.1.2.1
      have txl : tx.length ≤ 38 := by
        rcases H with ⟨-, -, z⟩ | ⟨-, -, z⟩
        · rw [z]; omega
        · rw [z, List.length_cons]; omega
      have e01 : e = 0 ∨ e = 1 := by omega
      by_cases c9 : 9 ≤ X 3 j
      · obtain ⟨c, Y2, g⟩ := sgn hN h.1
        have rr1 := RR_pass h g (by omega) (by omega)
        have f2 := g.2.2.2.2.1
        obtain ⟨r, Xv, Yv, v1, v2, v3⟩ := value_ok hN rr1 (by omega) (by rw [List.length_cons]; omega)
        have mv := move_ok (N := N) h.1 jm
        have yp : YG t n Y (up Y2 0 8 (X 4 j + 1)) := YG_RF (RF_trans f2 RF_up8)
        rcases v3 with ⟨z1, z2, z3, z4⟩ | ⟨z1, z2⟩
        · have nz := RR_nums z2
          obtain ⟨s, hs, hc⟩ : ∃ s : Int, ((X 3 j = 9 ∧ s = 4) ∨ (X 3 j = 10 ∧ s = 5) ∨ (X 3 j = 11 ∧ s = 14)) ∧ CR (-(X 3 j)) s := by
            by_cases d9 : X 3 j = 9
            · exact ⟨4, by omega, by rw [d9]; unfold CR; decide⟩
            by_cases d10 : X 3 j = 10
            · exact ⟨5, by omega, by rw [d10]; unfold CR; decide⟩
            · exact ⟨14, by omega, by rw [show X 3 j = 11 by omega]; unfold CR; decide⟩
          obtain ⟨Xw, Yw, w1, w2, w3, w4, w5, w6, w7⟩ := applyR (N := N) (K := X 3 j) (s := s) z2 (by omega) (by omega) (by omega) hc (ty_num (by omega))
          have ts1 := term_step (T := T') (Yw := Yw) g (by omega) (by omega) v2 (fun _ s' hs' => by rw [show s' = s by omega]; exact w2)
          rw [if_neg (show ¬ r = 0 by omega)] at ts1
          have lk := looked_ok (N := N) w3.1
          obtain ⟨r', X', Y', o1, o2, o3⟩ := ih Xw Yw (j + 1 + 1) (n + 1 + 1) (v + 1) hb e (i + 1) tx F' T' (G' + 1) (by omega) (by omega) w3 H (by omega) (by omega) (by omega) (by omega) (by omega)
          have xw : XG q n X Xw := XG_trans (XG_2 (n := n) (by omega)) (XG_trans z3 w4 (by omega)) (by omega)
          have yw : YG t n Y Yw := YG_trans yp (YG_trans z4 w5 (by omega)) (by omega)
          refine ⟨r', X', Y', ?_, ?_, ?_⟩
          · rw [jfix_s]
            generalize jfix F' (Rr_readSum_L16 N) = kk at o1 ⊢
            unfold Rr_readSum_L16 jlt jbv
            dsimp only
            rw [if_pos (show i < 400 by omega), if_neg (show ¬ X 3 j < 7 by omega), if_neg (show ¬ 11 < X 3 j by omega), if_neg (show ¬ X 3 j = 7 by omega), if_neg (show ¬ X 3 j = 8 by omega), if_pos rfl, jchk_pos h.2.1.1, mv, Option.bind_some]
            dsimp only
            rw [v1, Option.bind_some]
            dsimp only
            rw [if_pos rfl, jchk_pos (show jkb jTX (Xv 12 1) 5 = true by rw [z2.2.1.2.1]; exact nn.2.2.2.1), z2.2.1.2.1, w1, Option.bind_some]
            dsimp only
            rw [jchk_pos w3.2.1.1, lk, Option.bind_some, w32_id (by omega)]
            exact o1
          · unfold sE at o2 ⊢
            rw [ts1]; exact o2
          · rcases o3 with ⟨u1, j', n', v', u2, u3, u4, u5, u6, u7⟩ | ⟨u1, u2⟩
            · exact Or.inl ⟨u1, j', n', v', u2, by omega, by omega, u5, XG_trans xw u6 (by omega), YG_trans yw u7 (by omega)⟩
            · exact Or.inr ⟨u1, FO_ahead (XG_le xw (by omega)) (YT_G (YG_le yw (by omega))) u2⟩
        · have ts1 := term_step (T := T') (Yw := Yv) g (by omega) (by omega) v2 (fun w => absurd z1 w)
          rw [if_pos z1] at ts1
          obtain ⟨X3, b1, b2, b3, b4⟩ := apply_F (N := N) (c := X 3 j) z2.2.1 nn.2.2.1.1
          obtain ⟨X', d1, d2, d3, d4⟩ := sloop_F (N := N) (G := F') (x4 := hb) (i := i + 1) b2 nn.2.2.1.1 nn.2.2.2.1 (by omega)
          refine ⟨0, X', Yv, ?_, ?_, Or.inr ⟨rfl, FO_ahead (XG_2 (by omega)) (YT_G (YG_le yp (by omega))) (FO_more (FO_more z2 b2 b3 b4) d2 d3 d4)⟩⟩
          · rw [jfix_s]
            generalize jfix F' (Rr_readSum_L16 N) = kk at d1 ⊢
            unfold Rr_readSum_L16 jlt jbv
            dsimp only
            rw [if_pos (show i < 400 by omega), if_neg (show ¬ X 3 j < 7 by omega), if_neg (show ¬ 11 < X 3 j by omega), if_neg (show ¬ X 3 j = 7 by omega), if_neg (show ¬ X 3 j = 8 by omega), if_pos rfl, jchk_pos h.2.1.1, mv, Option.bind_some]
            dsimp only
            rw [v1, Option.bind_some]
            dsimp only
            rw [if_pos rfl, jchk_pos (show jkb jTX (Xv 12 1) 5 = true by rw [z2.2.1.2.2.1]; exact nn.2.2.2.1), z2.2.1.2.2.1, b1, Option.bind_some]
            dsimp only
            rw [jchk_pos b2.2.1, looked_F b2.1, Option.bind_some, w32_id (by omega)]
            exact d1
          · unfold sE jb1
            rw [ts1, Option.bind_some]
            dsimp only
            rw [if_pos rfl]
      · obtain ⟨c, Y2, g⟩ := sgn hN h.1
        have g' := g
        obtain ⟨-, -, eY2, rd2, f2, y8, -⟩ := g
        have rr2 : RR X Y2 m j q t n v a (false :: tx) := by rw [eY2]; exact RR_see h
        obtain ⟨Xh, Z, p1, p2', p3, p4, p5, p6, p7⟩ := held_ok (N := N) rr2 H (by omega)
        obtain ⟨c', Z2, gz⟩ := sgn hN p3.1
        have x3 : Xh 3 = X 3 := p6 3 (by omega) (by omega)
        have x4 : Xh 4 = X 4 := p6 4 (by omega) (by omega)
        have K3 : Xh 3 j = X 3 j := by rw [x3]
        have K4 : Xh 4 j = X 4 j := by rw [x4]
        have rr1 := RR_pass p3 gz (by omega) (by omega)
        obtain ⟨r, Xv, Yv, v1, v2, v3⟩ := value_ok hN rr1 (by omega) (by rw [List.length_cons]; omega)
        have mv := move_ok (N := N) p3.1 jm
        have te := term_exit g' (T := T' + 1) (by omega) (by omega)
        have st := sum_step (G := G') gz (by omega) (by omega)
        rw [v2] at st
        unfold jb1 at st
        rw [Option.bind_some] at st
        dsimp only at st
        have yz : YG t n Y Z2 := YG_trans (YG_RF f2) (YG_trans p5 (YG_RF gz.2.2.2.2.1 (n := n)) (by omega)) (Int.le_refl n)
        have yp : YG t n Y (up Z2 0 8 (Xh 4 j + 1)) := YG_trans yz (YG_RF RF_up8) (Int.le_refl n)
        have xp : XG q n X (up Xh 2 3 (j + 1)) := XG_trans p4 (XG_2 (n := n) (by omega)) (by omega)
        have EX : ∀ kk : Int × Int × Int × jMem → Option (Int × jMem), Rr_readSum_L16 N kk (hb, X 3 j, i, X) = ((To_looked N Xv).bind fun r18 => jchk (Xv 12 0 = 2) (kk (X 3 j, r18, i + 1, Xv))) ∨ Xv 12 0 ≠ 2 := fun kk => by
          by_cases x12 : Xv 12 0 = 2
          · refine Or.inl ?_
            have E : (if hb = 0 then some ((0 : Int), X) else (jchk (jkb jTX (X 12 1) 5 = true) (Ru_apply N (X 12 1) hb X))) = some (0, Xh) := by
              rw [h.2.1.2.1, jchk_pos nn.2.2.2.1]; exact p1
            unfold Rr_readSum_L16 jlt jbv
            dsimp only
            rw [if_pos (show i < 400 by omega), if_neg (show ¬ X 3 j < 7 by omega), if_neg (show ¬ 11 < X 3 j by omega)]
            have T1 : (jchk (Xh 12 0 = 2) <| (To_move N Xh).bind fun o => (Rr_readValue N o.2).bind fun o => if (1 : Int) = 0 then jchk (jkb jTX (o.2 12 1) 5 = true) <| (Ru_apply N (o.2 12 1) (X 3 j) o.2).bind fun o => jchk (o.2 12 0 = 2) <| (To_looked N o.2).bind fun r18 => kk (hb, r18, w32 (i + 1), o.2) else jchk (o.2 12 0 = 2) <| (To_looked N o.2).bind fun r18 => kk (X 3 j, r18, w32 (i + 1), o.2)) = (To_looked N Xv).bind fun r18 => jchk (Xv 12 0 = 2) (kk (X 3 j, r18, i + 1, Xv)) := by
              rw [jchk_pos p3.2.1.1, mv, Option.bind_some]
              dsimp only
              rw [v1, Option.bind_some]
              dsimp only
              rw [if_neg (show ¬ (1 : Int) = 0 by decide), jchk_pos x12, w32_id (by omega)]
              cases To_looked N Xv with
              | none => rfl
              | some z => rw [Option.bind_some, Option.bind_some, jchk_pos x12]
            have T2 : (if (1 : Int) = 0 then (jchk (X 12 0 = 2) <| (To_move N X).bind fun o => (Rr_readValue N o.2).bind fun o => if (1 : Int) = 0 then jchk (jkb jTX (o.2 12 1) 5 = true) <| (Ru_apply N (o.2 12 1) (X 3 j) o.2).bind fun o => jchk (o.2 12 0 = 2) <| (To_looked N o.2).bind fun r18 => kk (hb, r18, w32 (i + 1), o.2) else jchk (o.2 12 0 = 2) <| (To_looked N o.2).bind fun r18 => kk (X 3 j, r18, w32 (i + 1), o.2)) else if hb = 0 then (jchk (X 12 0 = 2) <| (To_move N X).bind fun o => (Rr_readValue N o.2).bind fun o => if (1 : Int) = 0 then jchk (jkb jTX (o.2 12 1) 5 = true) <| (Ru_apply N (o.2 12 1) (X 3 j) o.2).bind fun o => jchk (o.2 12 0 = 2) <| (To_looked N o.2).bind fun r18 => kk (hb, r18, w32 (i + 1), o.2) else jchk (o.2 12 0 = 2) <| (To_looked N o.2).bind fun r18 => kk (X 3 j, r18, w32 (i + 1), o.2)) else jchk (jkb jTX (X 12 1) 5 = true) <| (Ru_apply N (X 12 1) hb X).bind fun o => (jchk (o.2 12 0 = 2) <| (To_move N o.2).bind fun o => (Rr_readValue N o.2).bind fun o => if (1 : Int) = 0 then jchk (jkb jTX (o.2 12 1) 5 = true) <| (Ru_apply N (o.2 12 1) (X 3 j) o.2).bind fun o => jchk (o.2 12 0 = 2) <| (To_looked N o.2).bind fun r18 => kk (hb, r18, w32 (i + 1), o.2) else jchk (o.2 12 0 = 2) <| (To_looked N o.2).bind fun r18 => kk (X 3 j, r18, w32 (i + 1), o.2))) = (To_looked N Xv).bind fun r18 => jchk (Xv 12 0 = 2) (kk (X 3 j, r18, i + 1, Xv)) := by
              rw [if_neg (show ¬ (1 : Int) = 0 by decide)]
              by_cases c0 : hb = 0
              · rw [if_pos c0] at p1 ⊢
                rw [Option.some.injEq, Prod.mk.injEq] at p1
                rw [← p1.2] at T1; exact T1
              · rw [if_neg c0] at p1 ⊢
                rw [h.2.1.2.1, jchk_pos nn.2.2.2.1, p1, Option.bind_some]; exact T1
            by_cases c7 : X 3 j = 7
            · rw [if_pos c7]; exact T2
            · rw [if_neg c7, if_pos (show X 3 j = 8 by omega)]; exact T2
          · exact Or.inr x12
        have EY : sE N hb (T' + 1) (G' + 1) Y = if r = 0 then some (0, Yv) else sE N (Xh 3 j) N G' Yv := by
          rw [← st]
          unfold sE jb1 jbv
          rw [te, Option.bind_some]
          dsimp only
          rw [if_neg (show ¬ (1 : Int) = 0 by decide)]
          by_cases c0 : hb = 0
          · rw [if_pos c0] at p2' ⊢
            rw [Option.some.injEq, Prod.mk.injEq] at p2'
            rw [p2'.2]
          · rw [if_neg c0] at p2' ⊢
            rw [p2', Option.bind_some]
        rcases v3 with ⟨z1, z2, z3, z4⟩ | ⟨z1, z2⟩
        · have nz := RR_nums z2
          have lk := looked_ok (N := N) z2.1
          obtain ⟨r', X', Y', o1, o2, o3⟩ := ih Xv Yv (j + 1 + 1) (n + e + 1) (v + 1) (X 3 j) 1 (i + 1) (false :: ts) F' N G' (by omega) (by omega) z2 (Or.inr ⟨by omega, rfl, rfl⟩) (by omega) (by omega) (by omega) (by omega) (by omega)
          have xw : XG q n X Xv := XG_trans xp z3 (by omega)
          have yw : YG t n Y Yv := YG_trans yp z4 (by omega)
          refine ⟨r', X', Y', ?_, ?_, ?_⟩
          · rw [jfix_s]
            rcases EX (jfix F' (Rr_readSum_L16 N)) with w | w
            · rw [w, lk, Option.bind_some, jchk_pos z2.2.1.1]; exact o1
            · exact absurd z2.2.1.1 w
          · rw [EY, if_neg (show ¬ r = 0 by omega), K3]; exact o2
          · rcases o3 with ⟨u1, j', n', v', u2, u3, u4, u5, u6, u7⟩ | ⟨u1, u2⟩
            · exact Or.inl ⟨u1, j', n', v', u2, by omega, by omega, u5, XG_trans xw u6 (by omega), YG_trans yw u7 (by omega)⟩
            · exact Or.inr ⟨u1, FO_ahead (XG_le xw (by omega)) (YT_G (YG_le yw (by omega))) u2⟩
        · obtain ⟨X', d1, d2, d3, d4⟩ := sloop_F (N := N) (G := F') (x4 := X 3 j) (i := i + 1) z2.2.1 nn.2.2.1.1 nn.2.2.2.1 (by omega)
          refine ⟨0, X', Yv, ?_, ?_, Or.inr ⟨rfl, FO_ahead (XG_le xp (by omega)) (YT_G (YG_le yp (by omega))) (FO_more z2 d2 d3 d4)⟩⟩
          · rw [jfix_s]
            rcases EX (jfix F' (Rr_readSum_L16 N)) with w | w
            · rw [w, looked_F z2.2.1.1, Option.bind_some, jchk_pos z2.2.1.2.1]; exact d1
            · exact absurd z2.2.1.2.1 w
          · rw [EY, if_pos z1]
theorem sum_ok {N : Nat} (hN : 1000 ≤ N) {X Y : jMem} {m j q t n v a k : Int} {ts : List Bool} (h : RR X Y m j q t n v a ts) (hk : 0 ≤ k) (hn : n + k ≤ j) (hl : ts.length ≤ 37) :
    ∃ (r : Int) (X' Y' : jMem), Rr_readSum N X = some (0, X') ∧ m_sum N Y = some (r, Y') ∧ ((r = 1 ∧ ∃ j' n' v', RR X' Y' m j' q t n' v' a (false :: ts) ∧ j < j' ∧ n < n' ∧ n' + k ≤ j' ∧ XG q n X X' ∧ YG t n Y Y') ∨ (r = 0 ∧ FO q t X Y X' Y')) := by
  have nn := RR_nums h
  obtain ⟨r, Xv, Yv, v1, v2, v3⟩ := value_ok hN h (by omega) (by omega)
  have EY : m_sum N Y = if r = 0 then some (0, Yv) else sE N 0 N N Yv := by
    unfold m_sum m_term sE jb1
    rw [v2, Option.bind_some]
    dsimp only
    by_cases c0 : r = 0
    · rw [if_pos c0, if_pos c0, Option.bind_some]
      dsimp only
      rw [if_pos rfl]
    · rw [if_neg c0, if_neg c0]
      rfl
  rcases v3 with ⟨z1, z2, z3, z4⟩ | ⟨z1, z2⟩
  · have nz := RR_nums z2
    obtain ⟨r', X', Y', o1, o2, o3⟩ := sloop_ok hN hl hk 400 Xv Yv (j + 1) (n + 1) (v + 1) 0 0 0 ts N N N (by omega) (by omega) z2 (Or.inl ⟨rfl, rfl, rfl⟩) (by omega) (by omega) (by omega) (by omega) (by omega)
    refine ⟨r', X', Y', ?_, by rw [EY, if_neg (show ¬ r = 0 by omega)]; exact o2, ?_⟩
    · unfold Rr_readSum jbv
      rw [v1, Option.bind_some]
      dsimp only
      rw [jchk_pos z2.2.1.1, looked_ok (N := N) z2.1, Option.bind_some]
      exact o1
    · rcases o3 with ⟨u1, j', n', v', u2, u3, u4, u5, u6, u7⟩ | ⟨u1, u2⟩
      · exact Or.inl ⟨u1, j', n', v', u2, by omega, by omega, u5, XG_trans z3 u6 (by omega), YG_trans z4 u7 (by omega)⟩
      · exact Or.inr ⟨u1, FO_ahead (XG_le z3 (by omega)) (YT_G (YG_le z4 (by omega))) u2⟩
  · obtain ⟨X', d1, d2, d3, d4⟩ := sloop_F (N := N) (G := N) (x4 := 0) (i := 0) z2.2.1 nn.2.2.1.1 nn.2.2.2.1 (by omega)
    refine ⟨0, X', Yv, ?_, by rw [EY, if_pos z1], Or.inr ⟨rfl, FO_more z2 d2 d3 d4⟩⟩
    unfold Rr_readSum jbv
    rw [v1, Option.bind_some]
    dsimp only
    rw [jchk_pos z2.2.1.2.1, looked_F z2.2.1.1, Option.bind_some]
    exact d1
