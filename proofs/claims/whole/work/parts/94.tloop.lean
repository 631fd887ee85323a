/-! AND and OR on both sides -/
theorem SG_n {N : Nat} (hN : 1000 ≤ N) {X Y Y2 : jMem} {m j c : Int} (g : SG N X Y Y2 m j c) : SG N X Y2 Y2 m j c := by
  obtain ⟨c', Y2', g'⟩ := sgn hN g.2.2.2.1
  have e : Y2' = Y2 := by rw [g'.2.2.1, up_same g.2.2.2.2.2.1]
  have s := g'.1
  rw [g.2.1, Option.some.injEq, Prod.mk.injEq] at s
  rw [e, ← s.1] at g'
  exact g'
theorem texit_ok {N : Nat} (hN : 1000 ≤ N) {rt rf : Int → jMem → Option (Int × jMem)} {X M7 Y : jMem} {m j q t n v a k s x b i deep : Int} {tb tw ts : List Bool} {F fC fG : Nat} (hF : 1 ≤ F) (hdp : 0 ≤ deep ∧ deep ≤ 10) (hk : 0 ≤ k) (hs : 0 ≤ s) (h : RR X Y m j q t n v a tb) (hb : (b = 0 ∧ M7 = X ∧ tb = tw) ∨ (b = 1 ∧ Ru_apply N q 24 X = some (0, M7) ∧ ∃ r, tb = true :: true :: r ∧ tw = true :: r)) (hx : (x = 0 ∧ tw = true :: ts) ∨ (x = 1 ∧ tw = true :: true :: ts)) (hn : n + b + x + k ≤ j) (hd : Y 0 13 = deep) (ho : Y 0 16 = s + x + b) (hs2 : s + x + b < j) (h13 : x = 1 → Y 7 s = 13) (h12 : b = 1 → Y 7 (s + x) = 12) (htop : s = 0 ∨ Y 7 (s - 1) = 91) (hM : ∀ p, p ≠ q → p ≠ q + 1 → M7 p = X p) (hC : m - j < (fC : Int)) (hG : m - j < (fG : Int)) (hK : X 3 j ≠ 24 ∧ X 3 j ≠ 23) :
    ∃ X', jfix F (Rr_readTest_L18 N rt rf deep) (x, X 3 j, i, M7) = some (0, X') ∧ TE N X Y (tQ N fC (jfix fG (m_tested_L12 N)) Y) m j n q t n a k s deep ts X' := by
  have nn := RR_nums h
  obtain ⟨c, Y2, g⟩ := sgn hN h.1
  have g' := g
  obtain ⟨-, -, eY2, rd2, f2, y8, -⟩ := g
  have rr2 : RR X Y2 m j q t n v a tb := by rw [eY2]; exact RR_see h
  have y7 : Y2 7 = Y 7 := f2.1 7 (by omega)
  have y16 : Y2 0 16 = s + x + b := by rw [f2.2 16 (by omega) (by omega) (by omega)]; exact ho
  have y13 : Y2 0 13 = deep := by rw [f2.2 13 (by omega) (by omega) (by omega)]; exact hd
  have b01 : b = 0 ∨ b = 1 := by
    rcases hb with w | w
    · exact Or.inl w.1
    · exact Or.inr w.1
  have x01 : x = 0 ∨ x = 1 := by
    rcases hx with w | w
    · exact Or.inl w.1
    · exact Or.inr w.1
  obtain ⟨X', Z, p1, p2', p3, p4, p5, p6, p7, p8, p9, p10⟩ := flush1 hN rr2 hb hx y16 hs (by omega) (by rw [y7]; exact h13) (by rw [y7]; exact h12) (by rw [y7]; exact htop) (by omega) (by omega)
  have m12 : M7 12 1 = q := by rw [hM 12 (by omega) (by omega)]; exact h.2.1.2.1
  refine ⟨X', ?_, Or.inl ⟨Y2, Z, j, n + b + x, v, fC, fG, tQ_see g' (by omega), RD_w rd2 (fun p a b => p10 p (by omega) (by omega)) rfl (fun _ _ => rfl), ?_, ?_, p2', p3, ?_, by omega, ⟨by rw [p6, y13], p4, fun i _ => by rw [p5, y7]⟩, ⟨by omega, by omega, fun i _ => by rw [y7], fun i i0 i1 => ?_⟩, ⟨hC, hG⟩, p8, YT_trans (YT_G (YG_RF f2)) p9 (Int.le_refl n), YT_G (YG_RF f2)⟩⟩
  · obtain ⟨F', rfl⟩ : ∃ F', F = F' + 1 := ⟨F - 1, by omega⟩
    rw [jfix_s]
    generalize jfix F' (Rr_readTest_L18 N rt rf deep) = kk
    have E : (if x = 0 then some ((0 : Int), M7) else jchk (jkb jTX (M7 12 1) 5 = true) <| jbv (Ru_apply N (M7 12 1) 23 M7) fun M9 => some ((0 : Int), M9)) = some (0, X') := by
      rcases p1 with ⟨w1, w2⟩ | ⟨w1, w2⟩
      · rw [if_pos w1, w2]
      · unfold jbv
        rw [if_neg (show ¬ x = 0 by omega), m12, jchk_pos nn.2.2.2.1, w2, Option.bind_some]
    unfold Rr_readTest_L18 jlt
    dsimp only
    rw [if_neg hK.1, if_neg hK.2]
    by_cases ci : i < 400
    · rw [if_pos ci]; exact E
    · rw [if_neg ci]; exact E
  · rw [y8, p10 4 (by omega) (by omega)]
  · rw [p10 3 (by omega) (by omega)]; exact hK
  · rw [p7, y8, p10 4 (by omega) (by omega)]
  · rw [y7]
    rw [y16] at i1
    by_cases c1 : x = 1
    · by_cases c2 : i = s
      · rw [c2, h13 c1]; decide
      · have b1 : b = 1 := by omega
        rw [show i = s + x by omega, h12 b1]; decide
    · have b1 : b = 1 := by omega
      rw [show i = s + x by omega, h12 b1]; decide
theorem tloop_ok {N : Nat} (hN : 1000 ≤ N) {rt rf : Int → jMem → Option (Int × jMem)} {deep : Int} (HF : FactOK N rf deep) (hdp : 0 ≤ deep ∧ deep ≤ 10) {m q t a k s : Int} {ts : List Bool} (hk : 0 ≤ k) (hl : (ts.length : Int) ≤ 2 * deep) (hs : 0 ≤ s) : ∀ (d : Nat) (X M7 Y : jMem) (j n v x b i : Int) (tb tw : List Bool) (F fC fG : Nat), m - j ≤ (d : Int) → d < F → RR X Y m j q t n v a tb → ((b = 0 ∧ M7 = X ∧ tb = tw) ∨ (b = 1 ∧ Ru_apply N q 24 X = some (0, M7) ∧ ∃ r, tb = true :: true :: r ∧ tw = true :: r)) → ((x = 0 ∧ tw = true :: ts) ∨ (x = 1 ∧ tw = true :: true :: ts)) → n + b + x + k ≤ j → Y 0 13 = deep → Y 0 16 = s + x + b → s + x + b < j → (x = 1 → Y 7 s = 13) → (b = 1 → Y 7 (s + x) = 12) → (s = 0 ∨ Y 7 (s - 1) = 91) → (∀ p, p ≠ q → p ≠ q + 1 → M7 p = X p) → 0 ≤ M7 q 1 → (0 ≤ i ∧ i ≤ j) → m - j < (fC : Int) → m - j < (fG : Int) →
    ∃ X', jfix F (Rr_readTest_L18 N rt rf deep) (x, X 3 j, i, M7) = some (0, X') ∧ TE N X Y (tQ N fC (jfix fG (m_tested_L12 N)) Y) m j n q t n a k s deep ts X' := by
  intro d
  induction d with
  | zero =>
    intro X M7 Y j n v x b i tb tw F fC fG hj hF h hb hx hn hd ho hs2 h13 h12 htop hM hMq hi hC hG
    have nn := RR_nums h
    have K0 : X 3 j = 0 := by
      rcases At_pl h.1.1 with z | z
      · exact z.2.2
      · omega
    exact texit_ok hN (by omega) hdp hk hs h hb hx hn hd ho hs2 h13 h12 htop hM hC hG (by omega)
  | succ d ih =>
    intro X M7 Y j n v x b i tb tw F fC fG hj hF h hb hx hn hd ho hs2 h13 h12 htop hM hMq hi hC hG
    have nn := RR_nums h
    by_cases hK : X 3 j ≠ 24 ∧ X 3 j ≠ 23
    · exact texit_ok hN (by omega) hdp hk hs h hb hx hn hd ho hs2 h13 h12 htop hM hC hG hK
    · have hK' : X 3 j = 24 ∨ X 3 j = 23 := by omega
      clear hK
      obtain ⟨F', rfl⟩ : ∃ F', F = F' + 1 := ⟨F - 1, by omega⟩
      obtain ⟨g0, rfl⟩ : ∃ g0, fG = g0 + 1 := ⟨fG - 1, by omega⟩
      have jm := kind_end h.1.1 (show X 3 j ≠ 0 by omega)
      obtain ⟨c, Y2, g⟩ := sgn hN h.1
      have g' := g
      obtain ⟨-, -, eY2, rd2, f2, y8, ⟨-, -, k6, -⟩, -⟩ := g
      have c93 : c ≠ 93 := fun z => by have := k6.mp z; omega
      have rr2 : RR X Y2 m j q t n v a tb := by rw [eY2]; exact RR_see h
      obtain ⟨Y3, w1, w2, w3, w4, w5⟩ := passWord_ok hN rd2 y8 (by omega)
      have f3 := RF_trans f2 w2
      have y7 : Y3 7 = Y 7 := f3.1 7 (by omega)
      have y16 : Y3 0 16 = s + x + b := by rw [f3.2 16 (by omega) (by omega) (by omega)]; exact ho
      have y13 : Y3 0 13 = deep := by rw [f3.2 13 (by omega) (by omega) (by omega)]; exact hd
      have rd1 := RD_next rd2 w5 w3
      have rr1 : RR (up X 2 3 (j + 1)) Y3 m (j + 1) q t n v a tb := RR_w h rd1 (fun p b1 _ => up_ne b1) (up_row (by omega)) (up_row (by omega)) (by rw [up_row (by omega)]; exact h.2.2.1.1) (f3.1 2 (by omega)) (f3.1 3 (by omega)) (f3.2 11 (by omega) (by omega) (by omega)) (by rw [f3.2 12 (by omega) (by omega) (by omega)]; exact h.2.2.1.2.1) h.2.2.1.2.2
      have b01 : b = 0 ∨ b = 1 := by
        rcases hb with w | w
        · exact Or.inl w.1
        · exact Or.inr w.1
      have x01 : x = 0 ∨ x = 1 := by
        rcases hx with w | w
        · exact Or.inl w.1
        · exact Or.inr w.1
      have hb' : (b = 0 ∧ up M7 2 3 (j + 1) = up X 2 3 (j + 1) ∧ tb = tw) ∨ (b = 1 ∧ Ru_apply N q 24 (up X 2 3 (j + 1)) = some (0, up M7 2 3 (j + 1)) ∧ ∃ r, tb = true :: true :: r ∧ tw = true :: r) := by
        rcases hb with ⟨e1, e2, e3⟩ | ⟨e1, e2, e3⟩
        · exact Or.inl ⟨e1, by rw [e2], e3⟩
        · exact Or.inr ⟨e1, apply_mv e2 (by omega) (by omega), e3⟩
      have twl : (tw.length : Int) ≤ 2 * deep + 2 := by
        rcases hx with ⟨-, e⟩ | ⟨-, e⟩
        · rw [e, List.length_cons]; omega
        · rw [e, List.length_cons, List.length_cons]; omega
      have EQ : tQ N fC (jfix (g0 + 1) (m_tested_L12 N)) Y = tR N (jfix (g0 + 1) (m_tested_L12 N)) Y2 := by
        rw [tQ_see g' (by omega), tQ_out (SG_n hN g') (by omega) (Or.inl c93)]
      have m12 : M7 12 = X 12 := hM 12 (by omega) (by omega)
      rcases hK' with K | K
      · -- AND
        obtain ⟨Z, p1, p2', p3, p4, p5, p6, p7, p8⟩ := flush2 hN rr1 hb' x01 y16 hs (by omega) (by rw [y7]; exact h13) (by rw [y7]; exact h12) (by rw [y7]; exact htop) (by omega) (by omega)
        generalize hY4 : up (up Z 7 (s + x) 12) 0 16 (s + x + 1) = Y4
        have rw1 := tR_and hN (h12 := jfix (g0 + 1) (m_tested_L12 N)) rd2.1 y8 K w1 p1 p3 (by omega)
        rw [hY4, jfix_s, tested_1] at rw1
        have e7 : ∀ u, u ≠ s + x → Y4 7 u = Y 7 u := fun u hu => by rw [← hY4, up_row (by omega), up_col hu, p4, y7]
        have e7' : Y4 7 (s + x) = 12 := by rw [← hY4, up_row (by omega), up_hit rfl rfl]
        have e16 : Y4 0 16 = s + x + 1 := by rw [← hY4, up_hit rfl rfl]
        have e13 : Y4 0 13 = deep := by rw [← hY4, up_col (by omega), up_row (by omega), p5, y13]
        have rr4 : RR (up M7 2 3 (j + 1)) Y4 m (j + 1) q t (n + b) v a tw := RR_w p2' (RD_w p2'.1 (fun _ _ _ => rfl) (by rw [← hY4, up_ne (by omega), up_ne (by omega)]) (fun u hu => by rw [← hY4, up_col (by omega), up_row (by omega)])) (fun _ _ _ => rfl) rfl rfl p2'.2.2.1.1 (by rw [← hY4, up_ne (by omega), up_ne (by omega)]) (by rw [← hY4, up_ne (by omega), up_ne (by omega)]) (by rw [← hY4, up_col (by omega), up_row (by omega)]) (by rw [← hY4, up_col (by omega), up_row (by omega)]; exact p2'.2.2.1.2.1) p2'.2.2.1.2.2
        have yt4 : YT t n Y Y4 := YT_trans (YT_G (YG_RF f3)) (YT_trans p8 (n' := n) ⟨fun p b1 _ _ b2 => by rw [← hY4, up_ne b1, up_ne b2], fun u _ _ _ _ _ b1 => by rw [← hY4, up_col b1, up_row (by omega)], fun u _ => by rw [← hY4, up_row (by omega), up_row (by omega)]⟩ (Int.le_refl n)) (Int.le_refl n)
        have xt4 : XG q n X (up M7 2 3 (j + 1)) := XG_trans (XG_2 (n := n) (by omega)) p7 (Int.le_refl n)
        obtain ⟨X2, q1, q2'⟩ := HF (up M7 2 3 (j + 1)) Y4 m (j + 1) q t (n + b) v a (k + x + 1) (s + x + 1) tw N g0 rr4 (by omega) (by omega) twl e13 e16 (by omega) (by omega) (by omega) (by omega)
        have rdM : RD M7 Y m j := RD_w h.1 (fun p a b => hM p (by omega) (by omega)) rfl (fun _ _ => rfl)
        have mv := move_ok (N := N) rdM jm
        have EX : ∀ M19 r17, 0 ≤ X2 12 1 → X2 12 1 = q → Ru_apply N q 24 X2 = some (0, M19) → M19 12 0 = 2 → To_looked N M19 = some r17 → jfix (F' + 1) (Rr_readTest_L18 N rt rf deep) (x, X 3 j, i, M7) = jfix F' (Rr_readTest_L18 N rt rf deep) (x, r17, i + 1, M19) := fun M19 r17 _ e1 e2 e3 e4 => by
          rw [jfix_s]
          generalize jfix F' (Rr_readTest_L18 N rt rf deep) = kk
          unfold Rr_readTest_L18 jlt jbv
          dsimp only
          rw [if_pos (show i < 400 by omega), if_pos K, if_neg (show ¬ X 3 j = 23 by omega), jchk_pos (show M7 12 0 = 2 by rw [m12]; exact h.2.1.1), mv, Option.bind_some]
          dsimp only
          rw [q1, Option.bind_some]
          dsimp only
          rw [if_neg (show ¬ X 3 j = 23 by omega), jchk_pos (show jkb jTX (X2 12 1) 5 = true by rw [e1]; exact nn.2.2.2.1), e1, e2, Option.bind_some]
          dsimp only
          rw [jchk_pos e3, e4, Option.bind_some, w32_id (by omega)]
        rcases q2' with ⟨Y5, j5, n5, v5, fL, fC5, fG5, b1, b2, b3, b4, b5, b6, b7⟩ | ⟨Y5, b1, b2⟩
        · have n5' := RR_nums b2
          have cs := b2.2.2.2.1
          obtain ⟨M19, a1, a2, a3⟩ := apply_ex (N := N) (q := q) (K := 24) (M := X2) (by rw [cs.1]; omega)
          have rd19 : RD M19 Y5 m j5 := RD_w b2.1 (fun p a b => a2 p (by omega) (by omega)) rfl (fun _ _ => rfl)
          have lk := looked_ok (N := N) rd19
          rw [a2 3 (by omega) (by omega)] at lk
          have ps := tP_stop (N := N) (fL := fL) (fC := fC5) (h12 := jfix fG5 (m_tested_L12 N)) (Y := Y5) (by omega) (by
            refine Or.inr ?_
            rw [b4.2.1, show s + x + 1 - 1 = s + x by omega, b4.2.2 (s + x) (by omega), e7']; decide) (by omega)
          have tw1 : ∃ r, true :: tw = true :: true :: r ∧ tw = true :: r := by
            rcases hx with ⟨-, e⟩ | ⟨-, e⟩
            · exact ⟨ts, by rw [e], e⟩
            · exact ⟨true :: ts, by rw [e], e⟩
          obtain ⟨X', o1, o2⟩ := ih X2 M19 Y5 j5 n5 v5 x 1 (i + 1) (true :: tw) tw F' fC5 fG5 (by omega) (by omega) b2 (Or.inr ⟨rfl, a1, tw1⟩) hx (by omega) b4.1 b4.2.1 (by omega) (fun e => by rw [b4.2.2 s (by omega), e7 s (by omega)]; exact h13 e) (fun _ => by rw [b4.2.2 (s + x) (by omega)]; exact e7') (by
            rcases htop with w | w
            · exact Or.inl w
            · exact Or.inr (by rw [b4.2.2 (s - 1) (by omega), e7 (s - 1) (by omega)]; exact w)) a2 a3 (by omega) (by omega) (by omega)
          refine ⟨X', ?_, TE_ahead (by rw [EQ, rw1, b1, ps]) (XG_trans xt4 b6 (by omega)) (YT_trans yt4 b7 (by omega)) (fun u hu => by rw [b4.2.2 u (by omega), e7 u (by omega)]) (by omega) (by omega) (by omega) (by omega) o2⟩
          rw [EX M19 _ (by rw [b2.2.1.2.1]; omega) b2.2.1.2.1 a1 (by rw [a2 12 (by omega) (by omega)]; exact b2.2.1.1) lk]
          exact o1
        · obtain ⟨M19, a1, a2, a3, a4⟩ := apply_F (N := N) (c := 24) b2.2.1 nn.2.2.1.1
          obtain ⟨X', d1, d2, d3, d4⟩ := tloop_F (N := N) (G := F') (rt := rt) (rf := rf) (a1 := deep) (x4 := x) (i := i + 1) a2 nn.2.2.1.1 nn.2.2.2.1 (by omega)
          refine ⟨X', ?_, Or.inr ⟨Y5, by rw [EQ, rw1, b1], FO_ahead (XG_le xt4 (by omega)) (YT_le yt4 (by omega)) (FO_more (FO_more b2 a2 a3 a4) d2 d3 d4)⟩⟩
          rw [EX M19 0 (by rw [b2.2.1.2.2.1]; omega) b2.2.1.2.2.1 a1 a2.2.1 (looked_F a2.1)]
          exact d1
      · -- OR
        obtain ⟨Xz, Z, p0, p1, p2', p3, p4, p5, p6, p7, p8, p9⟩ := flush1 hN rr1 hb' hx y16 hs (by omega) (by rw [y7]; exact h13) (by rw [y7]; exact h12) (by rw [y7]; exact htop) (by omega) (by omega)
        generalize hY4 : up (up Z 7 s 13) 0 16 (s + 1) = Y4
        have rw1 := tR_or hN (h12 := jfix (g0 + 1) (m_tested_L12 N)) rd2.1 y8 K w1 p1 p3 (by omega)
        rw [hY4, jfix_s, tested_1] at rw1
        have e7 : ∀ u, u ≠ s → Y4 7 u = Y 7 u := fun u hu => by rw [← hY4, up_row (by omega), up_col hu, p4, y7]
        have e7' : Y4 7 s = 13 := by rw [← hY4, up_row (by omega), up_hit rfl rfl]
        have e16 : Y4 0 16 = s + 1 := by rw [← hY4, up_hit rfl rfl]
        have e13 : Y4 0 13 = deep := by rw [← hY4, up_col (by omega), up_row (by omega), p5, y13]
        have rr4 : RR Xz Y4 m (j + 1) q t (n + b + x) v a (true :: ts) := RR_w p2' (RD_w p2'.1 (fun _ _ _ => rfl) (by rw [← hY4, up_ne (by omega), up_ne (by omega)]) (fun u hu => by rw [← hY4, up_col (by omega), up_row (by omega)])) (fun _ _ _ => rfl) rfl rfl p2'.2.2.1.1 (by rw [← hY4, up_ne (by omega), up_ne (by omega)]) (by rw [← hY4, up_ne (by omega), up_ne (by omega)]) (by rw [← hY4, up_col (by omega), up_row (by omega)]) (by rw [← hY4, up_col (by omega), up_row (by omega)]; exact p2'.2.2.1.2.1) p2'.2.2.1.2.2
        have yt4 : YT t n Y Y4 := YT_trans (YT_G (YG_RF f3)) (YT_trans p8 (n' := n) ⟨fun p b1 _ _ b2 => by rw [← hY4, up_ne b1, up_ne b2], fun u _ _ _ _ _ b1 => by rw [← hY4, up_col b1, up_row (by omega)], fun u _ => by rw [← hY4, up_row (by omega), up_row (by omega)]⟩ (Int.le_refl n)) (Int.le_refl n)
        have xt4 : XG q n X Xz := XG_trans (XG_2 (n := n) (by omega)) p7 (Int.le_refl n)
        obtain ⟨M10, hM10, eXz, xM10⟩ : ∃ M10, ((x = 0 ∧ M10 = M7) ∨ (x = 1 ∧ Ru_apply N q 23 M7 = some (0, M10))) ∧ Xz = up M10 2 3 (j + 1) ∧ (∀ p, p ≠ q → p ≠ q + 1 → M10 p = X p) := by
          rcases p0 with ⟨u1, u2⟩ | ⟨u1, u2⟩
          · exact ⟨M7, Or.inl ⟨u1, rfl⟩, u2, hM⟩
          · obtain ⟨M10, a1, a2, a3⟩ := apply_ex (N := N) (q := q) (K := 23) (M := M7) hMq
            have am := apply_mv a1 (x := 2) (y := 3) (z := j + 1) (by omega) (by omega)
            rw [u2, Option.some.injEq, Prod.mk.injEq] at am
            exact ⟨M10, Or.inr ⟨u1, a1⟩, am.2, fun p b1 b2 => by rw [a2 p b1 b2, hM p b1 b2]⟩
        obtain ⟨X2, q1, q2'⟩ := HF Xz Y4 m (j + 1) q t (n + b + x) v a (k + 1) (s + 1) (true :: ts) N g0 rr4 (by omega) (by omega) (by rw [List.length_cons]; omega) e13 e16 (by omega) (by omega) (by omega) (by omega)
        have rdM : RD M10 Y m j := RD_w h.1 (fun p a b => xM10 p (by omega) (by omega)) rfl (fun _ _ => rfl)
        have mv := move_ok (N := N) rdM jm
        rw [← eXz] at mv
        have EX : ∀ r17, X2 12 0 = 2 → To_looked N X2 = some r17 → jfix (F' + 1) (Rr_readTest_L18 N rt rf deep) (x, X 3 j, i, M7) = jfix F' (Rr_readTest_L18 N rt rf deep) (1, r17, i + 1, X2) := fun r17 e3 e4 => by
          rw [jfix_s]
          generalize jfix F' (Rr_readTest_L18 N rt rf deep) = kk
          have T : (jchk (M10 12 0 = 2) <| (To_move N M10).bind fun o => (rf deep o.2).bind fun o => if X 3 j = 23 then jchk (o.2 12 0 = 2) <| (To_looked N o.2).bind fun r17 => kk (1, r17, w32 (i + 1), o.2) else jchk (jkb jTX (o.2 12 1) 5 = true) <| (Ru_apply N (o.2 12 1) 24 o.2).bind fun o => jchk (o.2 12 0 = 2) <| (To_looked N o.2).bind fun r17 => kk (x, r17, w32 (i + 1), o.2)) = kk (1, r17, i + 1, X2) := by
            rw [jchk_pos (show M10 12 0 = 2 by rw [xM10 12 (by omega) (by omega)]; exact h.2.1.1), mv, Option.bind_some]
            dsimp only
            rw [q1, Option.bind_some]
            dsimp only
            rw [if_pos K, jchk_pos e3, e4, Option.bind_some, w32_id (by omega)]
          unfold Rr_readTest_L18 jlt jbv
          dsimp only
          rw [if_pos (show i < 400 by omega), if_neg (show ¬ X 3 j = 24 by omega), if_pos K, if_pos K]
          rcases hM10 with ⟨u1, u2⟩ | ⟨u1, u2⟩
          · rw [if_pos u1, ← u2]; exact T
          · rw [if_neg (show ¬ x = 0 by omega), jchk_pos (show jkb jTX (M7 12 1) 5 = true by rw [m12, h.2.1.2.1]; exact nn.2.2.2.1), m12, h.2.1.2.1, u2, Option.bind_some]
            exact T
        rcases q2' with ⟨Y5, j5, n5, v5, fL, fC5, fG5, b1, b2, b3, b4, b5, b6, b7⟩ | ⟨Y5, b1, b2⟩
        · have n5' := RR_nums b2
          have cs := b2.2.2.2.1
          have lk := looked_ok (N := N) b2.1
          have ps := tP_stop (N := N) (fL := fL) (fC := fC5) (h12 := jfix fG5 (m_tested_L12 N)) (Y := Y5) (by omega) (by
            refine Or.inr ?_
            rw [b4.2.1, show s + 1 - 1 = s by omega, b4.2.2 s (by omega), e7']; decide) (by omega)
          obtain ⟨X', o1, o2⟩ := ih X2 X2 Y5 j5 n5 v5 1 0 (i + 1) (true :: true :: ts) (true :: true :: ts) F' fC5 fG5 (by omega) (by omega) b2 (Or.inl ⟨rfl, rfl, rfl⟩) (Or.inr ⟨rfl, rfl⟩) (by omega) b4.1 (by rw [b4.2.1]; omega) (by omega) (fun _ => by rw [b4.2.2 s (by omega)]; exact e7') (fun e => by omega) (by
            rcases htop with w | w
            · exact Or.inl w
            · exact Or.inr (by rw [b4.2.2 (s - 1) (by omega), e7 (s - 1) (by omega)]; exact w)) (fun _ _ _ => rfl) (by rw [cs.1]; omega) (by omega) (by omega) (by omega)
          refine ⟨X', ?_, TE_ahead (by rw [EQ, rw1, b1, ps]) (XG_trans xt4 b6 (by omega)) (YT_trans yt4 b7 (by omega)) (fun u hu => by rw [b4.2.2 u (by omega), e7 u (by omega)]) (by omega) (by omega) (by omega) (by omega) o2⟩
          rw [EX _ b2.2.1.1 lk]
          exact o1
        · obtain ⟨X', d1, d2, d3, d4⟩ := tloop_F (N := N) (G := F') (rt := rt) (rf := rf) (a1 := deep) (x4 := 1) (i := i + 1) b2.2.1 nn.2.2.1.1 nn.2.2.2.1 (by omega)
          refine ⟨X', ?_, Or.inr ⟨Y5, by rw [EQ, rw1, b1], FO_ahead (XG_le xt4 (by omega)) (YT_le yt4 (by omega)) (FO_more b2 d2 d3 d4)⟩⟩
          rw [EX 0 b2.2.1.2.1 (looked_F b2.2.1.1)]
          exact d1
