/-! who had best have an heir -/
theorem fore_rel {X Y X' Y' : jMem} (h : Rel X Y) (F : FF X Y X' Y') (h10 : Y' 10 = Y 10) (h21 : Y' 0 21 = Y 0 21) : Rel X' Y' ∧ TF X X' := by
  have hs : ∀ p, 171 ≤ p → p ≤ 173 → X' p = X p := fun p a b => F.1 p (by omega) (by unfold Stk; omega)
  refine ⟨Rel_frame h (fun p hp hst => F.1 p (by omega) hst) (fun p hp => ?_) (fun j hj => ?_), hs 171 (by omega) (by omega), hs 172 (by omega) (by omega), hs 173 (by omega) (by omega)⟩
  · by_cases cp : p = 10
    · rw [cp]; exact h10
    · exact F.2.1 p (by omega)
  · by_cases cj : j = 21
    · rw [cj]; exact h21
    · exact F.2.2.1 j (by omega) cj (by omega) (by omega)
theorem fbear {N : Nat} {X Y X' Y' : jMem} {a rl : Int} (F : FF X Y X' Y') (E : EE Y Y') (B : YB X' Y' 161 18 rl) (ha : 0 ≤ a ∧ a < 7) : ∃ X2 Y2, St_addHeir N 161 a X' = some (0, X2) ∧ m_bears N a Y' = some (0, Y2) ∧ FF X Y X2 Y2 ∧ EE Y Y2 ∧ YB X2 Y2 161 18 rl ∧ Y2 10 10 = Y' 10 10 ∧ X2 157 = X' 157 := by
  obtain ⟨X2, Y2, e1, e2, s2, w2, f1, f2, f3⟩ := addHeir_ok (N := N) B.1 B.2.2.1 ha
  have F2 : FF X Y X2 Y2 := ⟨fun p hp hs => by rw [f1 p (by omega)]; exact F.1 p hp hs, fun p hp => by rw [f2 p (by omega)]; exact F.2.1 p hp, fun j q1 q2 q3 q4 => by rw [f2 0 (by omega)]; exact F.2.2.1 j q1 q2 q3 q4, fun k q1 q2 => by rw [f2 17 (by omega)]; exact F.2.2.2 k q1 q2⟩
  have E2 : EE Y Y2 := ⟨fun k hk => by rw [f3 k (by omega)]; exact E.1 k hk, by rw [f2 0 (by omega)]; exact E.2⟩
  obtain ⟨-, ⟨p0, p1, p2⟩, -, b4, b5⟩ := B
  refine ⟨X2, Y2, e1, e2, F2, E2, ⟨s2, ⟨?_, ?_, fun i i0 i1 => ?_⟩, w2, fun i i0 i1 => ?_, FR_congr b5 (fun p q1 q2 q3 => f1 p (by omega)) (f2 5 (by omega)) (f2 4 (by omega)) (f2 2 (by omega)) (by rw [f2 0 (by omega)])⟩, f3 10 (by omega), f1 157 (by omega)⟩
  · rw [f1 15 (by omega), f3 1 (by omega)]; exact p0
  · rw [f1 15 (by omega), f3 2 (by omega)]; exact p1
  · rw [f1 20 (by omega), f3 (53 + i) (by omega)]; exact p2 i i0 i1
  · rw [f1 18 (by omega), f3 (46 + i) (by omega)]; exact b4 i i0 i1
/-- how many are home in n years, if a had an heir -/
theorem homeIn_ok {N : Nat} (hN : 1000 ≤ N) {X Y X' Y' : jMem} {rl n a : Int} (h : Rel X Y) (hf : FR X Y rl) (F : FF X Y X' Y') (h10 : Y' 10 = Y 10) (h21 : Y' 0 21 = Y 0 21) (hn : 0 ≤ n ∧ n ≤ 500) (ha : a < 7) :
    ∃ r X5 X6 X7 Y5 Y8, St_copyFrom N 161 21 X' = some (0, X5) ∧ ((a < 0 ∧ X6 = X5 ∧ Y5 = Y') ∨ (0 ≤ a ∧ St_addHeir N 161 a X5 = some (0, X6) ∧ m_bears N a Y' = some (0, Y5))) ∧ Fo_goOn N rl n X6 = some (0, X7) ∧ St_homes N 161 X7 = some r ∧ m_homeIn N n Y5 = some (r, Y8) ∧ FF X Y X7 Y8 ∧ Y8 10 = Y 10 ∧ Y8 0 21 = Y 0 21 ∧ X7 157 = X' 157 ∧ 0 ≤ r ∧ r ≤ 7 := by
  obtain ⟨X5, c1, F5, B5, c2⟩ := copy_ok (N := N) h hf F h10 h21
  have hyr := (Rel_s h).2.2.2.2.2.2.2.2.2.2.2
  have E5 : EE Y Y' := ⟨fun k _ => by rw [h10], h21⟩
  have T : ∃ X6 Y5, ((a < 0 ∧ X6 = X5 ∧ Y5 = Y') ∨ (0 ≤ a ∧ St_addHeir N 161 a X5 = some (0, X6) ∧ m_bears N a Y' = some (0, Y5))) ∧ FF X Y X6 Y5 ∧ EE Y Y5 ∧ YB X6 Y5 161 18 rl ∧ Y5 10 10 = Y 10 10 ∧ X6 157 = X' 157 := by
    by_cases c : a < 0
    · exact ⟨X5, Y', Or.inl ⟨c, rfl, rfl⟩, F5, E5, B5, by rw [h10], c2 157 (by omega)⟩
    · obtain ⟨X6, Y6, q1, q2, q3, q4, q5, q6, q7⟩ := fbear (N := N) F5 E5 B5 (a := a) (by omega)
      exact ⟨X6, Y6, Or.inr ⟨by omega, q1, q2⟩, q3, q4, q5, by rw [q6, h10], by rw [q7, c2 157 (by omega)]⟩
  obtain ⟨X6, Y5, t1, F6, E6, B6, t2, t3⟩ := T
  obtain ⟨X7, Y7, m1, m2, F7, B7, G7, G7x, m3⟩ := goOn_ok hN F6 B6 hn (by omega)
  obtain ⟨s, s1, s2, s3, -⟩ := homes_ok hN B7.1 B7.2.2.1
  obtain ⟨Y8, l1, -, -, F8, E8, l2, l3⟩ := back_to hN h F7 (EE_GY E6 G7)
  refine ⟨pcn s, X5, X6, X7, Y5, Y8, c1, t1, m1, s1, ?_, F8, l2, E8.2, ?_, pcn_in.1, pcn_in.2⟩
  · unfold m_homeIn jbv
    rw [m2, Option.bind_some]
    dsimp only
    rw [s2, Option.bind_some, s3, Option.bind_some, l1, Option.bind_some]
  · rw [G7x 157 (by omega) (by omega) (by unfold Stk; omega), t3]
theorem heir_ok {N : Nat} (hN : 1000 ≤ N) (a b : Int) : OK (x_heir N a b) (m_heir N a b) := by
  intro X Y h
  obtain ⟨r1, e1, f1, g1⟩ := within_ok N a 1 40 X Y
  obtain ⟨r2, e2, f2, g2⟩ := within_ok N b 0 1 X Y
  obtain ⟨r3, e3, f3, g3⟩ := hasParish_ok N h
  obtain ⟨rl, i1, i2, i3⟩ := inForce_ok (N := N) h
  obtain ⟨s, w, pk, p, n, wt⟩ := Rel_s h
  have w1 := w.1
  unfold x_heir m_heir
  rw [e1, e2, e3, f1, f2, f3]
  simp only [Option.bind_some]
  by_cases c3 : r3 = 0
  · rw [if_pos c3, if_pos c3]
    by_cases c1 : r1 = 0
    · rw [if_pos c1]; exact ⟨_, _, _, rfl, rfl, h, TF_refl⟩
    · rw [if_neg c1]
      by_cases c2 : r2 = 0
      · rw [if_pos c2]; exact ⟨_, _, _, rfl, rfl, h, TF_refl⟩
      · rw [if_neg c2]; exact ⟨_, _, _, rfl, rfl, h, TF_refl⟩
  · rw [if_neg c3, if_neg c3]
    by_cases c1 : r1 = 0
    · rw [if_pos c1, if_pos c1]; exact ⟨_, _, _, rfl, rfl, h, TF_refl⟩
    · rw [if_neg c1, if_neg c1]
      by_cases c2 : r2 = 0
      · rw [if_pos c2, if_pos c2]; exact ⟨_, _, _, rfl, rfl, h, TF_refl⟩
      · rw [if_neg c2, if_neg c2, i1, Option.bind_some, jchk_pos i3]
        obtain ⟨Y1, k1, k2, k3⟩ := keeps_ok hN Y
        have F0 : FF X Y (up X 157 6 (-1)) Y1 := ⟨fun p hp _ => up_ne (by omega), fun p hp => k2 p (by omega), fun j _ _ _ _ => by rw [k2 0 (by omega)], k3⟩
        obtain ⟨r, X5, X6, X7, Y5, Y8, q1, q2, q3, q4, q5, F8, q6, q7, q8, q9, q10⟩ := homeIn_ok hN (n := a) (a := -1) h i2 F0 (k2 10 (by omega)) (by rw [k2 0 (by omega)]) (by omega) (by omega)
        have q2' : X6 = X5 ∧ Y5 = Y1 := by
          rcases q2 with z | z
          · exact z.2
          · omega
        obtain ⟨z1, z2⟩ := q2'
        subst z1; subst z2
        have F9 : FF X Y (up X7 157 6 r) Y8 := ⟨fun p hp hs => by rw [up_ne (by omega)]; exact F8.1 p hp hs, F8.2⟩
        obtain ⟨m, hm⟩ : ∃ m, N = m + 1 := ⟨N - 1, by omega⟩
        have H : wp2 (jfix m (Fo_bestHeir_L11 N rl a) (-1, 0, up X7 157 6 r)) (jfix N (m_heir_L48 N a b) (-1, r, 0, Y8)) (fun o o' => (o'.1 = if b = 0 then o.1 else o.2 157 6) ∧ Rel o.2 o'.2 ∧ TF X o.2) := by
          refine wp2_fix (fun s => (7 - s.2.1).toNat) (fun (s : Int × Int × jMem) (t : Int × Int × Int × jMem) => (s.1 = t.1 ∧ s.2.1 = t.2.2.1 ∧ s.2.2 157 6 = t.2.1) ∧ (0 ≤ s.2.1 ∧ s.2.1 ≤ Y 10 1) ∧ FF X Y s.2.2 t.2.2.2 ∧ t.2.2.2 10 = Y 10 ∧ t.2.2.2 0 21 = Y 0 21) ?_ m N _ _ ⟨⟨rfl, rfl, by dsimp only; rw [up_hit rfl rfl]⟩, ⟨by dsimp only; omega, by dsimp only; omega⟩, F9, q6, q7⟩ (by dsimp only; omega) (by dsimp only; omega)
          rintro h1 h2 ⟨x2, x3, Xc⟩ ⟨y7, y8, y9, Yc⟩ ⟨⟨j1, j2, j3⟩, hx, Fc, hc10, hc21⟩ ih
          dsimp only at j1 j2 j3 hx Fc hc10 hc21
          subst j1; subst j2; subst j3
          unfold Fo_bestHeir_L11 m_heir_L48 jlt
          dsimp only
          have x15 : Xc 15 0 = Y 10 1 := by rw [Fc.1 15 (by omega) (by unfold Stk; omega)]; exact pk.1
          simp only [x15, hc10]
          by_cases cx : x3 < Y 10 1
          · rw [if_pos cx, if_pos cx]
            obtain ⟨r, X5, X6, X7, Y5, Y8, q1, q2, q3, q4, q5, F8, q6, q7, q8, q9, q10⟩ := homeIn_ok hN (n := a) (a := x3) h i2 Fc hc10 hc21 (by omega) (by omega)
            have q2' : St_addHeir N 161 x3 X5 = some (0, X6) ∧ m_bears N x3 Yc = some (0, Y5) := by
              rcases q2 with z | z
              · omega
              · exact z.2
            unfold jbv jb1
            rw [q1, Option.bind_some, q2'.2, Option.bind_some]
            dsimp only
            rw [if_neg (show ¬ x3 < 0 by omega), q2'.1, Option.bind_some, q5, Option.bind_some]
            dsimp only
            rw [q3, Option.bind_some]
            dsimp only
            rw [q4, Option.bind_some, w32_id (by omega)]
            simp only [q8]
            by_cases cr : Xc 157 6 < r
            · rw [if_pos cr, if_pos cr]
              exact ih _ _ ⟨⟨rfl, rfl, by dsimp only; rw [up_hit rfl rfl]⟩, ⟨by dsimp only; omega, by dsimp only; omega⟩, ⟨fun p hp hs => by dsimp only; rw [up_ne (by omega)]; exact F8.1 p hp hs, F8.2⟩, q6, q7⟩ (by dsimp only; omega)
            · rw [if_neg cr, if_neg cr]
              exact ih _ _ ⟨⟨rfl, rfl, by dsimp only; rw [q8]⟩, ⟨by dsimp only; omega, by dsimp only; omega⟩, F8, q6, q7⟩ (by dsimp only; omega)
          · rw [if_neg cx, if_neg cx]
            obtain ⟨R, T⟩ := fore_rel h Fc hc10 hc21
            by_cases cb : b = 0
            · rw [if_pos cb]; exact wp2_some ⟨by dsimp only; rw [if_pos cb], R, T⟩
            · rw [if_neg cb]; exact wp2_some ⟨by dsimp only; rw [if_neg cb], R, T⟩
        obtain ⟨⟨v, X2⟩, ⟨v', Y2⟩, p1, p2, p3, p4, p5⟩ := H
        dsimp only at p3 p4 p5
        have HX : Fo_bestHeir N rl a X = some (v, X2) := by
          unfold Fo_bestHeir
          rw [show ∀ K, jlt (up X 157 6 (-1)) K = K (up X 157 6 (-1)) from fun _ => rfl]
          rw [show jfix N (Fo_bestHeir_L11 N rl a) (-1, -1, up X 157 6 (-1)) = jfix (m + 1) (Fo_bestHeir_L11 N rl a) (-1, -1, up X 157 6 (-1)) by rw [← hm], jfix_s]
          generalize jfix m (Fo_bestHeir_L11 N rl a) = kk at p1 ⊢
          unfold Fo_bestHeir_L11 jlt jbv
          dsimp only
          rw [if_pos (by rw [up_row (by omega)]; have := pk.1; omega), q1, Option.bind_some, if_pos (by decide)]
          dsimp only
          rw [q3, Option.bind_some]
          dsimp only
          rw [q4, Option.bind_some, if_pos (by rw [q8, up_hit rfl rfl]; omega), show w32 (-1 + 1) = 0 from by decide]
          exact p1
        refine ⟨v', X2, Y2, ?_, ?_, p4, p5⟩
        · rw [HX]; unfold jb1; rw [Option.bind_some]; dsimp only; rw [p3]
          by_cases cb : b = 0
          · rw [if_pos cb, if_pos cb]
          · rw [if_neg cb, if_neg cb]
        · unfold jbv jb1
          rw [k1, Option.bind_some]
          dsimp only
          rw [q5, Option.bind_some]
          exact p2
