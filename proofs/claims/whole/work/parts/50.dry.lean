/-! when a WELL is dry, when all are home, who had best have an heir -/
theorem dry_ok {N : Nat} (hN : 1000 ≤ N) (a : Int) : OK (x_dry N a) (m_dry N a) := by
  intro X Y h
  obtain ⟨r, -, e2, f2, g2⟩ := isFarm_ok N a h
  obtain ⟨rl, i1, i2, i3⟩ := inForce_ok (N := N) h
  obtain ⟨s, w, pk, p, n, wt⟩ := Rel_s h
  have w1 := w.1
  have hy := wt.2.2.2.2.2.2
  unfold x_dry m_dry
  rw [e2, f2, Option.bind_some, Option.bind_some]
  by_cases c : r = 0
  · rw [if_pos c, if_pos c]; exact ⟨_, _, _, rfl, rfl, h, TF_refl⟩
  · rw [if_neg c, if_neg c]
    obtain ⟨X1, Y1, k1, k2, F1, E1, B1, k3, -⟩ := begin_ok hN h i2
    have H : wp2 (jfix N (Fo_yearDug_L14 N rl a) (0, X1)) (jfix N (m_dry_L19 N a) (-2, 0, Y1)) (fun o o' => o.1 = o'.1 ∧ Rel o.2 o'.2 ∧ TF X o.2) := by
      refine wp2_fixR 1 (fun s => (200 - s.1).toNat) (fun (s : Int × jMem) (t : Int × Int × jMem) => (s.1 = t.2.1 ∧ t.1 = -2) ∧ (0 ≤ s.1 ∧ s.1 ≤ 200) ∧ FF X Y s.2 t.2.2 ∧ EE Y t.2.2 ∧ YB s.2 t.2.2 161 18 rl ∧ t.2.2 10 10 = Y 10 10 + s.1) ?_ N N _ _ ⟨⟨rfl, rfl⟩, ⟨by dsimp only; omega, by dsimp only; omega⟩, F1, E1, B1, by dsimp only; rw [k3]; omega⟩ (by dsimp only; omega) (by dsimp only; omega)
      rintro h1 m ⟨x, Xc⟩ ⟨y3, y4, Yc⟩ ⟨⟨q1, q2⟩, hx, Fc, Ec, Bc, hyc⟩ hm ih
      dsimp only at q1 q2 hx Fc Ec Bc hyc
      subst q1; subst q2
      obtain ⟨m', rfl⟩ : ∃ m', m = m' + 1 := ⟨m - 1, by omega⟩
      by_cases cx : x < 200
      · obtain ⟨v, v', X2, Y2, p1, pp2, p3, p4, p5, p6, p7, p8, p9, p10, p11⟩ := fpass hN Fc Bc (Or.inl rfl) (by omega)
        have E2 := EE_GY Ec p5
        have last : ∀ u, 0 ≤ u → ∃ Y3, jfix (m' + 1) (m_dry_L19 N a) (u, x + 1, Y2) = some (u, Y3) ∧ Rel X2 Y3 ∧ TF X X2 := fun u hu => by
          obtain ⟨Y3, l1, l2, l3, -⟩ := back_to hN h p3 E2
          refine ⟨Y3, ?_, l2, l3⟩
          rw [jfix_s]
          unfold m_dry_L19 jlt jbv
          dsimp only
          rw [l1, Option.bind_some]
          by_cases cc : x + 1 < 200
          · rw [if_pos cc, if_neg (show ¬ u < 0 by omega)]
          · rw [if_neg cc]
        have ihc := ih (x + 1, X2) (-2, x + 1, Y2) ⟨⟨rfl, rfl⟩, ⟨by dsimp only; omega, by dsimp only; omega⟩, p3, E2, p4, by dsimp only; omega⟩ (by dsimp only; omega)
        generalize jfix (m' + 1) (m_dry_L19 N a) = kk at ihc last ⊢
        unfold Fo_yearDug_L14 m_dry_L19 jlt jbv jb1 m_isOf
        dsimp only
        rw [if_pos cx, if_pos cx, if_pos (by decide), goOn1 hN p1, pp2, Option.bind_some, Option.bind_some]
        dsimp only
        simp only [p9, shr_ok p10 p11 (show 0 ≤ a by omega) (show a < 7 by omega), w32_id (x := x + 1) (by omega)]
        rcases b01 (s := Y2 0 24) (k := a) with cb | cb
        · rw [if_pos cb, if_neg (show ¬ Y2 0 24 / p2 a % 2 = 1 by omega), Option.bind_some, if_pos rfl]
          exact ihc
        · rw [if_neg (show ¬ Y2 0 24 / p2 a % 2 = 0 by omega), if_pos cb, Option.bind_some, if_neg (by decide), show X2 161 1 = Y2 10 10 from p4.1.2.1, w32_id (by omega)]
          obtain ⟨Y3, l1, l2, l3⟩ := last (Y2 10 10 - 1) (by omega)
          rw [l1]
          exact wp2_some ⟨rfl, l2, l3⟩
      · obtain ⟨Y3, l1, l2, l3, -⟩ := back_to hN h Fc Ec
        unfold Fo_yearDug_L14 m_dry_L19 jlt jbv
        dsimp only
        rw [if_neg cx, if_neg cx, l1, Option.bind_some]
        exact wp2_some ⟨rfl, l2, l3⟩
    obtain ⟨⟨v, X2⟩, ⟨v', Y2⟩, q1, q2, q3, q4, q5⟩ := H
    dsimp only at q3 q4 q5
    subst q3
    refine ⟨v, X2, Y2, ?_, ?_, q4, q5⟩
    · rw [i1, Option.bind_some, jchk_pos i3]
      unfold Fo_yearDug jb1 jbv
      rw [k1, Option.bind_some]
      dsimp only
      rw [q1, Option.bind_some]
    · unfold jbv
      rw [k2, Option.bind_some]
      exact q2
theorem home_ok {N : Nat} (hN : 1000 ≤ N) : OK (x_home N) (m_home N) := by
  intro X Y h
  obtain ⟨r, e2, f2, g2⟩ := hasParish_ok N h
  obtain ⟨rl, i1, i2, i3⟩ := inForce_ok (N := N) h
  obtain ⟨s, w, pk, p, n, wt⟩ := Rel_s h
  have w1 := w.1
  have hy := wt.2.2.2.2.2.2
  unfold x_home m_home
  rw [e2, f2, Option.bind_some, Option.bind_some]
  by_cases c : r = 0
  · rw [if_pos c, if_pos c]; exact ⟨_, _, _, rfl, rfl, h, TF_refl⟩
  · rw [if_neg c, if_neg c]
    obtain ⟨X1, Y1, k1, k2, F1, E1, B1, k3, -⟩ := begin_ok hN h i2
    have H : wp2 (jfix N (Fo_yearAllAreHome_L13 N rl) (0, X1)) (jfix N (m_home_L18 N) (-2, 0, Y1)) (fun o o' => o.1 = o'.1 ∧ Rel o.2 o'.2 ∧ TF X o.2) := by
      refine wp2_fixR 1 (fun s => (200 - s.1).toNat) (fun (s : Int × jMem) (t : Int × Int × jMem) => (s.1 = t.2.1 ∧ t.1 = -2) ∧ (0 ≤ s.1 ∧ s.1 ≤ 200) ∧ FF X Y s.2 t.2.2 ∧ EE Y t.2.2 ∧ YB s.2 t.2.2 161 18 rl ∧ t.2.2 10 10 = Y 10 10 + s.1) ?_ N N _ _ ⟨⟨rfl, rfl⟩, ⟨by dsimp only; omega, by dsimp only; omega⟩, F1, E1, B1, by dsimp only; rw [k3]; omega⟩ (by dsimp only; omega) (by dsimp only; omega)
      rintro h1 m ⟨x, Xc⟩ ⟨y3, y4, Yc⟩ ⟨⟨q1, q2⟩, hx, Fc, Ec, Bc, hyc⟩ hm ih
      dsimp only at q1 q2 hx Fc Ec Bc hyc
      subst q1; subst q2
      obtain ⟨m', rfl⟩ : ∃ m', m = m' + 1 := ⟨m - 1, by omega⟩
      by_cases cx : x < 200
      · obtain ⟨v, v', X2, Y2, p1, pp2, p3, p4, p5, p6, p7, p8, p9, p10, p11⟩ := fpass hN Fc Bc (Or.inl rfl) (by omega)
        have E2 := EE_GY Ec p5
        have last : ∀ u, 0 ≤ u → ∃ Y3, jfix (m' + 1) (m_home_L18 N) (u, x + 1, Y2) = some (u, Y3) ∧ Rel X2 Y3 ∧ TF X X2 := fun u hu => by
          obtain ⟨Y3, l1, l2, l3, -⟩ := back_to hN h p3 E2
          refine ⟨Y3, ?_, l2, l3⟩
          rw [jfix_s]
          unfold m_home_L18 jlt jbv
          dsimp only
          rw [l1, Option.bind_some]
          by_cases cc : x + 1 < 200
          · rw [if_pos cc, if_neg (show ¬ u < 0 by omega)]
          · rw [if_neg cc]
        have ihc := ih (x + 1, X2) (-2, x + 1, Y2) ⟨⟨rfl, rfl⟩, ⟨by dsimp only; omega, by dsimp only; omega⟩, p3, E2, p4, by dsimp only; omega⟩ (by dsimp only; omega)
        generalize jfix (m' + 1) (m_home_L18 N) = kk at ihc last ⊢
        obtain ⟨t, t1, t2, t3, -⟩ := homes_ok hN p4.1 p4.2.2.1
        unfold Fo_yearAllAreHome_L13 m_home_L18 jlt jbv jb1
        dsimp only
        rw [if_pos cx, if_pos cx, if_pos (by decide), goOn1 hN p1, pp2, Option.bind_some, Option.bind_some]
        dsimp only
        rw [t1, t2, Option.bind_some, Option.bind_some, t3, Option.bind_some, w32_id (x := x + 1) (by omega)]
        simp only [show X2 161 0 = Y2 10 1 from p4.1.1]
        by_cases cb : pcn t = Y2 10 1
        · rw [if_pos cb, if_pos cb, show X2 161 1 = Y2 10 10 from p4.1.2.1, w32_id (by omega)]
          obtain ⟨Y3, l1, l2, l3⟩ := last (Y2 10 10 - 1) (by omega)
          rw [l1]
          exact wp2_some ⟨rfl, l2, l3⟩
        · rw [if_neg cb, if_neg cb]
          exact ihc
      · obtain ⟨Y3, l1, l2, l3, -⟩ := back_to hN h Fc Ec
        unfold Fo_yearAllAreHome_L13 m_home_L18 jlt jbv
        dsimp only
        rw [if_neg cx, if_neg cx, l1, Option.bind_some]
        exact wp2_some ⟨rfl, l2, l3⟩
    obtain ⟨⟨v, X2⟩, ⟨v', Y2⟩, q1, q2, q3, q4, q5⟩ := H
    dsimp only at q3 q4 q5
    subst q3
    refine ⟨v, X2, Y2, ?_, ?_, q4, q5⟩
    · rw [i1, Option.bind_some, jchk_pos i3]
      unfold Fo_yearAllAreHome jb1 jbv
      rw [k1, Option.bind_some]
      dsimp only
      rw [q1, Option.bind_some]
    · unfold jbv
      rw [k2, Option.bind_some]
      exact q2
