/-! taken on both sides -/
def RD (X Y : jMem) (m j : Int) : Prop := At X Y m j ∧ X 2 3 = j ∧ X 2 4 = 0 ∧ Y 0 9 = 0
def FD (X Y : jMem) : Prop := X 2 4 ≠ 0 ∧ Y 0 9 = X 2 4 ∧ (-2147483648 ≤ X 2 4 ∧ X 2 4 < 2147480000)
def XF (X X' : jMem) : Prop := ∀ p, p ≠ 2 → X' p = X p
theorem XF_refl {X : jMem} : XF X X := fun _ _ => rfl
theorem XF_trans {X X' X'' : jMem} (h : XF X X') (h' : XF X' X'') : XF X X'' := fun p a => by rw [h' p a, h p a]
theorem At_X {X X' Y : jMem} {m j : Int} (h : At X Y m j) (f : ∀ p, p = 3 ∨ p = 4 ∨ p = 5 → X' p = X p) : At X' Y m j := by
  unfold At Tok at h ⊢
  rw [f 3 (by omega), f 4 (by omega), f 5 (by omega)]
  exact h
theorem looked_ok {N : Nat} {X Y : jMem} {m j : Int} (h : RD X Y m j) : To_looked N X = some (X 3 j) := by
  obtain ⟨a, b, c, -⟩ := h
  have := a.1.1
  have := a.2.2.2.1
  unfold To_looked
  rw [if_pos c, b, jchk_pos (by omega)]
theorem looked_F {N : Nat} {X : jMem} (h : X 2 4 ≠ 0) : To_looked N X = some 0 := by
  unfold To_looked; rw [if_neg h]
theorem kind_pos {X Y : jMem} {m j : Int} (h : At X Y m j) (hj : j < m) : 1 ≤ X 3 j ∧ X 3 j ≤ 37 := by
  obtain ⟨⟨-, -, -, -, e⟩, -, -, h4, -⟩ := h
  obtain ⟨-, -, q, tk, -⟩ := e j h4.1 hj
  rcases tk with ⟨-, -, k, -⟩ | ⟨-, -, k⟩ | ⟨-, -, k⟩
  · rw [k]
    by_cases c : 5 < q - X 4 j
    · rw [if_pos c]; omega
    · rw [if_neg c]; omega
  · rcases k with ⟨i, i0, -, i2⟩ | ⟨-, k⟩ <;> omega
  · have sg := sgk_in (Y 1 (X 4 j))
    rcases k with k | k | k <;> omega
theorem kind_end {X Y : jMem} {m j : Int} (h : At X Y m j) (hk : X 3 j ≠ 0) : j < m := by
  rcases At_pl h with ⟨-, -, z⟩ | ⟨z, -⟩
  · exact absurd z hk
  · exact z
theorem move_ok {N : Nat} {X Y : jMem} {m j : Int} (h : RD X Y m j) (hj : j < m) : To_move N X = some (0, up X 2 3 (j + 1)) := by
  obtain ⟨a, b, c, -⟩ := h
  have q1 := a.1.1
  have q2 := a.2.2.2.1
  have k := kind_pos a hj
  unfold To_move jlt
  rw [b, jchk_pos (by omega), if_neg (by omega), w32_id (by omega)]
theorem fail_ok {N : Nat} {X Y : jMem} {m j w : Int} (h : RD X Y m j) (hw : 0 ≤ w ∧ w ≤ 7) : To_fail N w X = some (0, up X 2 4 (1 + 8 * X 4 j + w)) ∧ 0 ≤ X 4 j ∧ X 4 j ≤ 400 := by
  obtain ⟨a, b, c, -⟩ := h
  have q1 := a.1.1
  have q2 := a.2.2.2.1
  have q3 := a.2.1
  have pl := At_pl a
  refine ⟨?_, by omega, by omega⟩
  unfold To_fail jlt
  rw [if_pos c, b, jchk_pos (by omega), w32_id (x := 8 * X 4 j) (by omega), w32_id (x := 1 + 8 * X 4 j) (by omega), w32_id (by omega)]
theorem fail_F {N : Nat} {X : jMem} {w : Int} (h : X 2 4 ≠ 0) : To_fail N w X = some (0, X) := by
  unfold To_fail; rw [if_neg h]
theorem fails_ok {N : Nat} {Y : jMem} {w p : Int} (h : Y 0 9 = 0) (hp : 0 ≤ p ∧ p ≤ 400) (hw : 0 ≤ w ∧ w ≤ 7) : m_fails N w p Y = some (0, up Y 0 9 (1 + 8 * p + w)) := by
  unfold m_fails jlt
  rw [if_pos h, w32_id (x := 8 * p) (by omega), w32_id (x := 1 + 8 * p) (by omega), w32_id (by omega)]
/-- both fail at the same token -/
theorem FD_of {X Y Y' : jMem} {m j w : Int} (h : RD X Y m j) (f : RF Y Y') (h9 : Y' 0 9 = 0) (hw : 0 ≤ w ∧ w ≤ 7) : FD (up X 2 4 (1 + 8 * X 4 j + w)) (up Y' 0 9 (1 + 8 * X 4 j + w)) ∧ RF Y (up Y' 0 9 (1 + 8 * X 4 j + w)) ∧ XF X (up X 2 4 (1 + 8 * X 4 j + w)) := by
  have pl := At_pl h.1
  have q3 := h.1.2.1
  refine ⟨⟨by rw [up_hit rfl rfl]; omega, by rw [up_hit rfl rfl, up_hit rfl rfl], by rw [up_hit rfl rfl]; omega⟩, ⟨fun p hp => by rw [up_ne hp]; exact f.1 p hp, fun k a b c => by rw [up_col b]; exact f.2 k a b c⟩, fun p hp => up_ne hp⟩
theorem RD_next {X Y Y' : jMem} {m j : Int} (h : RD X Y m j) (a : At X Y' m (j + 1)) (h9 : Y' 0 9 = 0) : RD (up X 2 3 (j + 1)) Y' m (j + 1) :=
  ⟨At_X a (fun p hp => up_ne (by omega)), up_hit rfl rfl, by rw [up_col (by omega)]; exact h.2.2.1, h9⟩
theorem num_F {N : Nat} {X : jMem} {lo hi : Int} (h : X 2 4 ≠ 0) : To_takeNumber N lo hi X = some (lo, X) := by
  unfold To_takeNumber jlt jbv
  rw [looked_F h, Option.bind_some]
  dsimp only
  rw [if_neg (show ¬ (0 : Int) = 1 by decide), if_neg (show ¬ (0 : Int) = 2 by decide), fail_F h, Option.bind_some]
theorem num_ok {N : Nat} (hN : 1000 ≤ N) {X Y : jMem} {m j lo hi : Int} (h : RD X Y m j) :
    ∃ v r X' Y', To_takeNumber N lo hi X = some (v, X') ∧ m_numberHere N lo hi Y = some (r, Y') ∧ XF X X' ∧ RF Y Y' ∧ ((r = 1 ∧ RD X' Y' m (j + 1) ∧ X 3 j = 1 ∧ v = X 5 j ∧ Y' 0 10 = v ∧ lo ≤ v ∧ v ≤ hi) ∨ (r = 0 ∧ v = lo ∧ FD X' Y' ∧ ¬ (X 3 j = 1 ∧ lo ≤ X 5 j ∧ X 5 j ≤ hi))) := by
  have hA := h.1
  have pl := At_pl hA
  have rd := h
  obtain ⟨⟨t, h2, h3, h4, h5, h6⟩, x3, x4, y9⟩ := h
  obtain ⟨c, s1, s2⟩ := see_ok hN hA
  have lk := looked_ok (N := N) rd
  generalize hY : up Y 0 8 (X 4 j) = Y2 at s1
  have f2 : RF Y Y2 := by rw [← hY]; exact RF_up8
  have y8 : Y2 0 8 = X 4 j := by rw [← hY, up_hit rfl rfl]
  have y92 : Y2 0 9 = 0 := by rw [← hY, up_col (by omega)]; exact y9
  have y1 : Y2 1 = Y 1 := f2.1 1 (by omega)
  have y01 : Y2 0 1 = Y 0 1 := f2.2 1 (by omega) (by omega) (by omega)
  obtain ⟨d, d1, d2⟩ := isDigitY (N := N) (Y := Y2) (p := X 4 j) (by omega) (by rw [y01]; omega)
  rw [y01, y1] at d2
  unfold To_takeNumber m_numberHere jlt jb1 jbv
  rw [lk, s1, Option.bind_some, Option.bind_some]
  dsimp only
  rw [y8, d1, Option.bind_some]
  by_cases isn : X 3 j = 1 ∨ X 3 j = 2
  · have jm : j < m := kind_end hA (by omega)
    obtain ⟨tm, -, -, -, e⟩ := t
    obtain ⟨e1, e2, q, tk, sk⟩ := e j h4.1 jm
    have tk' := tk
    rcases tk with ⟨a, b, k1, k2⟩ | ⟨a, b, k1⟩ | ⟨a, b, k1⟩
    · obtain ⟨b1, b2, b3, b4⟩ := b
      have m2 := jmin_l (a := q - X 4 j) (b := 5)
      have vb := dv_in (T := Y 1) (p := X 4 j) (jmin (q - X 4 j) 5).toNat (fun i hi => b3 _ (by omega) (by omega))
      have tpb : tp (jmin (q - X 4 j) 5).toNat ≤ 10000000 := tp_le (by omega)
      rw [← k2] at vb
      have H : wp (jfix N (m_numberHere_L34 N lo hi (X 4 j)) (0, Y2)) (fun o => RF Y o.2 ∧ ((o.1 = 1 ∧ o.2 0 8 = q ∧ o.2 0 9 = 0 ∧ o.2 0 10 = X 5 j ∧ X 3 j = 1 ∧ lo ≤ X 5 j ∧ X 5 j ≤ hi) ∨ (o.1 = 0 ∧ o.2 0 9 = 1 + 8 * X 4 j + 1 ∧ ¬ (X 3 j = 1 ∧ lo ≤ X 5 j ∧ X 5 j ≤ hi)))) := by
        refine wp_fix (fun u => (400 - u.2 0 8).toNat) (fun (u : Int × jMem) => (X 4 j ≤ u.2 0 8 ∧ u.2 0 8 ≤ q) ∧ u.1 = dv (Y 1) (X 4 j) (jmin (u.2 0 8 - X 4 j) 5).toNat ∧ RF Y u.2 ∧ u.2 0 9 = 0) ?_ N _ ⟨⟨by dsimp only; omega, by dsimp only; omega⟩, by dsimp only; rw [y8, jmin_le, if_pos (by omega), show (X 4 j - X 4 j).toNat = 0 by omega]; rfl, f2, y92⟩ (by dsimp only; omega)
        rintro hh ⟨x5, Z⟩ ⟨z1, z2, z3, z4⟩ ih
        dsimp only at z1 z2 z3 z4
        have Z1 : Z 1 = Y 1 := z3.1 1 (by omega)
        have Z01 : Z 0 1 = Y 0 1 := z3.2 1 (by omega) (by omega) (by omega)
        obtain ⟨r, r1, r2⟩ := isDigitY (N := N) (Y := Z) (p := Z 0 8) (by omega) (by rw [Z01]; omega)
        rw [Z01, Z1] at r2
        unfold m_numberHere_L34 jlt jb1
        dsimp only
        rw [r1, Option.bind_some]
        generalize hx : Z 0 8 = x at *
        by_cases cx : x < q
        · have dx := b3 x z1.1 cx
          have dx' := dx
          unfold Dg at dx'
          rw [if_neg (show ¬ r = 0 by
            rcases r2 with w | w
            · omega
            · exact absurd ⟨by omega, dx⟩ w.2), w32_id (x := x - X 4 j) (by omega), w32_id (x := x + 1) (by omega)]
          have nx : ∀ v, v = dv (Y 1) (X 4 j) (jmin (x + 1 - X 4 j) 5).toNat → wp (hh (v, up Z 0 8 (x + 1))) (fun o => RF Y o.2 ∧ ((o.1 = 1 ∧ o.2 0 8 = q ∧ o.2 0 9 = 0 ∧ o.2 0 10 = X 5 j ∧ X 3 j = 1 ∧ lo ≤ X 5 j ∧ X 5 j ≤ hi) ∨ (o.1 = 0 ∧ o.2 0 9 = 1 + 8 * X 4 j + 1 ∧ ¬ (X 3 j = 1 ∧ lo ≤ X 5 j ∧ X 5 j ≤ hi)))) := fun v hv => ih _ ⟨by dsimp only; rw [up_hit rfl rfl]; omega, by dsimp only; rw [up_hit rfl rfl]; exact hv, RF_trans z3 RF_up8, by dsimp only; rw [up_col (by omega)]; exact z4⟩ (by dsimp only; rw [up_hit rfl rfl, hx]; omega)
          by_cases c5 : x - X 4 j < 5
          · have e1' : (jmin (x - X 4 j) 5).toNat = (x - X 4 j).toNat := by rw [jmin_le, if_pos (by omega)]
            have e2' : (jmin (x + 1 - X 4 j) 5).toNat = (x - X 4 j).toNat + 1 := by
              rw [jmin_le]
              by_cases c6 : x + 1 - X 4 j < 5
              · rw [if_pos c6]; omega
              · rw [if_neg c6]; omega
            have dvb := dv_in (T := Y 1) (p := X 4 j) (x - X 4 j).toNat (fun i hi => b3 _ (by omega) (by omega))
            have tpb' : tp (x - X 4 j).toNat ≤ 10000000 := tp_le (by omega)
            rw [e1'] at z2
            rw [if_pos c5, jchk_pos (by omega), Z1, w32_id (x := 10 * x5) (by omega), w32_id (x := 10 * x5 + Y 1 x) (by omega), w32_id (by omega)]
            refine nx _ ?_
            rw [e2', z2]
            show _ = 10 * dv (Y 1) (X 4 j) (x - X 4 j).toNat + Y 1 (X 4 j + (((x - X 4 j).toNat : Nat) : Int)) - 48
            rw [show X 4 j + (((x - X 4 j).toNat : Nat) : Int) = x by omega]
          · rw [if_neg c5]
            refine nx _ ?_
            rw [z2, jmin_le, jmin_le, if_neg (by omega), if_neg (by omega)]
        · have xq : x = q := by omega
          subst xq
          rw [if_pos (show r = 0 by
            rcases r2 with w | w
            · exact absurd w.2.2 (b4 w.2.1)
            · exact w.1), up_col (show (8 : Int) ≠ 10 by omega), hx, w32_id (x := x - X 4 j) (by omega)]
          have e5 : x5 = X 5 j := by rw [z2, k2]
          have f10 : RF Y (up Z 0 10 x5) := ⟨fun p hp => by rw [up_ne hp]; exact z3.1 p hp, fun k a b c => by rw [up_col c]; exact z3.2 k a b c⟩
          have bad : ¬ (X 3 j = 1 ∧ lo ≤ X 5 j ∧ X 5 j ≤ hi) → wp ((m_fails N 1 (X 4 j) (up Z 0 10 x5)).bind fun o => if o.1 = 0 then some ((0 : Int), o.2) else some (1, o.2)) (fun o => RF Y o.2 ∧ ((o.1 = 1 ∧ o.2 0 8 = x ∧ o.2 0 9 = 0 ∧ o.2 0 10 = X 5 j ∧ X 3 j = 1 ∧ lo ≤ X 5 j ∧ X 5 j ≤ hi) ∨ (o.1 = 0 ∧ o.2 0 9 = 1 + 8 * X 4 j + 1 ∧ ¬ (X 3 j = 1 ∧ lo ≤ X 5 j ∧ X 5 j ≤ hi)))) := fun no => by
            rw [fails_ok (by rw [up_col (by omega)]; exact z4) (by omega) (by omega), Option.bind_some]
            dsimp only
            rw [if_pos rfl]
            exact wp_some ⟨⟨fun p hp => by dsimp only; rw [up_ne hp]; exact f10.1 p hp, fun k a b c => by dsimp only; rw [up_col b]; exact f10.2 k a b c⟩, Or.inr ⟨rfl, by dsimp only; rw [up_hit rfl rfl], no⟩⟩
          by_cases c5 : 5 < x - X 4 j
          · rw [if_pos c5] at k1 ⊢
            exact bad (by omega)
          · rw [if_neg c5] at k1 ⊢
            obtain ⟨w, -, w1, w2⟩ := within_ok N x5 lo hi X (up Z 0 10 x5)
            rw [w1, Option.bind_some]
            rcases w2 with ⟨w3, w4, w5⟩ | ⟨w3, w4⟩
            · rw [if_neg (by omega)]
              exact wp_some ⟨f10, Or.inl ⟨rfl, by dsimp only; rw [up_col (by omega)]; exact hx, by dsimp only; rw [up_col (by omega)]; exact z4, by dsimp only; rw [up_hit rfl rfl]; exact e5, k1, by omega, by omega⟩⟩
            · rw [if_pos w3]
              exact bad (fun z => w4 (by rw [e5]; exact z.2))
      obtain ⟨⟨r, Y'⟩, o1, o2, o3⟩ := H
      dsimp only at o2 o3
      rw [if_neg (show ¬ d = 0 by
        rcases d2 with w | w
        · omega
        · exact absurd ⟨e1.2, a⟩ w.2), o1]
      have fx := fail_ok (N := N) (w := 1) rd (by omega)
      have mv := move_ok (N := N) rd jm
      rw [x3, jchk_pos (by omega), fx.1, mv]
      simp only [Option.bind_some]
      rcases o3 with ⟨w1, w2, w3, w4, w5, w6, w7⟩ | ⟨w1, w2, w3⟩
      · rw [if_pos w5, if_neg (by omega), if_neg (by omega), if_neg (by omega)]
        exact ⟨_, _, _, _, rfl, rfl, fun p hp => up_ne hp, o2, Or.inl ⟨w1, RD_next rd (At_next hA o2 jm tk' sk w2) w3, w5, rfl, w4, w6, w7⟩⟩
      · have F := FD_of (w := 1) rd f2 y92 (by omega)
        have FF' : FD (up X 2 4 (1 + 8 * X 4 j + 1)) Y' := ⟨F.1.1, by rw [w2, up_hit rfl rfl], F.1.2.2⟩
        by_cases c1 : X 3 j = 1
        · rw [if_pos c1, if_neg (by omega)]
          by_cases c2 : X 5 j < lo
          · rw [if_pos c2]; exact ⟨_, _, _, _, rfl, rfl, F.2.2, o2, Or.inr ⟨w1, rfl, FF', w3⟩⟩
          · rw [if_neg c2, if_pos (by omega)]; exact ⟨_, _, _, _, rfl, rfl, F.2.2, o2, Or.inr ⟨w1, rfl, FF', w3⟩⟩
        · rw [if_neg c1, if_pos (by omega), if_pos (by omega)]
          exact ⟨_, _, _, _, rfl, rfl, F.2.2, o2, Or.inr ⟨w1, rfl, FF', w3⟩⟩
    · exfalso
      rcases k1 with ⟨i, i0, -, i2⟩ | ⟨-, k⟩ <;> omega
    · exfalso
      have sg := sgk_in (Y 1 (X 4 j))
      rcases k1 with k | k | k <;> omega
  · have nd : d = 0 := by
      rcases d2 with ⟨w, w1, w2⟩ | w
      · exfalso
        rcases pl with ⟨p1, p2, -⟩ | ⟨p1, -⟩
        · omega
        · obtain ⟨-, -, -, -, e⟩ := t
          obtain ⟨-, -, q, tk, -⟩ := e j h4.1 p1
          rcases tk with ⟨a, b, k1, -⟩ | ⟨a, -⟩ | ⟨a, -⟩
          · apply isn
            rw [k1]
            by_cases cc : 5 < q - X 4 j
            · rw [if_pos cc]; exact Or.inr rfl
            · rw [if_neg cc]; exact Or.inl rfl
          · unfold Dg at w2; unfold Lt at a; omega
          · exact a w2
      · exact w.1
    have fx := fail_ok (N := N) (w := 0) rd (by omega)
    have F := FD_of (w := 0) rd f2 y92 (by omega)
    rw [if_pos nd, fails_ok y92 (by omega) (by omega), if_neg (fun z => isn (Or.inl z)), if_neg (fun z => isn (Or.inr z)), fx.1, Option.bind_some, Option.bind_some]
    dsimp only
    rw [jchk_pos (Or.inl rfl)]
    exact ⟨_, _, _, _, rfl, rfl, F.2.2, F.2.1, Or.inr ⟨rfl, rfl, F.1, fun z => isn (Or.inl z.1)⟩⟩
