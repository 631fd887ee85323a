/-! a clause of a PARISH -/
theorem up_same {M : jMem} {q j v : Int} (h : M q j = v) : up M q j v = M := by
  funext p k
  rw [up_all]
  by_cases c : p = q ∧ k = j
  · rw [if_pos c, c.1, c.2, h]
  · rw [if_neg c]
theorem isW {N : Nat} (hN : 1000 ≤ N) {X Y : jMem} {m j : Int} (h : At X Y m j) (h8 : Y 0 8 = X 4 j) {i : Nat} (hi : i < 21) : (X 3 j = 17 + (i : Int) ∧ m_isWord N (wcode i) Y = some (1, Y)) ∨ (X 3 j ≠ 17 + (i : Int) ∧ m_isWord N (wcode i) Y = some (0, Y)) := by
  obtain ⟨r, r1, r2⟩ := isWord_ok hN h hi
  rw [up_same h8] at r1
  rcases r2 with ⟨z1, z2⟩ | ⟨z1, z2⟩
  · subst z1; exact Or.inl ⟨z2, r1⟩
  · subst z1; exact Or.inr ⟨z2, r1⟩
theorem parishLine_ok {N : Nat} (hN : 1000 ≤ N) {X Y : jMem} {m j a : Int} (h : RD X Y m j) (h8 : Y 0 8 = X 4 j) (hk : X 3 j = 17) (hd : D0 X Y) :
    ∃ (r : Int) (X' Y' : jMem), (jb1 (To_takeNumber N 2 7 (up X 2 3 (j + 1))) fun r28 M29 => jlt (up M29 6 0 r28) fun M30 => jb1 (To_takeNumber N 0 9 M30) fun r31 M32 => jlt (up M32 6 1 r31) fun M33 => some ((0 : Int), M33)) = some (0, X') ∧ m_isParishHere N a Y = some (r, Y') ∧ XD X X' ∧ YD Y Y' ∧ Y' 0 14 = Y 0 14 ∧ ((r = 1 ∧ ∃ j', j < j' ∧ RD X' Y' m j' ∧ DR X' Y') ∨ (r = 0 ∧ FD X' Y')) := by
  obtain ⟨Y1, p1, p2', p3, p4, p5⟩ := passWord_ok hN h h8 (by omega)
  have rd := RD_next h p5 p3
  have y60 : Y 6 0 = 0 := hd.1 0 (by omega) (by omega)
  obtain ⟨v1, r1, X1, Y2, a1, a2, a3, a4, a5, a6⟩ := cell_ok hN (lo := 2) (hi := 7) (c := 1) rd (by omega)
  have xa : XD X (up X1 6 0 v1) := XD_trans (XD_trans (fun p a b => up_ne a) (XD_XF a3)) (XD_up (by omega))
  have ya : YD Y Y2 := YD_trans (YD_RF p2') a4
  have y14 : Y2 0 14 = Y 0 14 := by rw [a5, p2'.2 14 (by omega) (by omega) (by omega)]
  unfold m_isParishHere jbv jb1 jlt
  rw [if_neg (by omega), p1, Option.bind_some, a1, Option.bind_some]
  dsimp only
  rw [a2, Option.bind_some]
  dsimp only
  rcases a6 with ⟨z1, z2, z3, z4, z5⟩ | ⟨z1, z2, z3⟩
  · have rd1 : RD (up X1 6 0 v1) Y2 m (j + 1 + 1) := RD_w z2 (fun p a b => up_ne (by omega)) rfl (fun _ _ => rfl)
    obtain ⟨v2, r2, X2, Y3, b1, b2, b3, b4, b5, b6⟩ := cell_ok hN (lo := 0) (hi := 9) (c := 2) rd1 (by omega)
    rw [if_neg (show ¬ r1 = 0 by omega), b1, b2, Option.bind_some, Option.bind_some]
    dsimp only
    have xb : XD X (up X2 6 1 v2) := XD_trans xa (XD_trans (XD_XF b3) (XD_up (by omega)))
    have yb := YD_trans ya b4
    rcases b6 with ⟨w1, w2, w3, w4, w5⟩ | ⟨w1, w2, w3⟩
    · rw [if_neg (show ¬ r2 = 0 by omega)]
      have y6 : ∀ k, 0 ≤ k → k < 81 → Y3 6 k = if k = 2 then v2 else if k = 1 then v1 else 0 := fun k k0 k1 => by
        rw [w5]
        by_cases c : k = 2
        · rw [up_hit rfl c, if_pos c]
        · rw [up_col c, if_neg c, z5]
          by_cases d : k = 1
          · rw [up_hit rfl d, if_pos d]
          · rw [up_col d, if_neg d, p2'.1 6 (by omega)]; exact hd.1 k k0 k1
      have H : wp (jfix N (m_isParishHere_L46 N) (0, Y3)) (fun o => o.1 = 1 ∧ (∀ p, p ≠ 6 → o.2 p = Y3 p) ∧ o.2 6 0 = 1 ∧ (∀ i, 0 ≤ i → i < 7 → o.2 6 (60 + i) = 9 ∧ o.2 6 (46 + i) = 1 ∧ o.2 6 (74 + i) = 2) ∧ (∀ k, (1 ≤ k ∧ k < 46) ∨ (53 ≤ k ∧ k < 60) ∨ (67 ≤ k ∧ k < 74) → o.2 6 k = Y3 6 k)) := by
        refine wp_fix (fun t => (7 - t.1).toNat) (fun (t : Int × jMem) => (0 ≤ t.1 ∧ t.1 ≤ 7) ∧ (∀ p, p ≠ 6 → t.2 p = Y3 p) ∧ (∀ i, 0 ≤ i → i < t.1 → t.2 6 (60 + i) = 9 ∧ t.2 6 (46 + i) = 1 ∧ t.2 6 (74 + i) = 2) ∧ (∀ k, (1 ≤ k ∧ k < 46) ∨ (53 ≤ k ∧ k < 60) ∨ (67 ≤ k ∧ k < 74) → t.2 6 k = Y3 6 k)) ?_ N _ ⟨⟨by dsimp only; omega, by dsimp only; omega⟩, fun _ _ => rfl, fun i i0 i1 => by dsimp only at i1; omega, fun _ _ => rfl⟩ (by dsimp only; omega)
        rintro hh ⟨x, Z⟩ ⟨q1, q2, q3, q4⟩ ih
        dsimp only at q1 q2 q3 q4
        unfold m_isParishHere_L46 jlt
        dsimp only
        by_cases c : x < 7
        · rw [if_pos c]
          simp (disch := omega) only [jchk_pos, w32_id]
          refine ih _ ⟨⟨by dsimp only; omega, by dsimp only; omega⟩, fun p hp => by dsimp only; rw [up_ne hp, up_ne hp, up_ne hp]; exact q2 p hp, fun i i0 i1 => ?_, fun k hk => ?_⟩ (by dsimp only; omega)
          · dsimp only at i1 ⊢
            by_cases ci : i = x
            · subst ci
              simp (disch := omega) only [up_col, up_hit]
              exact ⟨trivial, trivial, trivial⟩
            · simp (disch := omega) only [up_col]
              exact q3 i i0 (by omega)
          · simp (disch := omega) only [up_col]; exact q4 k hk
        · rw [if_neg c]
          refine wp_some ⟨rfl, fun p hp => by dsimp only; rw [up_ne hp]; exact q2 p hp, by dsimp only; rw [up_hit rfl rfl], fun i i0 i1 => ?_, fun k hk => ?_⟩
          · simp (disch := omega) only [up_col]; exact q3 i i0 (by omega)
          · simp (disch := omega) only [up_col]; exact q4 k hk
      obtain ⟨⟨r, Y'⟩, o1, o2, o3, o4, o5, o6⟩ := H
      dsimp only at o2 o3 o4 o5 o6
      subst o2
      have zX : ∀ p i, 7 ≤ p → p ≤ 11 → up X2 6 1 v2 p i = X p i := fun p i a b => by rw [up_row (by omega), b3 p (by omega), up_row (by omega), a3 p (by omega), up_row (by omega)]
      refine ⟨1, up X2 6 1 v2, Y', rfl, o1, xb, YD_trans yb ⟨fun p a b => o3 p b, fun k _ _ _ _ => by rw [o3 0 (by omega)]⟩, by rw [o3 0 (by omega), b5, y14], Or.inl ⟨rfl, j + 1 + 1 + 1, by omega, RD_w w2 (fun p a b => up_ne (by omega)) (o3 1 (by omega)) (fun k _ => by rw [o3 0 (by omega)]), ⟨?_, ?_, fun i i0 i1 => ?_, fun i i0 i1 => ?_, fun i i0 i1 => ?_, fun i i0 i1 => ?_, fun i i0 i1 => ?_⟩, o4, ?_, ?_, fun i i0 i1 => ?_⟩⟩
      · rw [up_col (by omega), b3 6 (by omega), up_hit rfl rfl, o6 1 (by omega), y6 1 (by omega) (by omega), if_neg (by omega), if_pos rfl]
      · rw [up_hit rfl rfl, o6 2 (by omega), y6 2 (by omega) (by omega), if_pos rfl]
      · rw [zX (6 + 1) i (by omega) (by omega), (o5 i i0 i1).1]; exact (hd.2 i i0 i1).1
      · rw [zX (6 + 2) i (by omega) (by omega), o6 (67 + i) (by omega), y6 (67 + i) (by omega) (by omega), if_neg (by omega), if_neg (by omega)]; exact (hd.2 i i0 i1).2.1
      · rw [zX (6 + 3) i (by omega) (by omega), (o5 i i0 i1).2.1]; exact (hd.2 i i0 i1).2.2.1
      · rw [zX (6 + 4) i (by omega) (by omega), (o5 i i0 i1).2.2]; exact (hd.2 i i0 i1).2.2.2.1
      · rw [zX (6 + 5) i (by omega) (by omega), o6 (53 + i) (by omega), y6 (53 + i) (by omega) (by omega), if_neg (by omega), if_neg (by omega)]; exact (hd.2 i i0 i1).2.2.2.2
      · rw [o6 1 (by omega), y6 1 (by omega) (by omega), if_neg (by omega), if_pos rfl]; omega
      · rw [o6 2 (by omega), y6 2 (by omega) (by omega), if_pos rfl]; omega
      · obtain ⟨t1, t2, t3⟩ := o5 i i0 i1
        rw [t1, t2, t3, o6 (67 + i) (by omega), o6 (53 + i) (by omega), y6 (67 + i) (by omega) (by omega), y6 (53 + i) (by omega) (by omega), if_neg (by omega), if_neg (by omega), if_neg (by omega), if_neg (by omega), Int.zero_ediv]
        omega
    · rw [if_pos w1]
      exact ⟨0, _, _, rfl, rfl, xb, yb, by rw [b5, y14], Or.inr ⟨rfl, FD_w w3 (up_ne (by omega)) rfl⟩⟩
  · rw [if_pos z1, num_F (show up X1 6 0 v1 2 4 ≠ 0 by rw [up_row (by omega)]; exact z3.1), Option.bind_some]
    exact ⟨0, _, _, rfl, rfl, XD_trans xa (XD_up (by omega)), ya, y14, Or.inr ⟨rfl, FD_w z3 (by dsimp only; rw [up_ne (by omega), up_ne (by omega)]) rfl⟩⟩
