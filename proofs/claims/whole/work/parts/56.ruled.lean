/-! by which RULE PARISHES were, and where to LOOK next -/
def rk (k : Int) : Int := if k = 0 then -1 else 177 + 6 * (k - 1)
def Bg (X X0 : jMem) : Prop := (∀ p, p < 157 ∨ 170 < p → ¬ Stk p → X0 p = X p) ∧ X0 161 0 = X 15 0 ∧ X0 161 1 = 0 ∧ ∀ i, 0 ≤ i → i < 7 → X0 162 i = X 16 i ∧ X0 163 i = X 17 i ∧ X0 164 i = X 16 i ∧ X0 165 i = i ∧ X0 166 i = X 19 i
theorem ruleOf_ok {N : Nat} {k : Int} {M : jMem} (hk : 0 ≤ k ∧ k ≤ 6) : Fo_ruleOf N k M = some (rk k) ∧ jnb jTX (rk k) 5 = true := by
  unfold Fo_ruleOf rk
  by_cases c : k = 0
  · subst c
    exact ⟨by rw [if_neg (by decide), if_pos rfl], by rw [if_pos rfl]; decide⟩
  · rw [if_pos (by omega), if_neg (by omega), if_neg c, w32_id (by omega), jchk_pos (by omega)]
    refine ⟨by rw [show 13 + 164 + 6 * (k - 1) = 177 + 6 * (k - 1) by omega], ?_⟩
    obtain ⟨j, hj⟩ := fin_of (n := 6) (x := k - 1) (by omega) (by omega)
    rw [← hj]
    exact jnb_rule j
theorem FR_rk {X Y X' Y' : jMem} {k : Int} (h : Rel X Y) (F : FF X Y X' Y') (hk : 0 ≤ k ∧ k ≤ Y 0 2) (h21 : Y' 0 21 = k - 1) : FR X' Y' (rk k) := by
  obtain ⟨-, u2, u3, u4⟩ := h.2.1
  unfold rk
  by_cases c : k = 0
  · rw [if_pos c]; exact Or.inl ⟨by omega, by omega⟩
  · rw [if_neg c]
    refine Or.inr ⟨k - 1, by omega, by omega, rfl, h21, RuleR_congr (u4 (k - 1) (by omega) (by omega)) (fun p p1 p2 => F.1 p (by omega) (by unfold Stk; omega)) (F.2.1 5 (by omega)) (F.2.1 4 (by omega)) (F.2.1 2 (by omega))⟩
/-- the reference begins anew: every trial that was begun anew stands beside it -/
theorem again_ok {N : Nat} (hN : 1000 ≤ N) {X Y Y' : jMem} {k : Int} (h : Rel X Y) (hk : 0 ≤ k ∧ k ≤ Y 0 2) (hY : (∀ p, p < 0 ∨ (0 < p ∧ p < 8) ∨ (11 < p ∧ p < 17) ∨ 20 < p → Y' p = Y p) ∧ (∀ j, j ≠ 18 → j ≠ 21 → j ≠ 24 → j ≠ 37 → Y' 0 j = Y 0 j) ∧ (∀ k, 0 ≤ k → k < 36 → Y' 17 k = Y 10 (10 + k))) (h21 : Y' 0 21 = k - 1) (h10 : ∀ k, k < 10 ∨ 46 ≤ k → Y' 10 k = Y 10 k) :
    ∃ Y3, m_begins N Y' = some (0, Y3) ∧ (∀ X0, Bg X X0 → FF X Y X0 Y3 ∧ YB X0 Y3 161 18 (rk k) ∧ NR X0 27 (Y3 10)) ∧ Y3 10 10 = 0 ∧ NT (Y3 10) ∧ (∀ p, p ≠ 10 → Y3 p = Y' p) ∧ (∀ k, k < 10 ∨ 46 ≤ k → Y3 10 k = Y' 10 k) := by
  obtain ⟨s, w, pk, p, n, wt⟩ := Rel_s h
  have T : ∀ X0, Bg X X0 → ∃ Y3, m_begins N Y' = some (0, Y3) ∧ FF X Y X0 Y3 ∧ YB X0 Y3 161 18 (rk k) ∧ Y3 10 10 = 0 ∧ NR X0 27 (Y3 10) ∧ NT (Y3 10) ∧ (∀ p, p ≠ 10 → Y3 p = Y' p) ∧ (∀ k, k < 10 ∨ 46 ≤ k → Y3 10 k = Y' 10 k) := by
    intro X0 b
    have F : FF X Y X0 Y' := ⟨b.1, hY⟩
    have X15 : ∀ p, 14 ≤ p → p ≤ 30 → X0 p = X p := fun p a b' => b.1 p (by omega) (by unfold Stk; omega)
    refine trial_YB hN h F (FR_rk h F hk h21) (fun k hk => h10 k (by omega)) (fun i i0 i1 => by rw [h10 (60 + i) (by omega)]; exact wt.1 i i0 i1) (fun i i0 i1 => by rw [h10 (67 + i) (by omega)]; exact wt.2.1 i i0 i1) (fun _ _ => rfl) (by rw [X15 15 (by omega) (by omega)]; exact b.2.1) b.2.2.1 (fun i i0 i1 => ?_)
    obtain ⟨z1, z2, z3, z4, z5⟩ := b.2.2.2 i i0 i1
    rw [h10 (60 + i) (by omega), h10 (67 + i) (by omega), X15 19 (by omega) (by omega)]
    have p16 : X 16 i = Y 10 (60 + i) := p.2.2.1 i i0 i1
    have p17 : X 17 i = Y 10 (67 + i) := p.2.2.2.1 i i0 i1
    exact ⟨z1.trans p16, z2.trans p17, z3.trans p16, z4, z5⟩
  obtain ⟨X2, b1, b2, b3, b4, b5⟩ := beginX hN X
  obtain ⟨Y3, t1, t2, t3, t4, t5, t6, t7, t8⟩ := T X2 ⟨fun p hp _ => b2 p (by omega), b3, b4, b5⟩
  refine ⟨Y3, t1, fun X0 b => ?_, t4, t6, t7, t8⟩
  obtain ⟨Y3', q1, q2, q3, -, q5, -⟩ := T X0 b
  rw [t1] at q1
  cases q1
  exact ⟨q2, q3, q5⟩
theorem Bg_begin {N : Nat} (hN : 1000 ≤ N) {X Xc : jMem} (hx : ∀ p, p < 157 ∨ 170 < p → ¬ Stk p → Xc p = X p) : ∃ X2, St_begin N 161 15 Xc = some (0, X2) ∧ Bg X X2 ∧ (∀ p, p < 161 ∨ 166 < p → X2 p = Xc p) := by
  obtain ⟨X2, b1, b2, b3, b4, b5⟩ := beginX hN Xc
  have X15 : ∀ p, 14 ≤ p → p ≤ 30 → Xc p = X p := fun p a b' => hx p (by omega) (by unfold Stk; omega)
  refine ⟨X2, b1, ⟨fun p hp hs => by rw [b2 p (by omega)]; exact hx p hp hs, by rw [b3, X15 15 (by omega) (by omega)], b4, fun i i0 i1 => ?_⟩, b2⟩
  have := b5 i i0 i1
  rw [X15 16 (by omega) (by omega), X15 17 (by omega) (by omega), X15 19 (by omega) (by omega)] at this
  exact this
/-- which RULES it can have been, on both sides -/
theorem fits_ok {N : Nat} (hN : 1000 ≤ N) {X Y : jMem} {a : Int} (h : Rel X Y) (ha : 0 ≤ a ∧ a ≤ 60) :
    ∃ s X2 Y2, Fo_ruledBits N (X 0 6) X = some (s, X2) ∧ m_fillsFits N a Y = some (0, Y2) ∧ (0 ≤ s ∧ s < 128) ∧ (∀ k, 0 ≤ k → k < 7 → (s / p2 k % 2 = 1 ↔ (k ≤ Y 0 2 ∧ Y2 19 k ≠ 0))) ∧ FF X Y X2 Y2 ∧ Y2 10 = Y 10 ∧ Y2 0 21 = Y 0 21 ∧ (∀ k, 0 ≤ k → k ≤ Y 0 2 → ∀ X0, Bg X X0 → ∀ i, 0 ≤ i → i < Y 10 1 → Y2 20 (7 * k + i) = gy N (rk k) X0 (a + 1).toNat 163 (gy N (rk k) X0 (a + 1).toNat 165 i)) := by
  obtain ⟨u1, u2, u3, u4⟩ := h.2.1
  obtain ⟨Y1, k1, k2, k3⟩ := keeps_ok hN Y
  obtain ⟨s, w, pk, p, n, wt⟩ := Rel_s h
  have w1 := w.1
  rw [u1]
  have H : wp2 (jfix N (Fo_ruledBits_L6 N (Y 0 2)) (0, 0, X)) (jfix N (m_fillsFits_L11 N a (Y 0 21)) (0, Y1)) (fun o o' => o'.1 = 0 ∧ (0 ≤ o.1 ∧ o.1 < 128) ∧ (∀ k, 0 ≤ k → k < 7 → (o.1 / p2 k % 2 = 1 ↔ (k ≤ Y 0 2 ∧ o'.2 19 k ≠ 0))) ∧ FF X Y o.2 o'.2 ∧ o'.2 10 = Y 10 ∧ o'.2 0 21 = Y 0 21 ∧ (∀ k, 0 ≤ k → k ≤ Y 0 2 → ∀ X0, Bg X X0 → ∀ i, 0 ≤ i → i < Y 10 1 → o'.2 20 (7 * k + i) = gy N (rk k) X0 (a + 1).toNat 163 (gy N (rk k) X0 (a + 1).toNat 165 i))) := by
    refine wp2_fix (fun s => (7 - s.2.1).toNat) (fun (s : Int × Int × jMem) (t : Int × jMem) => s.2.1 = t.1 ∧ (0 ≤ s.2.1 ∧ s.2.1 ≤ Y 0 2 + 1) ∧ (0 ≤ s.1 ∧ s.1 < 128) ∧ (∀ k, 0 ≤ k → k < 7 → (s.1 / p2 k % 2 = 1 ↔ (k < s.2.1 ∧ t.2 19 k ≠ 0))) ∧ FF X Y s.2.2 t.2 ∧ (∀ k, k < 10 ∨ 46 ≤ k → t.2 10 k = Y 10 k) ∧ (∀ k, 0 ≤ k → k < s.2.1 → ∀ X0, Bg X X0 → ∀ i, 0 ≤ i → i < Y 10 1 → t.2 20 (7 * k + i) = gy N (rk k) X0 (a + 1).toNat 163 (gy N (rk k) X0 (a + 1).toNat 165 i))) ?_ N N _ _ ⟨rfl, ⟨by dsimp only; omega, by dsimp only; omega⟩, ⟨by dsimp only; omega, by dsimp only; omega⟩, fun k q0 q1 => by dsimp only; rw [Int.zero_ediv]; omega, ⟨fun _ _ _ => rfl, fun q hq => by dsimp only; rw [k2 q (by omega)], fun j _ _ _ _ => by dsimp only; rw [k2 0 (by omega)], k3⟩, fun k _ => by dsimp only; rw [k2 10 (by omega)], fun k q0 q1 => by dsimp only at q1; omega⟩ (by dsimp only; omega) (by dsimp only; omega)
    rintro h1 h2 ⟨x1, x2, Xc⟩ ⟨x3, Yc⟩ ⟨e, hx, hs, hb, Fc, hc10, hcr⟩ ih
    dsimp only at e hx hs hb Fc hc10 hcr
    subst e
    unfold Fo_ruledBits_L6 m_fillsFits_L11 jlt
    dsimp only
    have y02 : Yc 0 2 = Y 0 2 := Fc.2.2.1 2 (by omega) (by omega) (by omega) (by omega)
    simp only [y02]
    by_cases cx : Y 0 2 < x2
    · rw [if_pos cx, if_pos cx]
      have F1 : FF X Y Xc (up Yc 0 21 (Y 0 21)) := ⟨Fc.1, fun q hq => by rw [up_ne (by omega)]; exact Fc.2.1 q hq, fun j q1 q2 q3 q4 => by rw [up_col q2]; exact Fc.2.2.1 j q1 q2 q3 q4, fun k q1 q2 => by rw [up_row (by omega)]; exact Fc.2.2.2 k q1 q2⟩
      obtain ⟨Y2, l1, -, -, F2, E2, l4, l5⟩ := back_to hN h F1 ⟨fun k hk => by rw [up_row (by omega)]; exact hc10 k hk, up_hit rfl rfl⟩
      unfold jbv
      rw [l1, Option.bind_some]
      refine wp2_some ⟨rfl, hs, fun k q0 q1 => ?_, F2, l4, E2.2, fun k q0 q1 X0 b i i0 i1 => ?_⟩
      · dsimp only
        rw [hb k q0 q1, l5 19 (by omega), up_row (by omega)]
        constructor
        · rintro ⟨z1, z2⟩; exact ⟨by omega, z2⟩
        · rintro ⟨z1, z2⟩; exact ⟨by omega, z2⟩
      · dsimp only; rw [l5 20 (by omega), up_row (by omega)]; exact hcr k q0 (by omega) X0 b i i0 i1
    · rw [if_neg cx, if_neg cx, w32_id (x := x2 - 1) (by omega), w32_id (x := x2 + 1) (by omega)]
      obtain ⟨X2, b1, b2, b3⟩ := Bg_begin hN Fc.1
      obtain ⟨Y3, t1, t2, t3, t4, t5, t6⟩ := again_ok hN (Y' := up Yc 0 21 (x2 - 1)) (k := x2) h (by omega) ⟨fun q hq => by rw [up_ne (by omega)]; exact Fc.2.1 q hq, fun j q1 q2 q3 q4 => by rw [up_col q2]; exact Fc.2.2.1 j q1 q2 q3 q4, fun k q1 q2 => by rw [up_row (by omega)]; exact Fc.2.2.2 k q1 q2⟩ (up_hit rfl rfl) (fun k hk => by rw [up_row (by omega)]; exact hc10 k hk)
      obtain ⟨F2, B2, n2⟩ := t2 X2 b2
      obtain ⟨r, X4, Y4, v1, v2, v3, F4, v4, v5, v6, v7⟩ := seen_ok hN (a1 := x2) (a2 := a) n2 t4 F2 B2 t3 (by omega) (by omega)
      obtain ⟨o1, o2⟩ := ruleOf_ok (N := N) (k := x2) (M := X2) (by omega)
      have y31 : Y3 10 1 = Y 10 1 := by rw [t6 1 (by omega), up_row (by omega), hc10 1 (by omega)]
      have y19 : ∀ k, Y4 19 k = Yc 19 k := fun k => by rw [v4.2.2, t5 19 (by omega), up_row (by omega)]
      have y20 : ∀ j, j < 7 * x2 ∨ 7 * x2 + 7 ≤ j → Y4 20 j = Yc 20 j := fun j hj => by rw [v6 j hj, t5 20 (by omega), up_row (by omega)]
      unfold jbv jb1
      rw [b1, t1, Option.bind_some, Option.bind_some]
      dsimp only
      rw [o1, Option.bind_some, jchk_pos o2, v1, v2, Option.bind_some, Option.bind_some]
      dsimp only
      rw [jchk_pos (show 0 ≤ x2 ∧ x2 < 7 by omega), jchk_pos v3, shl_ok (by omega) (by omega)]
      have F5 : FF X Y X4 (up Y4 19 x2 r) := ⟨F4.1, fun q hq => by rw [up_ne (by omega)]; exact F4.2.1 q hq, fun j q1 q2 q3 q4 => by rw [up_row (by omega)]; exact F4.2.2.1 j q1 q2 q3 q4, fun k q1 q2 => by rw [up_row (by omega)]; exact F4.2.2.2 k q1 q2⟩
      have h105 : ∀ k, k < 10 ∨ 46 ≤ k → up Y4 19 x2 r 10 k = Y 10 k := fun k hk => by rw [up_row (by omega), v4.1 k hk, t6 k hk, up_row (by omega)]; exact hc10 k hk
      have hr5 : ∀ k, 0 ≤ k → k < x2 + 1 → ∀ X0, Bg X X0 → ∀ i, 0 ≤ i → i < Y 10 1 → up Y4 19 x2 r 20 (7 * k + i) = gy N (rk k) X0 (a + 1).toNat 163 (gy N (rk k) X0 (a + 1).toNat 165 i) := fun k q0 q1 X0 b i i0 i1 => by
        rw [up_row (by omega)]
        by_cases ck : k = x2
        · subst ck; exact v7 ha.1 X0 (t2 X0 b).2.1 i i0 (by omega)
        · rw [y20 _ (by omega)]; exact hcr k q0 (by omega) X0 b i i0 i1
      have hbit : ∀ k, 0 ≤ k → k < 7 → (up Y4 19 x2 r 19 k ≠ 0 ↔ (if k = x2 then r ≠ 0 else Yc 19 k ≠ 0)) := fun k q0 q1 => by
        by_cases ck : k = x2
        · rw [up_hit rfl ck, if_pos ck]
        · rw [up_col ck, y19, if_neg ck]
      by_cases cr : r = 0
      · rw [if_pos cr]
        refine ih _ _ ⟨rfl, ⟨by dsimp only; omega, by dsimp only; omega⟩, hs, fun k q0 q1 => ?_, F5, h105, hr5⟩ (by dsimp only; omega)
        dsimp only
        rw [hb k q0 q1, hbit k q0 q1]
        by_cases ck : k = x2
        · rw [if_pos ck]; omega
        · rw [if_neg ck]
          constructor
          · rintro ⟨z1, z2⟩; exact ⟨by omega, z2⟩
          · rintro ⟨z1, z2⟩; exact ⟨by omega, z2⟩
      · rw [if_neg cr]
        refine ih _ _ ⟨rfl, ⟨by dsimp only; omega, by dsimp only; omega⟩, or_p2_in hs (by omega) (by omega), fun k q0 q1 => ?_, F5, h105, hr5⟩ (by dsimp only; omega)
        dsimp only
        rw [or_p2 hs (by omega) (by omega) q0 q1, hb k q0 q1, hbit k q0 q1]
        by_cases ck : k = x2
        · rw [if_pos ck]; omega
        · rw [if_neg ck]
          constructor
          · rintro (⟨z1, z2⟩ | z)
            · exact ⟨by omega, z2⟩
            · exact absurd z ck
          · rintro ⟨z1, z2⟩; exact Or.inl ⟨by omega, z2⟩
  obtain ⟨⟨v, X2⟩, ⟨v', Y2⟩, e1, e2, q1, q2, q3, q4, q5, q6, q7⟩ := H
  dsimp only at q1 q2 q3 q4 q5 q6 q7
  subst q1
  refine ⟨v, X2, Y2, e1, ?_, q2, q3, q4, q5, q6, q7⟩
  unfold m_fillsFits jlt jbv
  dsimp only
  rw [k1, Option.bind_some]
  exact e2
theorem ruled_ok {N : Nat} (hN : 1000 ≤ N) (a : Int) : OK (x_ruled N a) (m_ruled N a) := by
  intro X Y h
  obtain ⟨r1, e1, f1, g1⟩ := within_ok N a 0 1 X Y
  obtain ⟨r3, e3, f3, g3⟩ := hasParish_ok N h
  unfold x_ruled m_ruled
  rw [e1, e3, f1, f3]
  simp only [Option.bind_some]
  by_cases c3 : r3 = 0
  · rw [if_pos c3, if_pos c3]
    by_cases c1 : r1 = 0
    · rw [if_pos c1]; exact ⟨_, _, _, rfl, rfl, h, TF_refl⟩
    · rw [if_neg c1]; exact ⟨_, _, _, rfl, rfl, h, TF_refl⟩
  · rw [if_neg c3, if_neg c3]
    by_cases c1 : r1 = 0
    · rw [if_pos c1, if_pos c1]; exact ⟨_, _, _, rfl, rfl, h, TF_refl⟩
    · rw [if_neg c1, if_neg c1]
      obtain ⟨s, X2, Y2, p1, pp2, p3, p4, p5, p6, p7, -⟩ := fits_ok hN (a := 0) h (by omega)
      obtain ⟨R, T⟩ := fore_rel h p5 p6 p7
      obtain ⟨-, u2, u3, -⟩ := h.2.1
      have y02 : Y2 0 2 = Y 0 2 := p5.2.2.1 2 (by omega) (by omega) (by omega) (by omega)
      have H : wp (jfix N (m_ruled_L36 N a Y2) (0, -2, Y2 0 2)) (fun o => o.2 = Y2 ∧ (a = 0 → o.1 = pcn s) ∧ (a ≠ 0 → ((o.1 = -2 ∧ ∀ k : Nat, k < 7 → s / p2 (k : Int) % 2 = 0) ∨ ∃ k : Nat, k < 7 ∧ s / p2 (k : Int) % 2 = 1 ∧ (∀ j : Nat, j < k → s / p2 (j : Int) % 2 = 0) ∧ o.1 = (k : Int) - 1))) := by
        refine wp_fix (fun t => (t.2.2 + 1).toNat) (fun (t : Int × Int × Int) => (-1 ≤ t.2.2 ∧ t.2.2 ≤ Y 0 2) ∧ t.1 = cnt s 7 - cnt s (t.2.2 + 1).toNat ∧ ((t.2.1 = -2 ∧ ∀ k : Nat, t.2.2 < (k : Int) → k < 7 → s / p2 (k : Int) % 2 = 0) ∨ ∃ k : Nat, t.2.2 < (k : Int) ∧ k < 7 ∧ s / p2 (k : Int) % 2 = 1 ∧ (∀ j : Nat, t.2.2 < (j : Int) → j < k → s / p2 (j : Int) % 2 = 0) ∧ t.2.1 = (k : Int) - 1)) ?_ N _ ⟨⟨by dsimp only; omega, by dsimp only; omega⟩, ?_, ?_⟩ (by dsimp only; omega)
        · rintro hh ⟨x5, x6, x7⟩ ⟨hx, hc, hl⟩ ih
          dsimp only at hx hc hl
          unfold m_ruled_L36 jlt
          dsimp only
          by_cases cx : x7 < 0
          · rw [if_pos cx]
            have e0 : (x7 + 1).toNat = 0 := by omega
            rw [e0] at hc
            have hc0 : x5 = pcn s := by rw [hc, cnt7]; show pcn s - 0 = pcn s; omega
            by_cases ca : a = 0
            · rw [if_pos ca]; exact wp_some ⟨rfl, fun _ => hc0, fun z => absurd ca z⟩
            · rw [if_neg ca]
              refine wp_some ⟨rfl, fun z => absurd z ca, fun _ => ?_⟩
              rcases hl with ⟨z1, z2⟩ | ⟨k, z1, z2, z3, z4, z5⟩
              · exact Or.inl ⟨z1, fun k hk => z2 k (by omega) hk⟩
              · exact Or.inr ⟨k, z2, z3, fun j hj => z4 j (by omega) hj, z5⟩
          · rw [if_neg cx, jchk_pos (by omega), w32_id (x := x7 + -1) (by omega)]
            have hbx := p4 x7 (by omega) (by omega)
            have en : ((x7.toNat : Nat) : Int) = x7 := by omega
            have ecn : cnt s (x7 + 1).toNat = cnt s x7.toNat + s / p2 x7 % 2 := by
              rw [show (x7 + 1).toNat = x7.toNat + 1 by omega]
              show cnt s x7.toNat + s / p2 ((x7.toNat : Nat) : Int) % 2 = _
              rw [en]
            have ec2 : (x7 + -1 + 1).toNat = x7.toNat := by omega
            have i0 := cnt_in s 7
            have i1 := cnt_in s x7.toNat
            have mono : cnt s (x7 + 1).toNat ≤ (x7 + 1).toNat := (cnt_in s _).2
            have b := b01 (s := s) (k := x7)
            by_cases cf : Y2 19 x7 = 0
            · have hb0 : s / p2 x7 % 2 = 0 := by
                rcases b with z | z
                · exact z
                · exact absurd cf (hbx.mp z).2
              rw [if_pos cf]
              refine ih _ ⟨⟨by dsimp only; omega, by dsimp only; omega⟩, by dsimp only; rw [ec2]; omega, ?_⟩ (by dsimp only; omega)
              dsimp only
              rcases hl with ⟨z1, z2⟩ | ⟨k, z1, z2, z3, z4, z5⟩
              · refine Or.inl ⟨z1, fun k q0 q1 => ?_⟩
                by_cases ck : (k : Int) = x7
                · rw [ck]; exact hb0
                · exact z2 k (by omega) q1
              · refine Or.inr ⟨k, by omega, z2, z3, fun j q0 q1 => ?_, z5⟩
                by_cases ck : (j : Int) = x7
                · rw [ck]; exact hb0
                · exact z4 j (by omega) q1
            · have hb1 : s / p2 x7 % 2 = 1 := hbx.mpr ⟨by omega, cf⟩
              rw [if_neg cf, w32_id (x := x5 + 1) (by omega), w32_id (x := x7 - 1) (by omega)]
              refine ih _ ⟨⟨by dsimp only; omega, by dsimp only; omega⟩, by dsimp only; rw [ec2]; omega, ?_⟩ (by dsimp only; omega)
              dsimp only
              exact Or.inr ⟨x7.toNat, by omega, by omega, by rw [en]; exact hb1, fun j q0 q1 => by omega, by omega⟩
        · dsimp only
          rw [y02]
          have := cnt_same (s := s) (n := (Y 0 2 + 1).toNat) (7 - (Y 0 2 + 1).toNat) (fun k q0 q1 => by
            rcases b01 (s := s) (k := (k : Int)) with z | z
            · exact z
            · have := ((p4 (k : Int) (by omega) (by omega)).mp z).1; omega)
          rw [show (Y 0 2 + 1).toNat + (7 - (Y 0 2 + 1).toNat) = 7 by omega] at this
          omega
        · dsimp only
          refine Or.inl ⟨rfl, fun k q0 q1 => ?_⟩
          rcases b01 (s := s) (k := (k : Int)) with z | z
          · exact z
          · have := ((p4 (k : Int) (by omega) (by omega)).mp z).1; omega
      obtain ⟨⟨v, Y3⟩, t1, t2, t3, t4⟩ := H
      dsimp only at t2 t3 t4
      subst t2
      unfold jb1 jbv jlt
      rw [p1, pp2, Option.bind_some, Option.bind_some]
      dsimp only
      rw [t1]
      by_cases ca : a = 0
      · rw [if_pos ca, bc_ok N X2 p3.1 p3.2, Option.bind_some]
        exact ⟨_, _, _, rfl, by rw [t3 ca], R, T⟩
      · rw [if_neg ca]
        have H2 : wp (Fo_firstRuled N s X2) (fun u => (u = -2 ∧ ∀ k : Nat, k < 7 → s / p2 (k : Int) % 2 = 0) ∨ ∃ k : Nat, k < 7 ∧ s / p2 (k : Int) % 2 = 1 ∧ (∀ j : Nat, j < k → s / p2 (j : Int) % 2 = 0) ∧ u = (k : Int) - 1) := by
          unfold Fo_firstRuled
          refine wp_fix (fun t => (7 - t).toNat) (fun t => ∃ k : Nat, k ≤ 7 ∧ t = (k : Int) ∧ ∀ j : Nat, j < k → s / p2 (j : Int) % 2 = 0) ?_ N _ ⟨0, by omega, rfl, fun j hj => by omega⟩ (by omega)
          rintro hh x ⟨k, q0, q1, q2⟩ ih
          subst q1
          unfold Fo_firstRuled_L2
          dsimp only
          by_cases c6 : (6 : Int) < (k : Int)
          · rw [if_pos c6]; exact wp_some (Or.inl ⟨rfl, fun j hj => q2 j (by omega)⟩)
          · rw [if_neg c6, shr_ok p3.1 p3.2 (by omega) (by omega)]
            rcases b01 (s := s) (k := (k : Int)) with z | z
            · rw [if_pos z, w32_id (by omega)]
              exact ih _ ⟨k + 1, by omega, by omega, fun j hj => by
                by_cases cj : j = k
                · rw [cj]; exact z
                · exact q2 j (by omega)⟩ (by omega)
            · rw [if_neg (by omega), w32_id (by omega)]
              exact wp_some (Or.inr ⟨k, by omega, z, q2, rfl⟩)
        obtain ⟨u, u1, u2'⟩ := H2
        rw [u1, Option.bind_some]
        refine ⟨_, _, _, rfl, ?_, R, T⟩
        congr 2
        rcases t4 ca with ⟨z1, z2⟩ | ⟨k, z1, z2, z3, z4⟩
        · rcases u2' with ⟨y1, -⟩ | ⟨k, y1, y2, -⟩
          · omega
          · have := z2 k y1; omega
        · rcases u2' with ⟨y1, y2⟩ | ⟨k', y1, y2, y3, y4⟩
          · have := y2 k z1; omega
          · have q1 : ¬ k < k' := fun q => by have := y3 k q; omega
            have q2 : ¬ k' < k := fun q => by have := z3 k' q; omega
            omega
