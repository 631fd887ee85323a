/-! copies -/
theorem jcp_row {M : jMem} {a0 a n q j : Int} (h : q ≠ a) : jcp M a0 a n q j = M q j := by rw [jcp_ne h]
theorem jcp_hit {M : jMem} {a0 a n q j : Int} (h : q = a) (h0 : 0 ≤ j) (h1 : j < n) : jcp M a0 a n q j = M a0 j := by rw [jcp_all, if_pos ⟨h, h0, h1⟩]
theorem cpSt {N : Nat} {q a : Int} (X : jMem) (hd : a + 5 < q ∨ q + 5 < a) : ∃ X', St_copyFrom N q a X = some (0, X') ∧ (∀ p, p < q ∨ q + 5 < p → X' p = X p) ∧ X' q 0 = X a 0 ∧ X' q 1 = X a 1 ∧ (∀ i, 0 ≤ i → i < 7 → X' (q + 1) i = X (a + 1) i) ∧ (∀ i, 0 ≤ i → i < 7 → X' (q + 2) i = X (a + 2) i) ∧ (∀ i, 0 ≤ i → i < 7 → X' (q + 3) i = X (a + 3) i) ∧ (∀ i, 0 ≤ i → i < 7 → X' (q + 4) i = X (a + 4) i) ∧ (∀ i, 0 ≤ i → i < 7 → X' (q + 5) i = X (a + 5) i) := by
  refine ⟨_, rfl, fun p hp => ?_, ?_, ?_, fun i h0 h1 => ?_, fun i h0 h1 => ?_, fun i h0 h1 => ?_, fun i h0 h1 => ?_, fun i h0 h1 => ?_⟩
  · rw [jcp_ne (by omega), jcp_ne (by omega), jcp_ne (by omega), jcp_ne (by omega), jcp_ne (by omega), up_ne (by omega), up_ne (by omega)]
  all_goals simp (disch := omega) only [jcp_row, jcp_hit, up_row, up_col, up_hit]
theorem cpPa {N : Nat} {q a : Int} (X : jMem) (hd : a + 5 < q ∨ q + 5 < a) : ∃ X', Pa_copyFrom N q a X = some (0, X') ∧ (∀ p, p < q ∨ q + 5 < p → X' p = X p) ∧ (∀ σ, PR X a σ → PR X' q σ) := by
  obtain ⟨X', e, f, a0, a1, b1, b2, b3, b4, b5⟩ := cpSt (N := N) X hd
  refine ⟨X', e, f, fun σ h => ?_⟩
  obtain ⟨h0, h1, c1, c2, c3, c4, c5⟩ := h
  exact ⟨by rw [a0]; exact h0, by rw [a1]; exact h1, fun i i0 i1 => by rw [b1 i i0 i1]; exact c1 i i0 i1, fun i i0 i1 => by rw [b2 i i0 i1]; exact c2 i i0 i1, fun i i0 i1 => by rw [b3 i i0 i1]; exact c3 i i0 i1, fun i i0 i1 => by rw [b4 i i0 i1]; exact c4 i i0 i1, fun i i0 i1 => by rw [b5 i i0 i1]; exact c5 i i0 i1⟩
theorem cpS {N : Nat} {q a : Int} (X : jMem) (hd : a + 5 < q ∨ q + 5 < a) : ∃ X', St_copyFrom N q a X = some (0, X') ∧ (∀ p, p < q ∨ q + 5 < p → X' p = X p) ∧ (∀ σ, SR X a σ → SR X' q σ) := by
  obtain ⟨X', e, f, a0, a1, b1, b2, b3, b4, b5⟩ := cpSt (N := N) X hd
  refine ⟨X', e, f, fun σ h => ?_⟩
  obtain ⟨h0, h1, c1, c2, c3, c4, c5⟩ := h
  exact ⟨by rw [a0]; exact h0, by rw [a1]; exact h1, fun i i0 i1 => by rw [b1 i i0 i1]; exact c1 i i0 i1, fun i i0 i1 => by rw [b2 i i0 i1]; exact c2 i i0 i1, fun i i0 i1 => by rw [b3 i i0 i1]; exact c3 i i0 i1, fun i i0 i1 => by rw [b4 i i0 i1]; exact c4 i i0 i1, fun i i0 i1 => by rw [b5 i i0 i1]; exact c5 i i0 i1⟩
theorem cpN {N : Nat} {q a : Int} (X : jMem) (hd : a + 3 < q ∨ q + 3 < a) : ∃ X', No_copyFrom N q a X = some (0, X') ∧ (∀ p, p < q ∨ q + 3 < p → X' p = X p) ∧ (∀ σ, σ 111 ≤ 10 → NR X a σ → NR X' q σ) := by
  refine ⟨_, rfl, fun p hp => ?_, fun σ hs h => ?_⟩
  · rw [jcp_ne (by omega), jcp_ne (by omega), jcp_ne (by omega), up_ne (by omega)]
  · obtain ⟨h0, h1⟩ := h
    refine ⟨?_, fun i i0 i1 => ?_⟩
    · simp (disch := omega) only [jcp_row, up_hit]; exact h0
    · obtain ⟨c1, c2, c3⟩ := h1 i i0 i1
      simp (disch := omega) only [jcp_row, jcp_hit, up_row]
      exact ⟨c1, c2, c3⟩
theorem cpW {N : Nat} {q a : Int} (X : jMem) (hd : a + 16 < q ∨ q + 16 < a) : ∃ X', Wo_copyFrom N q a X = some (0, X') ∧ (∀ p, p < q ∨ q + 16 < p → X' p = X p) ∧ (∀ σ, σ 111 ≤ 10 → WR X a σ → WR X' q σ) ∧ X' q 3 = X a 3 ∧ X' q 4 = X a 4 ∧ (∀ j, j ≠ 3 → j ≠ 4 → X' q j = X q j) := by
  obtain ⟨X1, e1, f1, g1⟩ := cpPa (N := N) (q := q + 1) (a := a + 1) X (by omega)
  obtain ⟨X2, e2, f2, g2⟩ := cpS (N := N) (q := q + 7) (a := a + 7) X1 (by omega)
  obtain ⟨X3, e3, f3, g3⟩ := cpN (N := N) (q := q + 13) (a := a + 13) X2 (by omega)
  refine ⟨up (up X3 q 3 (X3 a 3)) q 4 (up X3 q 3 (X3 a 3) a 4), ?_, fun p hp => ?_, fun σ hs h => ?_, ?_, ?_, fun j j3 j4 => ?_⟩
  · unfold Wo_copyFrom; simp only [e1, e2, e3, jbv, Option.bind_some, jlt]
  · rw [up_ne (by omega), up_ne (by omega), f3 p (by omega), f2 p (by omega), f1 p (by omega)]
  · obtain ⟨h1, h2, h3⟩ := h
    have hu : ∀ p, p ≠ q → up (up X3 q 3 (X3 a 3)) q 4 (up X3 q 3 (X3 a 3) a 4) p = X3 p := fun p hp => by rw [up_ne hp, up_ne hp]
    refine ⟨PR_congr (g1 σ h1) (fun p p1 p2 => ?_), SR_congr (g2 σ (SR_congr h2 (fun p p1 p2 => f1 p (by omega)))) (fun p p1 p2 => ?_), NR_congr (g3 σ hs (NR_congr h3 (fun p p1 p2 => ?_))) (fun p p1 p2 => ?_)⟩
    · rw [hu p (by omega), f3 p (by omega), f2 p (by omega)]
    · rw [hu p (by omega), f3 p (by omega)]
    · rw [f2 p (by omega), f1 p (by omega)]
    · rw [hu p (by omega)]
  · rw [up_col (by omega), up_hit rfl rfl, f3 a (by omega), f2 a (by omega), f1 a (by omega)]
  · rw [up_hit rfl rfl, up_row (by omega), f3 a (by omega), f2 a (by omega), f1 a (by omega)]
  · rw [up_col j4, up_col j3, f3 q (by omega), f2 q (by omega), f1 q (by omega)]
/-! acts -/
/-- the state alone has changed -/
theorem Rel_said {X X' Y Y' : jMem} (h : Rel X Y) (hx : ∀ p, (p = 0 ∨ p = 1 ∨ (14 ≤ p ∧ p ≤ 20) ∨ (27 ≤ p ∧ p ≤ 152) ∨ (171 ≤ p ∧ p ≤ 173) ∨ (177 ≤ p ∧ p ≤ 280)) → ¬ Stk p → X' p = X p) (hy : ∀ p, p = 1 ∨ p = 2 ∨ p = 4 ∨ p = 5 ∨ p = 12 ∨ p = 21 ∨ p = 22 ∨ p = 23 ∨ p = 24 → Y' p = Y p) (h0 : ∀ j, j = 1 ∨ j = 2 ∨ j = 21 ∨ j = 22 ∨ j = 26 → Y' 0 j = Y 0 j)
    (h10 : ∀ k, k < 10 ∨ 46 ≤ k → Y' 10 k = Y 10 k) (hS : SR X' 21 (Y' 10)) (hW : WS (Y' 10)) (hr : 0 ≤ Y' 10 10 ∧ Y' 10 10 ≤ 999) : Rel X' Y' ∧ TF X X' := by
  obtain ⟨a, b, c, d, e⟩ := h
  have hk : ∀ p, (p = 0 ∨ p = 1 ∨ (14 ≤ p ∧ p ≤ 20) ∨ (27 ≤ p ∧ p ≤ 152) ∨ (171 ≤ p ∧ p ≤ 173) ∨ (213 ≤ p ∧ p ≤ 280)) → X' p = X p := fun p hp => hx p (by omega) (by unfold Stk; omega)
  have hwas : ∀ j, wasR Y' j = wasR Y j := fun j => by
    funext k; unfold wasR; rw [hy 12 (by omega)]
    by_cases c : 10 ≤ k ∧ k < 46
    · rw [if_pos c, if_pos c]
    · rw [if_neg c, if_neg c]; exact h10 k (by omega)
  refine ⟨⟨TR_congr a (by rw [hk 0 (by omega)]) (hk 1 (by omega)) (h0 1 (by omega)) (hy 1 (by omega)), UR_congr b (by rw [hk 0 (by omega)]) (fun p p1 p2 p3 => hx p (by omega) p3) (h0 2 (by omega)) (hy 2 (by omega)) (hy 4 (by omega)) (hy 5 (by omega)), ?_, ?_, IR_congr e (fun p p1 p2 => hk p (by omega)) (hy 21 (by omega)) (hy 22 (by omega)) (hy 23 (by omega)) (hy 24 (by omega)) (h0 2 (by omega))⟩, hk 171 (by omega), hk 172 (by omega), hk 173 (by omega)⟩
  · obtain ⟨⟨v1, v2, v3⟩, v4, ⟨t1, t2, t3, t4, t5, t6, t7⟩, v6⟩ := c
    refine ⟨⟨?_, hS, ?_⟩, hW, ⟨?_, ?_, ?_, ?_, ?_, ?_, hr⟩, ?_⟩
    · have := PR_congr v1 (X' := X') (fun p p1 p2 => hk p (by omega))
      obtain ⟨p0, p1, p2, p3, p4, p5, p6⟩ := this
      exact ⟨by rw [h10 1 (by omega)]; exact p0, by rw [h10 2 (by omega)]; exact p1, fun i i0 i1 => by rw [h10 (60 + i) (by omega)]; exact p2 i i0 i1, fun i i0 i1 => by rw [h10 (67 + i) (by omega)]; exact p3 i i0 i1, fun i i0 i1 => by rw [h10 (46 + i) (by omega)]; exact p4 i i0 i1, fun i i0 i1 => by rw [h10 (74 + i) (by omega)]; exact p5 i i0 i1, fun i i0 i1 => by rw [h10 (53 + i) (by omega)]; exact p6 i i0 i1⟩
    · have := NR_congr v3 (X' := X') (fun p p1 p2 => hk p (by omega))
      obtain ⟨n0, n1⟩ := this
      refine ⟨by rw [h10 111 (by omega)]; exact n0, fun i i0 i1 => ?_⟩
      rw [h10 111 (by omega)] at i1
      rw [h10 (81 + 3 * i) (by omega), h10 (82 + 3 * i) (by omega), h10 (83 + 3 * i) (by omega)]
      exact n1 i i0 i1
    · intro i i0 i1; rw [h10 (60 + i) (by omega)]; exact t1 i i0 i1
    · intro i i0 i1; rw [h10 (67 + i) (by omega)]; exact t2 i i0 i1
    · intro i i0 i1; rw [h10 (74 + i) (by omega)]; exact t3 i i0 i1
    · rw [h10 111 (by omega)]; exact t4
    · intro i i0 i1
      rw [h10 111 (by omega)] at i1
      rw [h10 (81 + 3 * i) (by omega), h10 (82 + 3 * i) (by omega), h10 (83 + 3 * i) (by omega), h10 1 (by omega)]
      exact t5 i i0 i1
    · rw [h10 0 (by omega), h10 1 (by omega)]; exact t6
    · rw [hk 14 (by omega), h0 21 (by omega), h0 22 (by omega), h0 2 (by omega)]; exact v6
  · obtain ⟨d1, d2, d3, d4⟩ := d
    unfold AR
    rw [hk 31 (by omega), h0 26 (by omega)]
    refine ⟨d1, d2, d3, fun j j0 j1 => ?_⟩
    rw [hwas]
    obtain ⟨g1, g2⟩ := d4 j j0 j1
    have hm : 0 ≤ (X 31 1 - Y 0 26 + j) % 20 ∧ (X 31 1 - Y 0 26 + j) % 20 < 20 := by omega
    exact ⟨SR_congr g1 (fun p p1 p2 => hk p (by omega)), g2⟩
/-- the reference's row of acts with one more -/
theorem keepsAct_ok {N : Nat} (hN : 1000 ≤ N) {Y : jMem} (h0 : 0 ≤ Y 0 26) (h1 : Y 0 26 ≤ 20) :
    ∃ Y', m_keepsAct N Y = some (0, Y') ∧ (∀ p, p ≠ 0 → p ≠ 12 → Y' p = Y p) ∧ (∀ j, j ≠ 26 → Y' 0 j = Y 0 j) ∧ ((Y 0 26 < 20 ∧ Y' 0 26 = Y 0 26 + 1 ∧ (∀ k, 0 ≤ k → k < 36 * Y 0 26 → Y' 12 k = Y 12 k)) ∨ (Y 0 26 = 20 ∧ Y' 0 26 = 20 ∧ (∀ k, 0 ≤ k → k < 684 → Y' 12 k = Y 12 (k + 36)))) ∧ (∀ k, 0 ≤ k → k < 36 → Y' 12 (36 * (Y' 0 26 - 1) + k) = Y 10 (10 + k)) := by
  have P : ∀ Z : jMem, 0 ≤ Z 0 26 → Z 0 26 < 20 → ∃ Z', jfix N (m_keepsAct_L52 N) (0, Z) = some (0, Z') ∧ (∀ p, p ≠ 0 → p ≠ 12 → Z' p = Z p) ∧ (∀ j, j ≠ 26 → Z' 0 j = Z 0 j) ∧ Z' 0 26 = Z 0 26 + 1 ∧ (∀ k, 0 ≤ k → k < 36 * Z 0 26 → Z' 12 k = Z 12 k) ∧ (∀ k, 0 ≤ k → k < 36 → Z' 12 (36 * (Z' 0 26 - 1) + k) = Z 10 (10 + k)) := by
    intro Z z0 z1
    have H : wp (jfix N (m_keepsAct_L52 N) (0, Z)) (fun o => o.1 = 0 ∧ (∀ p, p ≠ 0 → p ≠ 12 → o.2 p = Z p) ∧ (∀ j, j ≠ 26 → o.2 0 j = Z 0 j) ∧ o.2 0 26 = Z 0 26 + 1 ∧ (∀ k, 0 ≤ k → k < 36 * Z 0 26 → o.2 12 k = Z 12 k) ∧ (∀ k, 0 ≤ k → k < 36 → o.2 12 (36 * (o.2 0 26 - 1) + k) = Z 10 (10 + k))) := by
      refine wp_fix (fun s => (36 - s.1).toNat) (fun (s : Int × jMem) => (0 ≤ s.1 ∧ s.1 ≤ 36) ∧ (∀ p, p ≠ 12 → s.2 p = Z p) ∧ (∀ k, 0 ≤ k → k < 36 * Z 0 26 → s.2 12 k = Z 12 k) ∧ (∀ k, 0 ≤ k → k < s.1 → s.2 12 (36 * Z 0 26 + k) = Z 10 (10 + k))) ?_ N _ ⟨⟨by dsimp only; omega, by dsimp only; omega⟩, fun _ _ => rfl, fun _ _ _ => rfl, fun k k0 k1 => by dsimp only at k1; omega⟩ (by dsimp only; omega)
      rintro h ⟨x, Z1⟩ ⟨⟨x0, x1⟩, f, g, i⟩ ih
      dsimp only at x0 x1 f g i
      unfold m_keepsAct_L52 jlt
      dsimp only
      rw [f 0 (by omega), f 10 (by omega)]
      by_cases c : x < 36
      · rw [if_pos c]
        simp (disch := omega) only [jchk_pos, w32_id]
        refine ih _ ⟨⟨by dsimp only; omega, by dsimp only; omega⟩, fun p hp => ?_, fun k k0 k1 => ?_, fun k k0 k1 => ?_⟩ (by dsimp only; omega)
        · dsimp only; rw [up_ne hp]; exact f p hp
        · dsimp only; rw [up_col (by omega)]; exact g k k0 k1
        · dsimp only at k1 ⊢
          by_cases ck : k = x
          · rw [up_hit rfl (by omega), ck]
          · rw [up_col (by omega)]; exact i k k0 (by omega)
      · rw [if_neg c, w32_id (by omega)]
        refine wp_some ⟨rfl, fun p p0 p1 => ?_, fun j hj => ?_, ?_, fun k k0 k1 => ?_, fun k k0 k1 => ?_⟩
        · dsimp only; rw [up_ne p0]; exact f p p1
        · dsimp only; rw [up_col hj, f 0 (by omega)]
        · dsimp only; rw [up_hit rfl rfl]
        · dsimp only; rw [up_row (by omega)]; exact g k k0 k1
        · dsimp only; rw [up_hit rfl rfl, up_row (by omega), show 36 * (Z 0 26 + 1 - 1) + k = 36 * Z 0 26 + k by omega]; exact i k k0 (by omega)
    obtain ⟨⟨v, Z'⟩, e, q1, q2⟩ := H
    dsimp only at q1 q2
    subst q1
    exact ⟨Z', e, q2⟩
  unfold m_keepsAct
  rw [show ∀ (f : (jMem → Option (Int × jMem)) → Option (Int × jMem)) a, jlt a f = f a from fun _ _ => rfl]
  by_cases c : Y 0 26 = 20
  · rw [if_pos c]
    have H : wp (jfix N (m_keepsAct_L12 N (fun (M1 : jMem) => jfix N (m_keepsAct_L52 N) (0, M1))) (36, Y)) (fun o => o.1 = 0 ∧ (∀ p, p ≠ 0 → p ≠ 12 → o.2 p = Y p) ∧ (∀ j, j ≠ 26 → o.2 0 j = Y 0 j) ∧ o.2 0 26 = 20 ∧ (∀ k, 0 ≤ k → k < 684 → o.2 12 k = Y 12 (k + 36)) ∧ (∀ k, 0 ≤ k → k < 36 → o.2 12 (36 * (o.2 0 26 - 1) + k) = Y 10 (10 + k))) := by
      refine wp_fix (fun s => (720 - s.1).toNat) (fun (s : Int × jMem) => (36 ≤ s.1 ∧ s.1 ≤ 720) ∧ (∀ p, p ≠ 12 → s.2 p = Y p) ∧ (∀ k, 0 ≤ k → k < s.1 - 36 → s.2 12 k = Y 12 (k + 36)) ∧ (∀ k, s.1 - 36 ≤ k → s.2 12 k = Y 12 k)) ?_ N _ ⟨⟨by dsimp only; omega, by dsimp only; omega⟩, fun _ _ => rfl, fun k k0 k1 => by dsimp only at k1; omega, fun _ _ => rfl⟩ (by dsimp only; omega)
      rintro h ⟨x, Z1⟩ ⟨⟨x0, x1⟩, f, g, i⟩ ih
      dsimp only at x0 x1 f g i
      unfold m_keepsAct_L12 jlt
      dsimp only
      by_cases cx : x < 720
      · rw [if_pos cx]
        simp (disch := omega) only [jchk_pos, w32_id]
        refine ih _ ⟨⟨by dsimp only; omega, by dsimp only; omega⟩, fun p hp => ?_, fun k k0 k1 => ?_, fun k k0 => ?_⟩ (by dsimp only; omega)
        · dsimp only; rw [up_ne hp]; exact f p hp
        · dsimp only at k1 ⊢
          by_cases ck : k = x - 36
          · rw [up_hit rfl ck, i x (by omega), ck, show x - 36 + 36 = x by omega]
          · rw [up_col ck]; exact g k k0 (by omega)
        · dsimp only at k0 ⊢; rw [up_col (by omega)]; exact i k (by omega)
      · rw [if_neg cx, f 0 (by omega), w32_id (by omega)]
        obtain ⟨Z', e, q1, q2, q3, q4, q5⟩ := P (up Z1 0 26 (Y 0 26 - 1)) (by rw [up_hit rfl rfl]; omega) (by rw [up_hit rfl rfl]; omega)
        rw [up_hit rfl rfl] at q3 q4
        refine ⟨_, e, rfl, fun p p0 p1 => ?_, fun j hj => ?_, ?_, fun k k0 k1 => ?_, fun k k0 k1 => ?_⟩
        · dsimp only; rw [q1 p p0 p1, up_ne p0]; exact f p p1
        · dsimp only; rw [q2 j hj, up_col hj, f 0 (by omega)]
        · dsimp only; omega
        · dsimp only; rw [q4 k k0 (by omega), up_row (by omega)]; exact g k k0 (by omega)
        · dsimp only; rw [q5 k k0 k1, up_row (by omega), f 10 (by omega)]
    obtain ⟨⟨v, Y'⟩, e, q1, q2, q3, q4, q5, q6⟩ := H
    dsimp only at q1 q2 q3 q4 q5 q6
    subst q1
    exact ⟨Y', e, q2, q3, Or.inr ⟨c, q4, q5⟩, q6⟩
  · rw [if_neg c]
    obtain ⟨Z', e, q1, q2, q3, q4, q5⟩ := P Y h0 (by omega)
    exact ⟨Z', e, q1, q2, Or.inl ⟨by omega, q3, q4⟩, q5⟩
theorem wasR_said {Y Y' : jMem} {j : Int} (h12 : ∀ k, 0 ≤ k → k < 36 → Y' 12 (36 * j + k) = Y 10 (10 + k)) (h10 : Y' 10 = Y 10) : wasR Y' j = Y 10 := by
  funext k
  unfold wasR
  by_cases c : 10 ≤ k ∧ k < 46
  · rw [if_pos c, h12 (k - 10) (by omega) (by omega), show 10 + (k - 10) = k by omega]
  · rw [if_neg c, h10]
theorem wasR_shift {Y Y' : jMem} {i j : Int} (h12 : ∀ k, 0 ≤ k → k < 36 → Y' 12 (36 * j + k) = Y 12 (36 * i + k)) (h10 : Y' 10 = Y 10) : wasR Y' j = wasR Y i := by
  funext k
  unfold wasR
  by_cases c : 10 ≤ k ∧ k < 46
  · rw [if_pos c, if_pos c, h12 (k - 10) (by omega) (by omega)]
  · rw [if_neg c, if_neg c, h10]
/-- an act is kept on both sides -/
theorem keep_ok {N : Nat} (hN : 1000 ≤ N) {X Y : jMem} (h : Rel X Y) : ∃ X' Y', Ac_keep N 21 X = some (0, X') ∧ m_keepsAct N Y = some (0, Y') ∧ Rel X' Y' ∧ TF X X' ∧ (∀ p, p < 31 ∨ 152 < p → X' p = X p) ∧ (∀ p, p ≠ 0 → p ≠ 12 → Y' p = Y p) ∧ (∀ j, j ≠ 26 → Y' 0 j = Y 0 j) := by
  obtain ⟨a, b, c, d, e⟩ := h
  obtain ⟨d1, d2, d3, d4⟩ := d
  obtain ⟨Y', k1, k2, k3, k4, k5⟩ := keepsAct_ok hN d2.1 d2.2
  obtain ⟨X1, e1, f1, g1⟩ := cpS (N := N) (q := 32 + 1 + 6 * X 31 1) (a := 21) X (by omega)
  obtain ⟨⟨cp, cs, cn⟩, cw, ct, c1⟩ := c
  have x1 : X1 31 1 = X 31 1 := by rw [f1 31 (by omega)]
  have x2 : X1 31 2 = Y 0 26 := by rw [f1 31 (by omega), d1]
  have hmin : jmin (Y 0 26 + 1) 20 = Y' 0 26 := by
    rw [jmin_le]; rcases k4 with ⟨q1, q2, -⟩ | ⟨q1, q2, -⟩
    · by_cases z : Y 0 26 + 1 < 20
      · rw [if_pos z]; omega
      · rw [if_neg z]; omega
    · rw [if_neg (by omega)]; omega
  refine ⟨up (up X1 31 1 ((X 31 1 + 1) % 20)) 31 2 (Y' 0 26), Y', ?_, k1, ?_, ?_, ?_, k2, k3⟩
  · unfold Ac_keep jlt
    rw [jchk_pos (by omega), e1]
    unfold jbv
    rw [Option.bind_some]
    dsimp only
    rw [x1, up_col (by omega), x2, w32_id (by omega), w32_id (by omega), hmin, tm_nn (by omega)]
  · have hk : ∀ p, p < 31 ∨ 152 < p → up (up X1 31 1 ((X 31 1 + 1) % 20)) 31 2 (Y' 0 26) p = X p := fun p hp => by rw [up_ne (by omega), up_ne (by omega), f1 p (by omega)]
    refine ⟨TR_congr a (by rw [hk 0 (by omega)]) (hk 1 (by omega)) (k3 1 (by omega)) (k2 1 (by omega) (by omega)), UR_congr b (by rw [hk 0 (by omega)]) (fun p p1 p2 p3 => hk p (by omega)) (k3 2 (by omega)) (k2 2 (by omega) (by omega)) (k2 4 (by omega) (by omega)) (k2 5 (by omega) (by omega)), VR_congr ⟨⟨cp, cs, cn⟩, cw, ct, c1⟩ (fun p p1 p2 => hk p (by omega)) (k2 10 (by omega) (by omega)) (k3 21 (by omega)) (k3 22 (by omega)) (k3 2 (by omega)), ?_, IR_congr e (fun p p1 p2 => hk p (by omega)) (k2 21 (by omega) (by omega)) (k2 22 (by omega) (by omega)) (k2 23 (by omega) (by omega)) (k2 24 (by omega) (by omega)) (k3 2 (by omega))⟩
    have g10 := k2 10 (by omega) (by omega)
    unfold AR
    rw [up_hit rfl rfl, up_col (by omega), up_hit rfl rfl]
    refine ⟨rfl, by omega, by omega, fun j j0 j1 => ?_⟩
    by_cases cl : j = Y' 0 26 - 1
    · have hw : wasR Y' j = Y 10 := wasR_said (fun k q0 q1 => by rw [cl]; exact k5 k q0 q1) g10
      rw [hw, show ((X 31 1 + 1) % 20 - Y' 0 26 + j) % 20 = X 31 1 by omega]
      exact ⟨SR_congr (g1 _ cs) (fun p p1 p2 => by rw [up_ne (by omega), up_ne (by omega)]), cw, ct.2.2.2.2.2.2⟩
    · have hi : ∃ i, 0 ≤ i ∧ i < Y 0 26 ∧ wasR Y' j = wasR Y i ∧ ((X 31 1 + 1) % 20 - Y' 0 26 + j) % 20 = (X 31 1 - Y 0 26 + i) % 20 ∧ (X 31 1 - Y 0 26 + i) % 20 ≠ X 31 1 := by
        rcases k4 with ⟨q1, q2, q3⟩ | ⟨q1, q2, q3⟩
        · exact ⟨j, j0, by omega, wasR_shift (fun k z0 z1 => q3 _ (by omega) (by omega)) g10, by omega, by omega⟩
        · exact ⟨j + 1, by omega, by omega, wasR_shift (fun k z0 z1 => by rw [q3 _ (by omega) (by omega), show 36 * j + k + 36 = 36 * (j + 1) + k by omega]) g10, by omega, by omega⟩
      obtain ⟨i, i0, i1, hw, hm, hne⟩ := hi
      rw [hw, hm]
      obtain ⟨q1, q2⟩ := d4 i i0 i1
      have hmr : 0 ≤ (X 31 1 - Y 0 26 + i) % 20 ∧ (X 31 1 - Y 0 26 + i) % 20 < 20 := by omega
      exact ⟨SR_congr q1 (fun p p1 p2 => by rw [up_ne (by omega), up_ne (by omega), f1 p (by omega)]), q2⟩
  · exact ⟨by rw [up_ne (by omega), up_ne (by omega), f1 171 (by omega)], by rw [up_ne (by omega), up_ne (by omega), f1 172 (by omega)], by rw [up_ne (by omega), up_ne (by omega), f1 173 (by omega)]⟩
  · intro p hp; rw [up_ne (by omega), up_ne (by omega), f1 p (by omega)]
