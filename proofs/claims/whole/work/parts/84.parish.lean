/-! PARISH -/
theorem beginG {N : Nat} (hN : 1000 ≤ N) (X : jMem) : ∃ X2, St_begin N 21 6 X = some (0, X2) ∧ (∀ p, p < 21 ∨ 26 < p → X2 p = X p) ∧ X2 21 0 = X 6 0 ∧ X2 21 1 = 0 ∧ (∀ i, 0 ≤ i → i < 7 → X2 22 i = X 7 i ∧ X2 23 i = X 8 i ∧ X2 24 i = X 7 i ∧ X2 25 i = i ∧ X2 26 i = X 10 i) := by
  have H : wp (St_begin N 21 6 X) (fun o => o.1 = 0 ∧ (∀ p, p < 21 ∨ 26 < p → o.2 p = X p) ∧ o.2 21 0 = X 6 0 ∧ o.2 21 1 = 0 ∧ (∀ i, 0 ≤ i → i < 7 → o.2 22 i = X 7 i ∧ o.2 23 i = X 8 i ∧ o.2 24 i = X 7 i ∧ o.2 25 i = i ∧ o.2 26 i = X 10 i)) := by
    unfold St_begin jlt
    dsimp only
    refine wp_fix (fun s => (7 - s.1).toNat) (fun (s : Int × jMem) => (0 ≤ s.1 ∧ s.1 ≤ 7) ∧ (∀ p, p < 21 ∨ 26 < p → s.2 p = X p) ∧ s.2 21 0 = X 6 0 ∧ s.2 21 1 = 0 ∧ (∀ i, 0 ≤ i → i < s.1 → s.2 22 i = X 7 i ∧ s.2 23 i = X 8 i ∧ s.2 24 i = X 7 i ∧ s.2 25 i = i ∧ s.2 26 i = X 10 i)) ?_ N _ ⟨⟨by dsimp only; omega, by dsimp only; omega⟩, fun p hp => by dsimp only; rw [up_ne (by omega), up_ne (by omega)], by dsimp only; rw [up_col (by omega), up_hit rfl rfl], by dsimp only; rw [up_hit rfl rfl], fun i i0 i1 => by dsimp only at i1; omega⟩ (by dsimp only; omega)
    rintro h ⟨x, Xc⟩ ⟨hx, f, g0, g1, g⟩ ih
    dsimp only at hx f g0 g1 g
    unfold St_begin_L15 jlt
    dsimp only
    by_cases c : x < 7
    · rw [if_pos c]
      simp (disch := omega) only [jchk_pos, up_row, w32_id, show (6 + 1 : Int) = 7 by omega, show (6 + 2 : Int) = 8 by omega, show (6 + 4 : Int) = 10 by omega, show (21 + 1 : Int) = 22 by omega, show (21 + 2 : Int) = 23 by omega, show (21 + 3 : Int) = 24 by omega, show (21 + 4 : Int) = 25 by omega, show (21 + 5 : Int) = 26 by omega, f 7 (by omega), f 8 (by omega), f 10 (by omega)]
      refine ih _ ⟨⟨by dsimp only; omega, by dsimp only; omega⟩, fun p hp => ?_, ?_, ?_, fun i i0 i1 => ?_⟩ (by dsimp only; omega)
      · dsimp only; rw [up_ne (by omega), up_ne (by omega), up_ne (by omega), up_ne (by omega), up_ne (by omega)]; exact f p hp
      · simp (disch := omega) only [up_row]; exact g0
      · simp (disch := omega) only [up_row]; exact g1
      · dsimp only at i1 ⊢
        by_cases ci : i = x
        · subst ci
          simp (disch := omega) only [up_row, up_hit]
          exact ⟨trivial, trivial, trivial, trivial, trivial⟩
        · simp (disch := omega) only [up_row, up_col]
          exact g i i0 (by omega)
    · rw [if_neg c]
      exact wp_some ⟨rfl, f, g0, g1, fun i i0 i1 => g i i0 (by omega)⟩
  obtain ⟨⟨v, X2⟩, e, q1, q2⟩ := H
  dsimp only at q1 q2
  subst q1
  exact ⟨X2, e, q2⟩
theorem untold_ok {N : Nat} (hN : 1000 ≤ N) (X : jMem) : ∃ X2, Pa_setUntold N 6 X = some (0, X2) ∧ (∀ p, p < 6 ∨ 11 < p → X2 p = X p) ∧ (∀ i, 0 ≤ i → i < 7 → X2 7 i = 9 ∧ X2 8 i = 0 ∧ X2 9 i = 1 ∧ X2 10 i = 2 ∧ X2 11 i = 0) := by
  have H : wp (Pa_setUntold N 6 X) (fun o => o.1 = 0 ∧ (∀ p, p < 6 ∨ 11 < p → o.2 p = X p) ∧ (∀ i, 0 ≤ i → i < 7 → o.2 7 i = 9 ∧ o.2 8 i = 0 ∧ o.2 9 i = 1 ∧ o.2 10 i = 2 ∧ o.2 11 i = 0)) := by
    unfold Pa_setUntold jlt
    refine wp_fix (fun s => (7 - s.1).toNat) (fun (s : Int × jMem) => (0 ≤ s.1 ∧ s.1 ≤ 7) ∧ (∀ p, p < 6 ∨ 11 < p → s.2 p = X p) ∧ (∀ i, 0 ≤ i → i < s.1 → s.2 7 i = 9 ∧ s.2 8 i = 0 ∧ s.2 9 i = 1 ∧ s.2 10 i = 2 ∧ s.2 11 i = 0)) ?_ N _ ⟨⟨by dsimp only; omega, by dsimp only; omega⟩, fun p hp => by dsimp only; rw [up_ne (by omega), up_ne (by omega)], fun i i0 i1 => by dsimp only at i1; omega⟩ (by dsimp only; omega)
    rintro h ⟨x, Xc⟩ ⟨hx, f, g⟩ ih
    dsimp only at hx f g
    unfold Pa_setUntold_L12 jlt
    dsimp only
    by_cases c : x < 7
    · rw [if_pos c]
      simp (disch := omega) only [jchk_pos, w32_id, show (6 + 1 : Int) = 7 by omega, show (6 + 2 : Int) = 8 by omega, show (6 + 3 : Int) = 9 by omega, show (6 + 4 : Int) = 10 by omega, show (6 + 5 : Int) = 11 by omega]
      refine ih _ ⟨⟨by dsimp only; omega, by dsimp only; omega⟩, fun p hp => ?_, fun i i0 i1 => ?_⟩ (by dsimp only; omega)
      · dsimp only; rw [up_ne (by omega), up_ne (by omega), up_ne (by omega), up_ne (by omega), up_ne (by omega)]; exact f p hp
      · dsimp only at i1 ⊢
        by_cases ci : i = x
        · subst ci
          simp (disch := omega) only [up_row, up_hit]
          exact ⟨trivial, trivial, trivial, trivial, trivial⟩
        · simp (disch := omega) only [up_row, up_col]
          exact g i i0 (by omega)
    · rw [if_neg c]
      exact wp_some ⟨rfl, f, fun i i0 i1 => g i i0 (by omega)⟩
  obtain ⟨⟨v, X2⟩, e, q1, q2⟩ := H
  dsimp only at q1 q2
  subst q1
  exact ⟨X2, e, q2⟩
/-- what is read becomes what is said -/
theorem said_ok {N : Nat} (hN : 1000 ≤ N) (Y : jMem) : ∃ Y1 Y2, (jfix N (m_parish_L44 N) (0, Y) = some (Y2 10 1, up Y2 0 26 0)) ∧ m_begins N Y1 = some (0, Y2) ∧ (∀ p, p ≠ 10 → Y1 p = Y p) ∧ (∀ k, 0 ≤ k → k < 112 → Y1 10 k = if k < 81 then Y 6 k else 0) := by
  have H : wp (jfix N (m_parish_L44 N) (0, Y)) (fun o => ∃ Y1 Y2, o = (Y2 10 1, up Y2 0 26 0) ∧ m_begins N Y1 = some (0, Y2) ∧ (∀ p, p ≠ 10 → Y1 p = Y p) ∧ (∀ k, 0 ≤ k → k < 112 → Y1 10 k = if k < 81 then Y 6 k else 0)) := by
    refine wp_fix (fun s => (112 - s.1).toNat) (fun (s : Int × jMem) => (0 ≤ s.1 ∧ s.1 ≤ 112) ∧ (∀ p, p ≠ 10 → s.2 p = Y p) ∧ (∀ k, 0 ≤ k → k < s.1 → s.2 10 k = if k < 81 then Y 6 k else 0)) ?_ N _ ⟨⟨by dsimp only; omega, by dsimp only; omega⟩, fun _ _ => rfl, fun k k0 k1 => by dsimp only at k1; omega⟩ (by dsimp only; omega)
    rintro h ⟨x, Z⟩ ⟨hx, f, g⟩ ih
    dsimp only at hx f g
    unfold m_parish_L44 jlt jbv
    dsimp only
    by_cases c : x < 112
    · rw [if_pos c, jchk_pos (show 0 ≤ x ∧ x < 112 by omega), jchk_pos (show 0 ≤ x ∧ x < 112 by omega), w32_id (by omega), f 6 (by omega)]
      have go : ∀ v, v = (if x < 81 then Y 6 x else 0) → wp (h (x + 1, up Z 10 x v)) (fun o => ∃ Y1 Y2, o = (Y2 10 1, up Y2 0 26 0) ∧ m_begins N Y1 = some (0, Y2) ∧ (∀ p, p ≠ 10 → Y1 p = Y p) ∧ (∀ k, 0 ≤ k → k < 112 → Y1 10 k = if k < 81 then Y 6 k else 0)) := fun v hv => ih _ ⟨⟨by dsimp only; omega, by dsimp only; omega⟩, fun p hp => by dsimp only; rw [up_ne hp]; exact f p hp, fun k k0 k1 => by
        dsimp only at k1 ⊢
        by_cases ck : k = x
        · rw [up_hit rfl ck, ck]; exact hv
        · rw [up_col ck]; exact g k k0 (by omega)⟩ (by dsimp only; omega)
      by_cases d : x < 81
      · rw [if_pos d, jchk_pos (by omega)]; exact go _ (by rw [if_pos d])
      · rw [if_neg d]; exact go _ (by rw [if_neg d])
    · obtain ⟨Y2, e, -⟩ := beginY hN Z
      rw [if_neg c, e, Option.bind_some]
      dsimp only
      rw [up_row (q' := 10) (by omega)]
      exact wp_some ⟨Z, Y2, rfl, e, f, fun k k0 k1 => g k k0 (by omega)⟩
  obtain ⟨o, e, Y1, Y2, q1, q2⟩ := H
  subst q1
  exact ⟨Y1, Y2, e, q2⟩
