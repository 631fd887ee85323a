/-! one more code on both sides -/
def CS (X Y : jMem) (q t n : Int) : Prop := X q 1 = n ∧ Y 3 t = n ∧ (0 ≤ n ∧ n ≤ 400) ∧ ∀ i, 0 ≤ i → i < n → CR (X (q + 1) i) (Y 2 (400 * t + i))
theorem emit_ok {N : Nat} {X Y : jMem} {q t n c s w : Int} (h : CS X Y q t n) (hn : n < 400) (ht : 0 ≤ t ∧ t < 6) (h11 : Y 0 11 = t) (hq : 170 ≤ q) (hs : 0 ≤ s ∧ s < 16) (hw : 0 ≤ w ∧ w ≤ 99999) (hc : CR c (s + 16 * w)) :
    Ru_push N q c X = some (0, up (up X (q + 1) n c) q 1 (n + 1)) ∧ m_puts N s w Y = some (0, up (up Y 2 (400 * t + n) (s + 16 * w)) 3 t (n + 1)) ∧ CS (up (up X (q + 1) n c) q 1 (n + 1)) (up (up Y 2 (400 * t + n) (s + 16 * w)) 3 t (n + 1)) q t (n + 1) := by
  obtain ⟨a, b, d, e⟩ := h
  refine ⟨?_, ?_, ?_, ?_, by omega, fun i i0 i1 => ?_⟩
  · unfold Ru_push jlt
    dsimp only
    rw [a, if_pos hn, jchk_pos (by omega), up_row (by omega), a, w32_id (by omega)]
  · unfold m_puts jlt
    dsimp only
    rw [h11, b, w32_id (x := 400 * t) (by omega), w32_id (x := 400 * t + n) (by omega), jchk_pos (by omega), jchk_pos (by omega), w32_id (x := 16 * w) (by omega), w32_id (x := s + 16 * w) (by omega), up_row (q' := 0) (by omega), h11, jchk_pos (by omega), jchk_pos (by omega), up_row (q' := 3) (by omega), b, w32_id (by omega)]
  · rw [up_hit rfl rfl]
  · rw [up_hit rfl rfl]
  · by_cases ci : i = n
    · simp (disch := omega) only [up_row, up_hit]; exact hc
    · simp (disch := omega) only [up_row, up_col]; exact e i i0 (by omega)
