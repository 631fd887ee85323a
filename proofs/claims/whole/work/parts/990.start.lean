/-! both are alike as they are made -/
theorem st_x1 : ∀ i : Fin 400, jX0 1 (i.val : Int) = 0 := by decide +kernel
theorem st_y1 : ∀ i : Fin 400, jY0 1 (i.val : Int) = 0 := by decide +kernel
theorem st_one : jX0 0 1 = 0 ∧ jY0 0 1 = 0 ∧ jX0 0 6 = 0 ∧ jY0 0 2 = 0 ∧ jX0 14 3 = -1 ∧ jY0 0 21 = -1 ∧ jX0 14 4 = 0 ∧ jY0 0 22 = 0 ∧ jX0 31 2 = 0 ∧ jY0 0 26 = 0 ∧ jX0 31 1 = 0 ∧ jX0 171 3 = 0 ∧ jX0 15 0 = 0 ∧ jX0 15 1 = 0 ∧ jX0 21 0 = 0 ∧ jX0 21 1 = 0 ∧ jX0 27 0 = 0 := by decide +kernel
theorem st_y10 : ∀ i : Fin 112, jY0 10 (i.val : Int) = 0 := by decide +kernel
theorem st_row : ∀ i : Fin 7, (jX0 16 (i.val : Int) = 0 ∧ jX0 17 (i.val : Int) = 0 ∧ jX0 18 (i.val : Int) = 0 ∧ jX0 19 (i.val : Int) = 0 ∧ jX0 20 (i.val : Int) = 0) ∧ jX0 22 (i.val : Int) = 0 ∧ jX0 23 (i.val : Int) = 0 ∧ jX0 24 (i.val : Int) = 0 ∧ jX0 25 (i.val : Int) = 0 ∧ jX0 26 (i.val : Int) = 0 := by decide +kernel
theorem st_im : ∀ k : Fin 4, jX0 (213 + 17 * (k.val : Int)) 5 = 0 ∧ jY0 24 (k.val : Int) = 0 := by decide +kernel
theorem start_ok : Rel jX0 jY0 ∧ TB jX0 := by
  obtain ⟨a1, a2, a3, a4, a5, a6, a7, a8, a9, a10, a11, a12, a13, a14, a15, a16, a17⟩ := st_one
  have y10 : ∀ k, 0 ≤ k → k < 112 → jY0 10 k = 0 := fun k k0 k1 => by
    obtain ⟨i, hi⟩ := fin_of (n := 112) (x := k) k0 (by omega)
    have := st_y10 i
    rw [hi] at this
    exact this
  have row : ∀ k, 0 ≤ k → k < 7 → (jX0 16 k = 0 ∧ jX0 17 k = 0 ∧ jX0 18 k = 0 ∧ jX0 19 k = 0 ∧ jX0 20 k = 0) ∧ jX0 22 k = 0 ∧ jX0 23 k = 0 ∧ jX0 24 k = 0 ∧ jX0 25 k = 0 ∧ jX0 26 k = 0 := fun k k0 k1 => by
    obtain ⟨i, hi⟩ := fin_of (n := 7) (x := k) k0 (by omega)
    have := st_row i
    rw [hi] at this
    exact this
  refine ⟨⟨⟨by rw [a1, a2], by rw [a2]; omega, by rw [a2]; omega, fun k k0 k1 => ?_⟩, ⟨by rw [a3, a4], by rw [a4]; omega, by rw [a4]; omega, fun r r0 r1 => by rw [a4] at r1; omega⟩, ⟨⟨⟨?_, ?_, ?_, ?_, ?_, ?_, ?_⟩, ⟨?_, ?_, ?_, ?_, ?_, ?_, ?_⟩, ⟨?_, ?_⟩⟩, ⟨?_, ?_, ?_, ?_, ?_, ?_, ?_, ?_, ?_, ?_, ?_, ?_, ?_⟩, ⟨?_, ?_, ?_, ?_, ?_, ?_, ?_⟩, by rw [a5, a6], by rw [a6, a4]; omega, by rw [a7, a8], by rw [a8]; omega⟩, ⟨by rw [a9, a10], by rw [a10]; omega, by rw [a11]; omega, fun j j0 j1 => by rw [a10] at j1; omega⟩, fun k k0 k1 => ?_⟩, Or.inl a12⟩
  · obtain ⟨i, hi⟩ := fin_of (n := 400) (x := k) k0 (by omega)
    have b1 := st_x1 i
    have b2 := st_y1 i
    rw [hi] at b1 b2
    rw [b1, b2]; omega
  · rw [y10 1 (by omega) (by omega)]; exact a13
  · rw [y10 2 (by omega) (by omega)]; exact a14
  · intro i i0 i1; rw [y10 (60 + i) (by omega) (by omega)]; exact (row i i0 i1).1.1
  · intro i i0 i1; rw [y10 (67 + i) (by omega) (by omega)]; exact (row i i0 i1).1.2.1
  · intro i i0 i1; rw [y10 (46 + i) (by omega) (by omega)]; exact (row i i0 i1).1.2.2.1
  · intro i i0 i1; rw [y10 (74 + i) (by omega) (by omega)]; exact (row i i0 i1).1.2.2.2.1
  · intro i i0 i1; rw [y10 (53 + i) (by omega) (by omega)]; exact (row i i0 i1).1.2.2.2.2
  · rw [y10 1 (by omega) (by omega)]; exact a15
  · rw [y10 10 (by omega) (by omega)]; exact a16
  · intro i i0 i1; rw [y10 (11 + i) (by omega) (by omega)]; exact (row i i0 i1).2.1
  · intro i i0 i1; rw [y10 (18 + i) (by omega) (by omega)]; exact (row i i0 i1).2.2.1
  · intro i i0 i1; rw [y10 (25 + i) (by omega) (by omega)]; exact (row i i0 i1).2.2.2.1
  · intro i i0 i1; rw [y10 (32 + i) (by omega) (by omega)]; exact (row i i0 i1).2.2.2.2.1
  · intro i i0 i1; rw [y10 (39 + i) (by omega) (by omega)]; exact (row i i0 i1).2.2.2.2.2
  · rw [y10 111 (by omega) (by omega)]; exact a17
  · intro i i0 i1; rw [y10 111 (by omega) (by omega)] at i1; omega
  · rw [y10 1 (by omega) (by omega)]; omega
  · rw [y10 2 (by omega) (by omega)]; omega
  · intro i i0 i1; rw [y10 (11 + i) (by omega) (by omega)]; omega
  · intro i i0 i1; rw [y10 (18 + i) (by omega) (by omega)]; omega
  · intro i i0 i1; rw [y10 (25 + i) (by omega) (by omega)]; omega
  · intro i i0 i1; rw [y10 (32 + i) (by omega) (by omega)]; omega
  · intro i i0 i1; rw [y10 (39 + i) (by omega) (by omega)]; omega
  · intro i i0 i1; rw [y10 (46 + i) (by omega) (by omega)]; omega
  · intro i i0 i1; rw [y10 (53 + i) (by omega) (by omega)]; omega
  · intro i i0 i1; rw [y10 1 (by omega) (by omega)] at i1; omega
  · intro i j i0 i1 j0 j1; rw [y10 1 (by omega) (by omega)] at i1; omega
  · intro i i0 i1; rw [y10 (53 + i) (by omega) (by omega), Int.zero_ediv]; rfl
  · intro w w0 w1; rw [y10 1 (by omega) (by omega)] at w1; omega
  · intro i i0 i1; rw [y10 (60 + i) (by omega) (by omega)]; omega
  · intro i i0 i1; rw [y10 (67 + i) (by omega) (by omega)]; omega
  · intro i i0 i1; rw [y10 (74 + i) (by omega) (by omega)]; omega
  · rw [y10 111 (by omega) (by omega)]; omega
  · intro i i0 i1; rw [y10 111 (by omega) (by omega)] at i1; omega
  · exact Or.inl ⟨y10 0 (by omega) (by omega), y10 1 (by omega) (by omega)⟩
  · rw [y10 10 (by omega) (by omega)]; omega
  · obtain ⟨i, hi⟩ := fin_of (n := 4) (x := k) k0 (by omega)
    have b := st_im i
    rw [hi] at b
    refine ⟨by rw [b.1, b.2], Or.inl b.2, fun z => ?_⟩
    rw [b.2] at z
    omega
