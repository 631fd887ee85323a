/-! PENCE, what comes to which FARM, rings -/
theorem waterOf_ok {N : Nat} {Y : jMem} (hW : WS (Y 10)) {i : Int} (h0 : 0 ≤ i) (h1 : i < 7) : m_waterOf N i Y = some (Y 10 (25 + Y 10 (32 + i))) := by
  have h := hW.2.2.2.2.2.1 i h0 h1
  unfold m_waterOf
  simp (disch := omega) only [jchk_pos, w32_id]
theorem mul_in {a b : Int} (ha : 0 ≤ a ∧ a ≤ 9999) (hb : 0 ≤ b ∧ b ≤ 40) : 0 ≤ a * b ∧ a * b ≤ 399960 := by
  refine ⟨Int.mul_nonneg ha.1 hb.1, ?_⟩
  have := Int.mul_le_mul ha.2 hb.2 hb.1 (by omega)
  omega
theorem pence_ok {N : Nat} (hN : 1000 ≤ N) (a b : Int) : OKp (x_pence N a b) (m_pence N a b) := by
  intro X Y h
  obtain ⟨r1, e1, f1, g1⟩ := within_ok N a 0 9999 X Y
  obtain ⟨r2, e2, -, f2, g2⟩ := isFarm_ok N b h
  obtain ⟨s, w, -⟩ := Rel_s h
  unfold x_pence m_pence
  rw [e1, e2, f1, f2, Option.bind_some, Option.bind_some, Option.bind_some, Option.bind_some]
  by_cases c2 : r2 = 0
  · rw [if_pos c2, if_pos c2]
    by_cases c1 : r1 = 0
    · rw [if_pos c1]; exact ⟨_, rfl, rfl⟩
    · rw [if_neg c1]; exact ⟨_, rfl, rfl⟩
  · rw [if_neg c2, if_neg c2]
    by_cases c1 : r1 = 0
    · rw [if_pos c1, if_pos c1]; exact ⟨_, rfl, rfl⟩
    · rw [if_neg c1, if_neg c1]
      obtain ⟨t, x1, y1, t0, t1⟩ := water_ok hN s w
      have w1 := w.1
      unfold St_penceOf
      rw [x1, y1, Option.bind_some, Option.bind_some]
      by_cases ct : t = 0
      · rw [if_neg (by omega), if_pos ct]; exact ⟨_, rfl, rfl⟩
      · rw [if_pos (by omega), if_neg ct]
        obtain ⟨s0, -, -, -, sw, sh, -⟩ := s
        have wh := w.2.2.2.2.2.1
        have ww := w.2.2.2.2.1
        have hb := wh b (by omega) (by omega)
        have hbw := ww _ hb.1 hb.2
        have hx4 : ∀ i, 0 ≤ i → i < 7 → X (21 + 4) i = Y 10 (32 + i) := sh
        have hx3 : ∀ i, 0 ≤ i → i < 7 → X (21 + 3) i = Y 10 (25 + i) := sw
        rw [waterOf_ok w (by omega) (by omega), Option.bind_some, hx4 b (by omega) (by omega), hx3 _ hb.1 hb.2]
        generalize hB : Y 10 (25 + Y 10 (32 + b)) = B at *
        have hm := mul_in (a := a) (by omega) hbw
        unfold jlt
        rw [jchk_pos (by omega), jchk_pos (by omega), jchk_pos (by omega), w32_id (by omega)]
        have H : wp2 (jfix N (St_penceOf_L37 N 21 a b X t ((a * B).tmod t)) (a, 0, 0)) (jfix N (m_pence_L53 N a b Y t (a * B)) (a, 0, 0)) (fun u v => u = v) := by
          refine wp2_fix (fun s => (Y 10 1 - s.2.2).toNat) (fun (s t' : Int × Int × Int) => s = t' ∧ (0 ≤ s.2.2 ∧ s.2.2 ≤ Y 10 1) ∧ (0 ≤ s.2.1 ∧ s.2.1 ≤ s.2.2) ∧ (-400000 * s.2.2 ≤ s.1 ∧ s.1 ≤ 9999)) ?_ N N _ _ ⟨rfl, ⟨by dsimp only; omega, by dsimp only; omega⟩, ⟨by dsimp only; omega, by dsimp only; omega⟩, by dsimp only; omega, by dsimp only; omega⟩ (by dsimp only; omega) (by dsimp only; omega)
          rintro h1 h2 ⟨x, y, z⟩ z' ⟨e, hz, hy, hx⟩ ih
          subst e
          dsimp only at hz hy hx
          unfold St_penceOf_L37 m_pence_L53 jlt
          dsimp only
          rw [show X 21 0 = Y 10 1 from s0]
          by_cases cz : z < Y 10 1
          · rw [if_pos cz, if_pos cz]
            have hh := wh z (by omega) (by omega)
            have hhw := ww _ hh.1 hh.2
            rw [waterOf_ok w (by omega) (by omega), Option.bind_some, hx4 z (by omega) (by omega), hx3 _ hh.1 hh.2]
            generalize Y 10 (25 + Y 10 (32 + z)) = A at *
            have hma := mul_in (a := a) (by omega) hhw
            generalize a * A = P at *
            generalize a * B = Q at *
            have hdv : 0 ≤ P / t ∧ P / t ≤ P := ⟨Int.ediv_nonneg (by omega) (by omega), Int.ediv_le_self _ (by omega)⟩
            rw [w32_id (x := P) (by omega), td_nn (x := P) (by omega), tm_nn (x := P) (by omega), tm_nn (x := Q) (by omega), w32_id (x := P / t) (by omega), w32_id (x := x - P / t) (by omega), w32_id (x := y + 1) (by omega), w32_id (x := z + 1) (by omega), w32_id (x := y + 0) (by omega), Int.add_zero]
            simp (disch := first | omega) only [jchk_pos]
            have gA := ih (x - P / t, y + 1, z + 1) (x - P / t, y + 1, z + 1) ⟨rfl, ⟨by dsimp only; omega, by dsimp only; omega⟩, ⟨by dsimp only; omega, by dsimp only; omega⟩, by dsimp only; omega, by dsimp only; omega⟩ (by dsimp only; omega)
            have gB := ih (x - P / t, y, z + 1) (x - P / t, y, z + 1) ⟨rfl, ⟨by dsimp only; omega, by dsimp only; omega⟩, ⟨by dsimp only; omega, by dsimp only; omega⟩, by dsimp only; omega, by dsimp only; omega⟩ (by dsimp only; omega)
            exact wp2_ite Iff.rfl (fun _ => gA) (fun _ => wp2_ite Iff.rfl (fun _ => wp2_ite Iff.rfl (fun _ => gA) (fun _ => gB)) (fun _ => gB))
          · rw [if_neg cz, if_neg cz, hx4 b (by omega) (by omega), hx3 _ hb.1 hb.2, hB, w32_id (x := a * B) (by omega)]
            generalize a * B = Q at *
            have hdv : 0 ≤ Q / t ∧ Q / t ≤ Q := ⟨Int.ediv_nonneg (by omega) (by omega), Int.ediv_le_self _ (by omega)⟩
            rw [td_nn (x := Q) (by omega), w32_id (x := Q / t) (by omega), w32_id (x := Q / t + 1) (by omega), w32_id (x := Q / t + 0) (by omega), Int.add_zero]
            simp (disch := omega) only [jchk_pos]
            exact wp2_ite Iff.rfl (fun _ => wp2_some rfl) (fun _ => wp2_some rfl)
        obtain ⟨u, v, p1, p2, p3⟩ := H
        subst p3
        exact ⟨u, by dsimp only; rw [p1]; rfl, p2⟩
