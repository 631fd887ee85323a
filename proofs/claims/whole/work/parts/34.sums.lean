/-! sums and sets over all FARMS, in step -/
theorem loop_eq {b1 b2 : (Int × Int → Option Int) → Int × Int → Option Int} {n a0 : Int} (P : Int → Int → Prop) (hstep : ∀ h1 h2 acc i, P acc i → 0 ≤ i → i < n → ∃ acc', P acc' (i + 1) ∧ b1 h1 (acc, i) = h1 (acc', i + 1) ∧ b2 h2 (acc, i) = h2 (acc', i + 1))
    (hend : ∀ h1 h2 acc i, P acc i → i = n → b1 h1 (acc, i) = some acc ∧ b2 h2 (acc, i) = some acc) (hn : 0 ≤ n) {N : Nat} (hN : n.toNat < N) (h0 : P a0 0) : ∃ r, jfix N b1 (a0, 0) = some r ∧ jfix N b2 (a0, 0) = some r ∧ P r n := by
  have key : wp2 (jfix N b1 (a0, 0)) (jfix N b2 (a0, 0)) (fun a b => a = b ∧ P a n) := by
    refine wp2_fix (fun z : Int × Int => (n - z.2).toNat) (fun z z' => z = z' ∧ P z.1 z.2 ∧ 0 ≤ z.2 ∧ z.2 ≤ n) ?_ N N (a0, 0) (a0, 0) ⟨rfl, h0, by show (0 : Int) ≤ 0; omega, hn⟩ (by show (n - 0).toNat < N; omega) (by show (n - 0).toNat < N; omega)
    rintro h1 h2 ⟨a, i⟩ ⟨a', i'⟩ ⟨e1, e2, e3, e4⟩ ih
    cases e1
    dsimp only at e2 e3 e4 ih
    by_cases hi : i < n
    · obtain ⟨acc', p1, p2, p3⟩ := hstep h1 h2 a i e2 e3 hi
      rw [p2, p3]
      exact ih (acc', i + 1) (acc', i + 1) ⟨rfl, p1, by show 0 ≤ i + 1; omega, by show i + 1 ≤ n; omega⟩ (by show (n - (i + 1)).toNat < (n - i).toNat; omega)
    · have hin : i = n := by omega
      obtain ⟨p2, p3⟩ := hend h1 h2 a i e2 hin
      rw [p2, p3]
      subst hin
      exact wp2_some ⟨rfl, e2⟩
  obtain ⟨r, r', g1, g2, rfl, g3⟩ := key
  exact ⟨r, g1, g2, g3⟩
theorem homeBits_ok {N : Nat} (hN : 1000 ≤ N) {X Y : jMem} {q : Int} (hS : SR X q (Y 10)) (hW : WS (Y 10)) : ∃ s, St_homeBits N q X = some s ∧ m_homeOnes N Y = some s ∧ 0 ≤ s ∧ s < 128 := by
  obtain ⟨f0, f1, fd, ft, fw, fh, fe⟩ := hS
  have w1 := hW.1
  unfold St_homeBits m_homeOnes
  refine loop_eq (n := Y 10 1) (fun s _ => 0 ≤ s ∧ s < 128) (fun h1 h2 s i hs h0 hi => ?_) (fun h1 h2 s i hs hi => ?_) w1.1 (by omega) ⟨by omega, by omega⟩
  · have hp := p2_in (k := i) h0 (by omega)
    have ho := or_in (s := s) (t := p2 i) hs.1 hs.2 (by omega) (by omega)
    unfold St_homeBits_L4 m_homeOnes_L4 jlt
    dsimp only
    rw [f0, if_pos hi, if_pos hi]
    simp (disch := omega) only [jchk_pos, w32_id, fh, shl_ok]
    by_cases h : Y 10 (32 + i) = i
    · rw [if_pos h, if_pos h]; exact ⟨_, ho, rfl, rfl⟩
    · rw [if_neg h, if_neg h, or0 hs.1 hs.2]; exact ⟨s, hs, rfl, rfl⟩
  · unfold St_homeBits_L4 m_homeOnes_L4
    dsimp only
    rw [f0, if_neg (by omega), if_neg (by omega)]; exact ⟨rfl, rfl⟩
theorem homes_ok {N : Nat} (hN : 1000 ≤ N) {X Y : jMem} {q : Int} (hS : SR X q (Y 10)) (hW : WS (Y 10)) : ∃ s, St_homes N q X = some (pcn s) ∧ m_homeOnes N Y = some s ∧ (∀ M, m_bits N s M = some (pcn s)) ∧ 0 ≤ s ∧ s < 128 := by
  obtain ⟨s, h1, h2, h3, h4⟩ := homeBits_ok hN hS hW
  refine ⟨s, ?_, h2, fun M => bits_ok hN M h3 h4, h3, h4⟩
  unfold St_homes
  rw [h1, Option.bind_some, bc_ok N X h3 h4]; rfl
theorem dries_ok {N : Nat} (hN : 1000 ≤ N) {X Y : jMem} {q : Int} (hS : SR X q (Y 10)) (hW : WS (Y 10)) : ∃ s, St_dries N q X = some s ∧ m_dryMany N Y = some s ∧ 0 ≤ s ∧ s ≤ Y 10 1 := by
  obtain ⟨f0, f1, fd, ft, fw, fh, fe⟩ := hS
  have w1 := hW.1
  unfold St_dries m_dryMany
  refine loop_eq (n := Y 10 1) (fun s i => 0 ≤ s ∧ s ≤ i) (fun h1 h2 s i hs h0 hi => ?_) (fun h1 h2 s i hs hi => ?_) w1.1 (by omega) ⟨by omega, by omega⟩
  · unfold St_dries_L4 m_dryMany_L4 jlt
    dsimp only
    rw [f0, if_pos hi, if_pos hi]
    simp (disch := omega) only [jchk_pos, w32_id, fw]
    by_cases h : Y 10 (25 + i) = 0
    · rw [if_pos h, if_pos h]; exact ⟨_, by omega, rfl, rfl⟩
    · rw [if_neg h, if_neg h]; exact ⟨s, by omega, rfl, by rw [Int.add_zero]⟩
  · unfold St_dries_L4 m_dryMany_L4
    dsimp only
    rw [f0, if_neg (by omega), if_neg (by omega)]; exact ⟨rfl, rfl⟩
theorem water_ok {N : Nat} (hN : 1000 ≤ N) {X Y : jMem} {q : Int} (hS : SR X q (Y 10)) (hW : WS (Y 10)) : ∃ s, St_waterOfAll N q X = some s ∧ m_sumOver N 25 Y = some s ∧ 0 ≤ s ∧ s ≤ 40 * Y 10 1 := by
  obtain ⟨f0, f1, fd, ft, fw, fh, fe⟩ := hS
  obtain ⟨w1, w2, wd, wt, ww, -⟩ := hW
  unfold St_waterOfAll m_sumOver
  refine loop_eq (n := Y 10 1) (fun s i => 0 ≤ s ∧ s ≤ 40 * i) (fun h1 h2 s i hs h0 hi => ?_) (fun h1 h2 s i hs hi => ?_) w1.1 (by omega) ⟨by omega, by omega⟩
  · have hw := ww i h0 (by omega)
    unfold St_waterOfAll_L4 m_sumOver_L4 jlt
    dsimp only
    rw [f0, if_pos hi, if_pos hi]
    simp (disch := omega) only [jchk_pos, w32_id, fw]
    exact ⟨_, by omega, rfl, rfl⟩
  · unfold St_waterOfAll_L4 m_sumOver_L4
    dsimp only
    rw [f0, if_neg (by omega), if_neg (by omega)]; exact ⟨rfl, rfl⟩
theorem heirs_ok {N : Nat} (hN : 1000 ≤ N) {X Y : jMem} {q : Int} (hS : SR X q (Y 10)) (hW : WS (Y 10)) : ∃ s, St_heirsOfAll N q X = some s ∧ m_sumOver N 39 Y = some s ∧ 0 ≤ s ∧ s ≤ 9 * Y 10 1 := by
  obtain ⟨f0, f1, fd, ft, fw, fh, fe⟩ := hS
  obtain ⟨w1, w2, wd, wt, ww, wh, we, -⟩ := hW
  unfold St_heirsOfAll m_sumOver
  refine loop_eq (n := Y 10 1) (fun s i => 0 ≤ s ∧ s ≤ 9 * i) (fun h1 h2 s i hs h0 hi => ?_) (fun h1 h2 s i hs hi => ?_) w1.1 (by omega) ⟨by omega, by omega⟩
  · have hw := we i h0 (by omega)
    unfold St_heirsOfAll_L4 m_sumOver_L4 jlt
    dsimp only
    rw [f0, if_pos hi, if_pos hi]
    simp (disch := omega) only [jchk_pos, w32_id, fe]
    exact ⟨_, by omega, rfl, rfl⟩
  · unfold St_heirsOfAll_L4 m_sumOver_L4
    dsimp only
    rw [f0, if_neg (by omega), if_neg (by omega)]; exact ⟨rfl, rfl⟩
theorem lie_ok {N : Nat} (hN : 1000 ≤ N) {X Y : jMem} {q : Int} (hS : SR X q (Y 10)) (hW : WS (Y 10)) : ∃ s, St_lieNumber N q X = some s ∧ m_lieNow N Y = some s := by
  obtain ⟨f0, f1, fd, ft, fw, fh, fe⟩ := hS
  have w1 := hW.1
  unfold St_lieNumber m_lieNow
  obtain ⟨r, h1, h2, -⟩ := loop_eq (b1 := St_lieNumber_L4 N q X) (b2 := m_lieNow_L4 N Y) (n := Y 10 1) (a0 := 0) (N := N) (fun _ _ => True) (fun h1 h2 s i hs h0 hi => by
    unfold St_lieNumber_L4 m_lieNow_L4 jlt
    dsimp only
    rw [f0, if_pos hi, if_pos hi, w32_id (x := 32 + i) (by omega), w32_id (x := i + 1) (by omega), jchk_pos (by omega), jchk_pos (by omega), fh i h0 (by omega), Int.mul_comm s 10]
    exact ⟨_, trivial, rfl, rfl⟩) (fun h1 h2 s i hs hi => by
    unfold St_lieNumber_L4 m_lieNow_L4
    dsimp only
    rw [f0, if_neg (by omega), if_neg (by omega)]; exact ⟨rfl, rfl⟩) w1.1 (by omega) trivial
  exact ⟨r, h1, h2⟩
theorem twos_ok {N : Nat} (hN : 1000 ≤ N) {X Y : jMem} {q : Int} (hS : SR X q (Y 10)) (hP : PK X (Y 10)) (hW : WS (Y 10)) : ∃ s, St_twosThatCanWed N q X = some s ∧ m_twosMany N Y = some s := by
  have f0 := hS.1
  have w1 := hW.1
  have key : wp2 (St_twosThatCanWed N q X) (m_twosMany N Y) (fun a b => a = b) := by
    unfold St_twosThatCanWed m_twosMany
    refine wp2_fix (fun z : Int × Int => (Y 10 1 - z.2).toNat) (fun z z' => z = z' ∧ 0 ≤ z.1 ∧ z.1 ≤ 7 * z.2 ∧ 0 ≤ z.2 ∧ z.2 ≤ Y 10 1) ?_ N N (0, 0) (0, 0) ⟨rfl, by decide, by decide, by decide, w1.1⟩ (by show (Y 10 1 - 0).toNat < N; omega) (by show (Y 10 1 - 0).toNat < N; omega)
    rintro h1 h2 ⟨a, i⟩ ⟨a', i'⟩ ⟨e1, e2, e3, e4, e5⟩ ih
    cases e1
    dsimp only at e2 e3 e4 e5 ih
    unfold St_twosThatCanWed_L4 m_twosMany_L4 jlt
    refine wp2_ite (by rw [f0]) (fun hx => ?_) (fun hx => wp2_some rfl)
    rw [f0] at hx
    rw [w32_id (by omega)]
    refine wp2_fix (fun z : Int × Int => (Y 10 1 - z.2).toNat) (fun z z' => z = z' ∧ 0 ≤ z.1 ∧ z.1 ≤ a + (z.2 - (i + 1)) ∧ i + 1 ≤ z.2 ∧ z.2 ≤ Y 10 1) ?_ N N (a, i + 1) (a, i + 1) ⟨rfl, e2, by show a ≤ a + (i + 1 - (i + 1)); omega, by show i + 1 ≤ i + 1; omega, by show i + 1 ≤ Y 10 1; omega⟩ (by show (Y 10 1 - (i + 1)).toNat < N; omega) (by show (Y 10 1 - (i + 1)).toNat < N; omega)
    rintro k1 k2 ⟨c, j⟩ ⟨c', j'⟩ ⟨g1, g2, g3, g4, g5⟩ jh
    cases g1
    dsimp only at g2 g3 g4 g5 jh
    unfold St_twosThatCanWed_L17 m_twosMany_L18 jlt
    refine wp2_ite (by rw [f0]) (fun hy => ?_) (fun hy => ?_)
    · rw [f0] at hy
      obtain ⟨r, r1, r2, r3⟩ := canWed_ok (N := N) hS hP hW (a := i) (b := j) ⟨e4, hx⟩ ⟨by omega, hy⟩
      rw [r1, r2, Option.bind_some, Option.bind_some]
      refine wp2_ite Iff.rfl (fun hr => ?_) (fun hr => ?_)
      · rw [Int.add_zero, w32_id (x := c) (by omega), w32_id (by omega)]
        exact jh (c, j + 1) (c, j + 1) ⟨rfl, g2, by show c ≤ a + (j + 1 - (i + 1)); omega, by show i + 1 ≤ j + 1; omega, by show j + 1 ≤ Y 10 1; omega⟩ (by show (Y 10 1 - (j + 1)).toNat < (Y 10 1 - j).toNat; omega)
      · rw [w32_id (x := c + 1) (by omega), w32_id (by omega)]
        exact jh (c + 1, j + 1) (c + 1, j + 1) ⟨rfl, by show 0 ≤ c + 1; omega, by show c + 1 ≤ a + (j + 1 - (i + 1)); omega, by show i + 1 ≤ j + 1; omega, by show j + 1 ≤ Y 10 1; omega⟩ (by show (Y 10 1 - (j + 1)).toNat < (Y 10 1 - j).toNat; omega)
    · rw [f0] at hy
      rw [w32_id (by omega)]
      exact ih (c, i + 1) (c, i + 1) ⟨rfl, g2, by show c ≤ 7 * (i + 1); omega, by show 0 ≤ i + 1; omega, by show i + 1 ≤ Y 10 1; omega⟩ (by show (Y 10 1 - (i + 1)).toNat < (Y 10 1 - i).toNat; omega)
  obtain ⟨r, r', g1, g2, rfl⟩ := key
  exact ⟨r, g1, g2⟩
theorem farmOf_ok {N : Nat} (hN : 1000 ≤ N) {X Y : jMem} {q w : Int} (hS : SR X q (Y 10)) (hW : WS (Y 10)) (hw : 0 ≤ w ∧ w < Y 10 1) : ∃ f, St_farmThatHas N q w X = some f ∧ m_farmOf N w Y = some f ∧ 0 ≤ f ∧ f < Y 10 1 ∧ Y 10 (32 + f) = w := by
  obtain ⟨f0, f1, fd, ft, fw, fh, fe⟩ := hS
  obtain ⟨w1, w2, wd, wt, ww, wh, we, wr, wk, wn, wi, wx, wj⟩ := hW
  obtain ⟨f, a1, a2, a3⟩ := wj w hw.1 hw.2
  have k1 : wp (St_farmThatHas N q w X) (fun z => z = f) := by
    unfold St_farmThatHas
    refine wp_fix (fun z : Int × Int => (Y 10 1 - z.2).toNat) (fun z => 0 ≤ z.2 ∧ z.2 ≤ Y 10 1 ∧ (f < z.2 → z.1 = f)) ?_ N (0, 0) ⟨by decide, w1.1, fun h => by exfalso; revert h; show ¬ f < 0; omega⟩ (by show (Y 10 1 - 0).toNat < N; omega)
    rintro h ⟨x, i⟩ ⟨e1, e2, e3⟩ ih
    dsimp only at e1 e2 e3 ih
    unfold St_farmThatHas_L4
    refine wp_ite (fun hx => ?_) (fun hx => ?_)
    · rw [f0] at hx
      rw [jchk_pos (by omega), fh i e1 (by omega), w32_id (by omega)]
      refine wp_ite (fun hi => ?_) (fun hi => ?_)
      · have hfi : i = f := wi i f e1 hx a1 a2 (by rw [hi, a3])
        exact ih (i, i + 1) ⟨by show 0 ≤ i + 1; omega, by show i + 1 ≤ Y 10 1; omega, fun _ => hfi⟩ (by show (Y 10 1 - (i + 1)).toNat < (Y 10 1 - i).toNat; omega)
      · refine ih (x, i + 1) ⟨by show 0 ≤ i + 1; omega, by show i + 1 ≤ Y 10 1; omega, fun hf => ?_⟩ (by show (Y 10 1 - (i + 1)).toNat < (Y 10 1 - i).toNat; omega)
        have hf' : f < i + 1 := hf
        have : f ≠ i := fun h => hi (by rw [← h]; exact a3)
        exact e3 (by omega)
    · rw [f0] at hx
      exact wp_some (e3 (by omega))
  have k2 : wp (m_farmOf N w Y) (fun z => z = f) := by
    unfold m_farmOf
    refine wp_fix (fun z : Int => (f - z).toNat) (fun z => 0 ≤ z ∧ z ≤ f) ?_ N 0 ⟨by decide, a1⟩ (by show (f - 0).toNat < N; omega)
    intro h i ⟨e1, e2⟩ ih
    unfold m_farmOf_L2
    dsimp only
    rw [w32_id (by omega), jchk_pos (by omega)]
    refine wp_ite (fun hi => ?_) (fun hi => ?_)
    · exact wp_some (wi i f e1 (by omega) a1 a2 (by rw [hi, a3]))
    · have : i ≠ f := fun h => hi (by rw [h]; exact a3)
      rw [w32_id (by omega)]
      exact ih (i + 1) ⟨by omega, by omega⟩ (by show (f - (i + 1)).toNat < (f - i).toNat; omega)
  obtain ⟨z, g1, rfl⟩ := k1
  obtain ⟨z', g2, rfl⟩ := k2
  exact ⟨z', g1, g2, a1, a2, a3⟩
