/-! sums and sets over all FARMS, in step -/
theorem loop_eq {b1 b2 : (Int × Int → Option Int) → Int × Int → Option Int} {n a0 : Int} (P : Int → Int → Prop) (hstep : ∀ h1 h2 acc i, P acc i → 0 ≤ i → i < n → ∃ acc', P acc' (i + 1) ∧ b1 h1 (acc, i) = h1 (acc', i + 1) ∧ b2 h2 (acc, i) = h2 (acc', i + 1))
    (hend : ∀ h1 h2 acc i, P acc i → i = n → b1 h1 (acc, i) = some acc ∧ b2 h2 (acc, i) = some acc) (hn : 0 ≤ n) {N : Nat} (hN : n.toNat < N) (h0 : P a0 0) : ∃ r, jfix N b1 (a0, 0) = some r ∧ jfix N b2 (a0, 0) = some r ∧ P r n := by
  have key : wp2 (jfix N b1 (a0, 0)) (jfix N b2 (a0, 0)) (fun a b => a = b ∧ P a n) := by
    refine wp2_fix (fun z : Int × Int => (n - z.2).toNat) (fun z z' => z = z' ∧ P z.1 z.2 ∧ 0 ≤ z.2 ∧ z.2 ≤ n) ?_ N N (a0, 0) (a0, 0) ⟨rfl, h0, by show (0 : Int) ≤ 0; omega, hn⟩ (by show (n - 0).toNat < N; omega) (by show (n - 0).toNat < N; omega)
    rintro h1 h2 ⟨a, i⟩ ⟨a', i'⟩ ⟨e1, e2, e3, e4⟩ ih
    cases e1
    dsimp only at e2 e3 e4 ih
    by_cases hi : i < n
    · obtain ⟨acc', p1, p2, p3⟩ := hstep h1 h2 a i e2 e3 hi
      rw [p2, p3]
      exact ih (acc', i + 1) (acc', i + 1) ⟨rfl, p1, by show 0 ≤ i + 1; omega, by show i + 1 ≤ n; omega⟩ (by show (n - (i + 1)).toNat < (n - i).toNat; omega)
    · have hin : i = n := by omega
      obtain ⟨p2, p3⟩ := hend h1 h2 a i e2 hin
      rw [p2, p3]
      subst hin
      exact wp2_some ⟨rfl, e2⟩
  obtain ⟨r, r', g1, g2, rfl, g3⟩ := key
  exact ⟨r, g1, g2, g3⟩
theorem homeBits_ok {N : Nat} (hN : 1000 ≤ N) {X Y : jMem} {q : Int} (hS : SR X q (Y 10)) (hW : WS (Y 10)) : ∃ s, St_homeBits N q X = some s ∧ m_homeOnes N Y = some s ∧ 0 ≤ s ∧ s < 128 := by
  obtain ⟨f0, f1, fd, ft, fw, fh, fe⟩ := hS
  have w1 := hW.1
  unfold St_homeBits m_homeOnes
  refine loop_eq (n := Y 10 1) (fun s _ => 0 ≤ s ∧ s < 128) (fun h1 h2 s i hs h0 hi => ?_) (fun h1 h2 s i hs hi => ?_) w1.1 (by omega) ⟨by omega, by omega⟩
  · have hp := p2_in (k := i) h0 (by omega)
    have ho := or_in (s := s) (t := p2 i) hs.1 hs.2 (by omega) (by omega)
    unfold St_homeBits_L4 m_homeOnes_L4 jlt
    dsimp only
    rw [f0, if_pos hi, if_pos hi]
    simp (disch := omega) only [jchk_pos, w32_id, fh, shl_ok]
    by_cases h : Y 10 (32 + i) = i
    · rw [if_pos h, if_pos h]; exact ⟨_, ho, rfl, rfl⟩
    · rw [if_neg h, if_neg h, or0 hs.1 hs.2]; exact ⟨s, hs, rfl, rfl⟩
  · unfold St_homeBits_L4 m_homeOnes_L4
    dsimp only
    rw [f0, if_neg (by omega), if_neg (by omega)]; exact ⟨rfl, rfl⟩
theorem homes_ok {N : Nat} (hN : 1000 ≤ N) {X Y : jMem} {q : Int} (hS : SR X q (Y 10)) (hW : WS (Y 10)) : ∃ s, St_homes N q X = some (pcn s) ∧ m_homeOnes N Y = some s ∧ (∀ M, m_bits N s M = some (pcn s)) ∧ 0 ≤ s ∧ s < 128 := by
  obtain ⟨s, h1, h2, h3, h4⟩ := homeBits_ok hN hS hW
  refine ⟨s, ?_, h2, fun M => bits_ok hN M h3 h4, h3, h4⟩
  unfold St_homes
  rw [h1, Option.bind_some, bc_ok N X h3 h4]; rfl
theorem dries_ok {N : Nat} (hN : 1000 ≤ N) {X Y : jMem} {q : Int} (hS : SR X q (Y 10)) (hW : WS (Y 10)) : ∃ s, St_dries N q X = some s ∧ m_dryMany N Y = some s ∧ 0 ≤ s ∧ s ≤ Y 10 1 := by
  obtain ⟨f0, f1, fd, ft, fw, fh, fe⟩ := hS
  have w1 := hW.1
  unfold St_dries m_dryMany
  refine loop_eq (n := Y 10 1) (fun s i => 0 ≤ s ∧ s ≤ i) (fun h1 h2 s i hs h0 hi => ?_) (fun h1 h2 s i hs hi => ?_) w1.1 (by omega) ⟨by omega, by omega⟩
  · unfold St_dries_L4 m_dryMany_L4 jlt
    dsimp only
    rw [f0, if_pos hi, if_pos hi]
    simp (disch := omega) only [jchk_pos, w32_id, fw]
    by_cases h : Y 10 (25 + i) = 0
    · rw [if_pos h, if_pos h]; exact ⟨_, by omega, rfl, rfl⟩
    · rw [if_neg h, if_neg h]; exact ⟨s, by omega, rfl, by rw [Int.add_zero]⟩
  · unfold St_dries_L4 m_dryMany_L4
    dsimp only
    rw [f0, if_neg (by omega), if_neg (by omega)]; exact ⟨rfl, rfl⟩
theorem water_ok {N : Nat} (hN : 1000 ≤ N) {X Y : jMem} {q : Int} (hS : SR X q (Y 10)) (hW : WS (Y 10)) : ∃ s, St_waterOfAll N q X = some s ∧ m_sumOver N 25 Y = some s ∧ 0 ≤ s ∧ s ≤ 40 * Y 10 1 := by
  obtain ⟨f0, f1, fd, ft, fw, fh, fe⟩ := hS
  obtain ⟨w1, w2, wd, wt, ww, -⟩ := hW
  unfold St_waterOfAll m_sumOver
  refine loop_eq (n := Y 10 1) (fun s i => 0 ≤ s ∧ s ≤ 40 * i) (fun h1 h2 s i hs h0 hi => ?_) (fun h1 h2 s i hs hi => ?_) w1.1 (by omega) ⟨by omega, by omega⟩
  · have hw := ww i h0 (by omega)
    unfold St_waterOfAll_L4 m_sumOver_L4 jlt
    dsimp only
    rw [f0, if_pos hi, if_pos hi]
    simp (disch := omega) only [jchk_pos, w32_id, fw]
    exact ⟨_, by omega, rfl, rfl⟩
  · unfold St_waterOfAll_L4 m_sumOver_L4
    dsimp only
    rw [f0, if_neg (by omega), if_neg (by omega)]; exact ⟨rfl, rfl⟩
theorem heirs_ok {N : Nat} (hN : 1000 ≤ N) {X Y : jMem} {q : Int} (hS : SR X q (Y 10)) (hW : WS (Y 10)) : ∃ s, St_heirsOfAll N q X = some s ∧ m_sumOver N 39 Y = some s ∧ 0 ≤ s ∧ s ≤ 9 * Y 10 1 := by
  obtain ⟨f0, f1, fd, ft, fw, fh, fe⟩ := hS
  obtain ⟨w1, w2, wd, wt, ww, wh, we, -⟩ := hW
  unfold St_heirsOfAll m_sumOver
  refine loop_eq (n := Y 10 1) (fun s i => 0 ≤ s ∧ s ≤ 9 * i) (fun h1 h2 s i hs h0 hi => ?_) (fun h1 h2 s i hs hi => ?_) w1.1 (by omega) ⟨by omega, by omega⟩
  · have hw := we i h0 (by omega)
    unfold St_heirsOfAll_L4 m_sumOver_L4 jlt
    dsimp only
    rw [f0, if_pos hi, if_pos hi]
    simp (disch := omega) only [jchk_pos, w32_id, fe]
    exact ⟨_, by omega, rfl, rfl⟩
  · unfold St_heirsOfAll_L4 m_sumOver_L4
    dsimp only
    rw [f0, if_neg (by omega), if_neg (by omega)]; exact ⟨rfl, rfl⟩
