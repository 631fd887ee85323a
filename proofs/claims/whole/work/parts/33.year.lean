/-! the parts of a YEAR, in step -/
theorem lesser_ok {N : Nat} {a b : Int} {M : jMem} : m_lesser N a b M = some (jmin a b) := by
  unfold m_lesser; rw [jmin_le]; split <;> rfl
theorem jmin_in {a b lo hi : Int} (h1 : lo ≤ a) (h2 : lo ≤ b) (h3 : a ≤ hi ∨ b ≤ hi) : lo ≤ jmin a b ∧ jmin a b ≤ hi := by
  unfold jmin; split <;> omega
theorem jmin_l {a b : Int} : jmin a b ≤ a ∧ jmin a b ≤ b := by unfold jmin; split <;> omega
theorem WS_of {σ σ' : Int → Int} (hW : WS σ) (h1 : σ' 1 = σ 1) (h2 : σ' 2 = σ 2) (hd : ∀ i, 0 ≤ i → i < 7 → 0 ≤ σ' (11 + i) ∧ σ' (11 + i) ≤ 40) (ht : ∀ i, 0 ≤ i → i < 7 → 0 ≤ σ' (18 + i) ∧ σ' (18 + i) ≤ 60) (hw : ∀ i, 0 ≤ i → i < 7 → 0 ≤ σ' (25 + i) ∧ σ' (25 + i) ≤ 40)
    (hh : ∀ i, 0 ≤ i → i < 7 → σ' (32 + i) = σ (32 + i)) (he : ∀ i, 0 ≤ i → i < 7 → 0 ≤ σ' (39 + i) ∧ σ' (39 + i) ≤ 9) (hr : ∀ i, 0 ≤ i → i < 7 → 0 ≤ σ' (46 + i) ∧ σ' (46 + i) ≤ 5) (hk : ∀ i, 0 ≤ i → i < 7 → σ' (53 + i) = σ (53 + i)) : WS σ' := by
  obtain ⟨w1, w2, wd, wt, ww, wh, we, wr, wk, wn, wi, wx, wj⟩ := hW
  refine ⟨by rw [h1]; exact w1, by rw [h2]; exact w2, hd, ht, hw, fun i a b => by rw [hh i a b]; exact wh i a b, he, hr, fun i a b => by rw [hk i a b]; exact wk i a b, fun i a b => ?_, fun i j a b c d e => ?_, fun i a b => by rw [hk i a b]; exact wx i a b, fun w a b => ?_⟩
  · rw [h1] at b ⊢
    rw [hh i a (by omega)]; exact wn i a b
  · rw [h1] at b d
    rw [hh i a (by omega), hh j c (by omega)] at e
    exact wi i j a b c d e
  · rw [h1] at b ⊢
    obtain ⟨f, g1, g2, g3⟩ := wj w a b
    exact ⟨f, g1, g2, by rw [hh f g1 (by omega)]; exact g3⟩
theorem drawAll_ok {N : Nat} (hN : 1000 ≤ N) {X Y : jMem} {q qy d : Int} (hS : SR X q (Y 10)) (hW : WS (Y 10)) (hd : ∀ i, 0 ≤ i → i < 7 → X d i = Y 10 (46 + i)) (h1 : d ≠ q + 3) (h2 : d ≠ qy + 1) (h3 : qy + 1 < q ∨ q + 5 < qy + 1) :
    ∃ X' Y', Ye_drawAll N qy q d X = some (0, X') ∧ m_drawsAll N Y = some (0, Y') ∧ SR X' q (Y' 10) ∧ WS (Y' 10) ∧ (∀ i, 0 ≤ i → i < Y 10 1 → X' (qy + 1) i = Y' 11 i ∧ 0 ≤ Y' 11 i ∧ Y' 11 i ≤ 5) ∧
      (∀ r, r ≠ q + 3 → r ≠ qy + 1 → X' r = X r) ∧ (∀ r, r ≠ 10 → r ≠ 11 → Y' r = Y r) ∧ (∀ k, k < 25 ∨ 32 ≤ k → Y' 10 k = Y 10 k) := by
  have key : wp2 (Ye_drawAll N qy q d X) (m_drawsAll N Y) (fun o o' => o.1 = 0 ∧ o'.1 = 0 ∧ SR o.2 q (o'.2 10) ∧ WS (o'.2 10) ∧ (∀ i, 0 ≤ i → i < Y 10 1 → o.2 (qy + 1) i = o'.2 11 i ∧ 0 ≤ o'.2 11 i ∧ o'.2 11 i ≤ 5) ∧
      (∀ r, r ≠ q + 3 → r ≠ qy + 1 → o.2 r = X r) ∧ (∀ r, r ≠ 10 → r ≠ 11 → o'.2 r = Y r) ∧ (∀ k, k < 25 ∨ 32 ≤ k → o'.2 10 k = Y 10 k)) := by
    unfold Ye_drawAll m_drawsAll
    refine wp2_fix (fun z : Int × jMem => (Y 10 1 - z.1).toNat) (fun z z' => z.1 = z'.1 ∧ 0 ≤ z.1 ∧ z.1 ≤ Y 10 1 ∧ SR z.2 q (z'.2 10) ∧ WS (z'.2 10) ∧ (∀ i, 0 ≤ i → i < z.1 → z.2 (qy + 1) i = z'.2 11 i ∧ 0 ≤ z'.2 11 i ∧ z'.2 11 i ≤ 5) ∧
      (∀ r, r ≠ q + 3 → r ≠ qy + 1 → z.2 r = X r) ∧ (∀ r, r ≠ 10 → r ≠ 11 → z'.2 r = Y r) ∧ (∀ k, k < 25 ∨ 32 ≤ k → z'.2 10 k = Y 10 k)) ?_ N N (0, X) (0, Y) ⟨rfl, by omega, hW.1.1, hS, hW, fun i a b => by omega, fun r _ _ => rfl, fun r _ _ => rfl, fun k _ => rfl⟩ (by have := hW.1; show (Y 10 1 - 0).toNat < N; omega) (by have := hW.1; show (Y 10 1 - 0).toNat < N; omega)
    rintro h h' ⟨x, A⟩ ⟨x', B⟩ ⟨e1, e2, e3, eS, eW, eD, eX, eY, eK⟩ ih
    dsimp only at e1 e2 e3 eS eW eD eX eY eK ih
    subst e1
    unfold Ye_drawAll_L2 m_drawsAll_L2
    obtain ⟨f0, f1, fd, ft, fw, fh, fe⟩ := eS
    have eW' := eW
    obtain ⟨w1, w2, wd, wt, ww, wh, we, wr, wk, wn, wi, wx, wj⟩ := eW
    have k1 : B 10 1 = Y 10 1 := eK 1 (by omega)
    refine wp2_ite (by rw [f0]) (fun hx => ?_) (fun hx => ?_)
    · have hx' : x < B 10 1 := by rw [f0] at hx; exact hx
      have hw := wh x e2 (by omega)
      have hh := fh x e2 (by omega)
      generalize hs : B 10 (32 + x) = s at hw hh
      have hA := eX d h1 h2
      have hdr : A d x = B 10 (46 + x) := by rw [hA, hd x e2 (by omega), eK (46 + x) (by omega)]
      have hr := wr x e2 (by omega)
      have hww := ww s hw.1 hw.2
      have hfw := fw s hw.1 hw.2
      have hj := jmin_in (a := B 10 (46 + x)) (b := B 10 (25 + s)) (lo := 0) (hi := 5) hr.1 hww.1 (Or.inl hr.2)
      have hj2 := jmin_l (a := B 10 (46 + x)) (b := B 10 (25 + s))
      generalize hm : jmin (B 10 (46 + x)) (B 10 (25 + s)) = m at hj hj2
      unfold jlt
      simp (disch := omega) only [jchk_pos, w32_id, hs, hh, hdr, hfw, lesser_ok, Option.bind_some, hm, up_hit, up_row, up_col]
      refine ih (x + 1, _) (x + 1, _) ⟨rfl, by show 0 ≤ x + 1; omega, by show x + 1 ≤ Y 10 1; omega, ?_, ?_, ?_, ?_, ?_, ?_⟩ (by show (Y 10 1 - (x + 1)).toNat < (Y 10 1 - x).toNat; omega)
      · refine ⟨?_, ?_, fun i h0 h7 => ?_, fun i h0 h7 => ?_, fun i h0 h7 => ?_, fun i h0 h7 => ?_, fun i h0 h7 => ?_⟩
        · simp (disch := omega) only [up_row, up_col, f0]
        · simp (disch := omega) only [up_row, up_col, f1]
        · simp (disch := omega) only [up_row, up_col, fd]
        · simp (disch := omega) only [up_row, up_col, ft]
        · by_cases i1 : i = s
          · subst i1; simp (disch := omega) only [up_row, up_col, up_hit]
          · simp (disch := omega) only [up_row, up_col, fw]
        · simp (disch := omega) only [up_row, up_col, fh]
        · simp (disch := omega) only [up_row, up_col, fe]
      · refine WS_of eW' ?_ ?_ (fun i h0 h7 => ?_) (fun i h0 h7 => ?_) (fun i h0 h7 => ?_) (fun i h0 h7 => ?_) (fun i h0 h7 => ?_) (fun i h0 h7 => ?_) (fun i h0 h7 => ?_)
        · simp (disch := omega) only [up_row, up_col]
        · simp (disch := omega) only [up_row, up_col]
        · simp (disch := omega) only [up_row, up_col]; exact wd i h0 h7
        · simp (disch := omega) only [up_row, up_col]; exact wt i h0 h7
        · by_cases i1 : i = s
          · subst i1; simp (disch := omega) only [up_row, up_col, up_hit]; omega
          · simp (disch := omega) only [up_row, up_col]; exact ww i h0 h7
        · simp (disch := omega) only [up_row, up_col]
        · simp (disch := omega) only [up_row, up_col]; exact we i h0 h7
        · simp (disch := omega) only [up_row, up_col]; exact wr i h0 h7
        · simp (disch := omega) only [up_row, up_col]
      · intro i h0 h7
        dsimp only at h7
        by_cases i1 : i = x
        · subst i1; simp (disch := omega) only [up_row, up_col, up_hit, true_and]; exact hj
        · simp (disch := omega) only [up_row, up_col]; exact eD i h0 (by omega)
      · intro r g1 g2
        simp (disch := omega) only [up_ne]; exact eX r g1 g2
      · intro r g1 g2
        simp (disch := omega) only [up_ne]; exact eY r g1 g2
      · intro k hk
        simp (disch := omega) only [up_row, up_col]; exact eK k hk
    · refine wp2_some ⟨rfl, rfl, ⟨f0, f1, fd, ft, fw, fh, fe⟩, eW', fun i h0 h7 => eD i h0 (by rw [f0] at hx; omega), eX, eY, eK⟩
  obtain ⟨⟨o1, o2⟩, ⟨p1, p2⟩, g1, g2, rfl, rfl, g3⟩ := key
  exact ⟨o2, p2, g1, g2, g3⟩
theorem addHeir_ok {N : Nat} {X Y : jMem} {q a : Int} (hS : SR X q (Y 10)) (hW : WS (Y 10)) (ha : 0 ≤ a ∧ a < 7) :
    ∃ X' Y', St_addHeir N q a X = some (0, X') ∧ m_bears N a Y = some (0, Y') ∧ SR X' q (Y' 10) ∧ WS (Y' 10) ∧ (∀ r, r ≠ q + 5 → X' r = X r) ∧ (∀ r, r ≠ 10 → Y' r = Y r) ∧ (∀ k, k ≠ 39 + a → Y' 10 k = Y 10 k) := by
  obtain ⟨f0, f1, fd, ft, fw, fh, fe⟩ := hS
  have hW' := hW
  obtain ⟨w1, w2, wd, wt, ww, wh, we, wr, wk, wn, wi, wx, wj⟩ := hW
  have hf := fe a ha.1 ha.2
  have hw := we a ha.1 ha.2
  have hj := jmin_in (a := Y 10 (39 + a) + 1) (b := 9) (lo := 0) (hi := 9) (by omega) (by omega) (Or.inr (by omega))
  generalize hm : jmin (Y 10 (39 + a) + 1) 9 = m at hj
  refine ⟨up X (q + 5) a m, up Y 10 (39 + a) m, ?_, ?_, ?_, ?_, ?_, ?_, ?_⟩
  · unfold St_addHeir jlt
    simp (disch := omega) only [jchk_pos, hf, w32_id, hm]
  · unfold m_bears jlt
    simp (disch := omega) only [jchk_pos, w32_id, lesser_ok, Option.bind_some, hm]
  · refine ⟨?_, ?_, fun i h0 h7 => ?_, fun i h0 h7 => ?_, fun i h0 h7 => ?_, fun i h0 h7 => ?_, fun i h0 h7 => ?_⟩
    · simp (disch := omega) only [up_row, up_col, f0]
    · simp (disch := omega) only [up_row, up_col, f1]
    · simp (disch := omega) only [up_row, up_col, fd]
    · simp (disch := omega) only [up_row, up_col, ft]
    · simp (disch := omega) only [up_row, up_col, fw]
    · simp (disch := omega) only [up_row, up_col, fh]
    · by_cases i1 : i = a
      · subst i1; simp (disch := omega) only [up_row, up_col, up_hit]
      · simp (disch := omega) only [up_row, up_col, fe]
  · refine WS_of hW' ?_ ?_ (fun i h0 h7 => ?_) (fun i h0 h7 => ?_) (fun i h0 h7 => ?_) (fun i h0 h7 => ?_) (fun i h0 h7 => ?_) (fun i h0 h7 => ?_) (fun i h0 h7 => ?_)
    · simp (disch := omega) only [up_row, up_col]
    · simp (disch := omega) only [up_row, up_col]
    · simp (disch := omega) only [up_row, up_col]; exact wd i h0 h7
    · simp (disch := omega) only [up_row, up_col]; exact wt i h0 h7
    · simp (disch := omega) only [up_row, up_col]; exact ww i h0 h7
    · simp (disch := omega) only [up_row, up_col]
    · by_cases i1 : i = a
      · subst i1; simp (disch := omega) only [up_row, up_col, up_hit]; omega
      · simp (disch := omega) only [up_row, up_col]; exact we i h0 h7
    · simp (disch := omega) only [up_row, up_col]; exact wr i h0 h7
    · simp (disch := omega) only [up_row, up_col]
  · intro r hr; simp (disch := omega) only [up_ne]
  · intro r hr; simp (disch := omega) only [up_ne]
  · intro k hk; simp (disch := omega) only [up_col]
theorem rainOnAll_ok {N : Nat} (hN : 1000 ≤ N) {X Y : jMem} {q qy rain : Int} (hS : SR X q (Y 10)) (hW : WS (Y 10)) (hr : rain = Y 10 2) (h3 : qy < q ∨ q + 5 < qy) :
    ∃ X' Y', Ye_rainOnAll N qy q rain X = some (0, X') ∧ m_rainsOn N Y = some (0, Y') ∧ SR X' q (Y' 10) ∧ WS (Y' 10) ∧ X' qy 1 = Y' 0 24 ∧ 0 ≤ Y' 0 24 ∧ Y' 0 24 < 128 ∧
      (∀ r, r ≠ q + 1 → r ≠ q + 3 → r ≠ qy → X' r = X r) ∧ (∀ j, j ≠ 1 → X' qy j = X qy j) ∧ (∀ r, r ≠ 10 → r ≠ 0 → Y' r = Y r) ∧ (∀ j, j ≠ 24 → Y' 0 j = Y 0 j) ∧ (∀ k, k < 11 ∨ (18 ≤ k ∧ k < 25) ∨ 32 ≤ k → Y' 10 k = Y 10 k) := by
  have key : wp2 (Ye_rainOnAll N qy q rain X) (m_rainsOn N Y) (fun o o' => o.1 = 0 ∧ o'.1 = 0 ∧ SR o.2 q (o'.2 10) ∧ WS (o'.2 10) ∧ o.2 qy 1 = o'.2 0 24 ∧ 0 ≤ o'.2 0 24 ∧ o'.2 0 24 < 128 ∧
      (∀ r, r ≠ q + 1 → r ≠ q + 3 → r ≠ qy → o.2 r = X r) ∧ (∀ j, j ≠ 1 → o.2 qy j = X qy j) ∧ (∀ r, r ≠ 10 → r ≠ 0 → o'.2 r = Y r) ∧ (∀ j, j ≠ 24 → o'.2 0 j = Y 0 j) ∧ (∀ k, k < 11 ∨ (18 ≤ k ∧ k < 25) ∨ 32 ≤ k → o'.2 10 k = Y 10 k)) := by
    unfold Ye_rainOnAll m_rainsOn jlt
    have hS0 : SR (up X qy 1 0) q (up Y 0 24 0 10) := by
      obtain ⟨f0, f1, fd, ft, fw, fh, fe⟩ := hS
      refine ⟨?_, ?_, fun i h0 h7 => ?_, fun i h0 h7 => ?_, fun i h0 h7 => ?_, fun i h0 h7 => ?_, fun i h0 h7 => ?_⟩ <;> simp (disch := omega) only [up_row, f0, f1, fd, ft, fw, fh, fe]
    have hW0 : WS (up Y 0 24 0 10) := by rw [up_ne (by omega)]; exact hW
    have i1 : ∀ r, r ≠ q + 1 → r ≠ q + 3 → r ≠ qy → up X qy 1 0 r = X r := fun r _ _ c => up_ne c
    have i2 : ∀ j, j ≠ 1 → up X qy 1 0 qy j = X qy j := fun j hj => up_col hj
    have i3 : ∀ r, r ≠ 10 → r ≠ 0 → up Y 0 24 0 r = Y r := fun r _ c => up_ne c
    have i4 : ∀ j, j ≠ 24 → up Y 0 24 0 0 j = Y 0 j := fun j hj => up_col hj
    have i5 : ∀ k, k < 11 ∨ (18 ≤ k ∧ k < 25) ∨ 32 ≤ k → up Y 0 24 0 10 k = Y 10 k := fun k _ => up_row (by decide)
    refine wp2_fix (fun z : Int × jMem => (Y 10 1 - z.1).toNat) (fun z z' => z.1 = z'.1 ∧ 0 ≤ z.1 ∧ z.1 ≤ Y 10 1 ∧ SR z.2 q (z'.2 10) ∧ WS (z'.2 10) ∧ z.2 qy 1 = z'.2 0 24 ∧ 0 ≤ z'.2 0 24 ∧ z'.2 0 24 < 128 ∧
      (∀ r, r ≠ q + 1 → r ≠ q + 3 → r ≠ qy → z.2 r = X r) ∧ (∀ j, j ≠ 1 → z.2 qy j = X qy j) ∧ (∀ r, r ≠ 10 → r ≠ 0 → z'.2 r = Y r) ∧ (∀ j, j ≠ 24 → z'.2 0 j = Y 0 j) ∧ (∀ k, k < 11 ∨ (18 ≤ k ∧ k < 25) ∨ 32 ≤ k → z'.2 10 k = Y 10 k)) ?_ N N (0, up X qy 1 0) (0, up Y 0 24 0) ⟨rfl, by omega, hW.1.1, hS0, hW0, by simp (disch := omega) only [up_hit], by simp (disch := omega) only [up_hit]; omega, by simp (disch := omega) only [up_hit]; omega, i1, i2, i3, i4, i5⟩ (by have := hW.1; show (Y 10 1 - 0).toNat < N; omega) (by have := hW.1; show (Y 10 1 - 0).toNat < N; omega)
    rintro h h' ⟨x, A⟩ ⟨x', B⟩ ⟨e1, e2, e3, eS, eW, eG, eG0, eG1, eX, eQ, eY, eZ, eK⟩ ih
    dsimp only at e1 e2 e3 eS eW eG eG0 eG1 eX eQ eY eZ eK ih
    subst e1
    unfold Ye_rainOnAll_L7 m_rainsOn_L7
    obtain ⟨f0, f1, fd, ft, fw, fh, fe⟩ := eS
    have eW' := eW
    obtain ⟨w1, w2, wd, wt, ww, wh, we, wr, wk, wn, wi, wx, wj⟩ := eW
    have k1 : B 10 1 = Y 10 1 := eK 1 (by omega)
    have k2 : B 10 2 = Y 10 2 := eK 2 (by omega)
    refine wp2_ite (by rw [f0]) (fun hx => ?_) (fun hx => ?_)
    · have hx' : x < B 10 1 := by rw [f0] at hx; exact hx
      have hw1 := ww x e2 (by omega)
      have hd1 := wd x e2 (by omega)
      have hfw := fw x e2 (by omega)
      have hfd := fd x e2 (by omega)
      have hrr : rain = B 10 2 := by omega
      have hj := jmin_in (a := B 10 (25 + x) + B 10 2) (b := B 10 (11 + x)) (lo := 0) (hi := 40) (by omega) (by omega) (Or.inr (by omega))
      have hj9 := jmin_in (a := B 10 (11 + x) + 1) (b := 40) (lo := 0) (hi := 40) (by omega) (by omega) (Or.inr (by omega))
      subst hrr
      generalize hm : jmin (B 10 (25 + x) + B 10 2) (B 10 (11 + x)) = m at hj
      generalize hm9 : jmin (B 10 (11 + x) + 1) 40 = m9 at hj9
      unfold St_addWater St_addDepth jlt jbv
      simp (disch := omega) only [jchk_pos, w32_id, hfw, hfd, lesser_ok, Option.bind_some, hm, up_hit, up_row, up_col, hm9]
      by_cases hm0 : m = 0
      · rw [if_pos hm0, if_neg (by omega)]
        have hp := p2_in (k := x) e2 (by omega)
        have ho := or_in (s := B 0 24) (t := p2 x) eG0 eG1 (by omega) (by omega)
        rw [shl_ok e2 (by omega), eG]
        refine ih (x + 1, _) (x + 1, _) ⟨rfl, by show 0 ≤ x + 1; omega, by show x + 1 ≤ Y 10 1; omega, ?_, ?_, ?_, ?_, ?_, ?_, ?_, ?_, ?_, ?_⟩ (by show (Y 10 1 - (x + 1)).toNat < (Y 10 1 - x).toNat; omega)
        · refine ⟨?_, ?_, fun i h0 h7 => ?_, fun i h0 h7 => ?_, fun i h0 h7 => ?_, fun i h0 h7 => ?_, fun i h0 h7 => ?_⟩
          · simp (disch := omega) only [up_row, up_col, f0]
          · simp (disch := omega) only [up_row, up_col, f1]
          · by_cases i1 : i = x
            · subst i1; simp (disch := omega) only [up_row, up_col, up_hit]
            · simp (disch := omega) only [up_row, up_col, fd]
          · simp (disch := omega) only [up_row, up_col, ft]
          · by_cases i1 : i = x
            · subst i1; simp (disch := omega) only [up_row, up_col, up_hit]
            · simp (disch := omega) only [up_row, up_col, fw]
          · simp (disch := omega) only [up_row, up_col, fh]
          · simp (disch := omega) only [up_row, up_col, fe]
        · refine WS_of eW' ?_ ?_ (fun i h0 h7 => ?_) (fun i h0 h7 => ?_) (fun i h0 h7 => ?_) (fun i h0 h7 => ?_) (fun i h0 h7 => ?_) (fun i h0 h7 => ?_) (fun i h0 h7 => ?_)
          · simp (disch := omega) only [up_row, up_col]
          · simp (disch := omega) only [up_row, up_col]
          · by_cases i1 : i = x
            · subst i1; simp (disch := omega) only [up_row, up_col, up_hit]; omega
            · simp (disch := omega) only [up_row, up_col]; exact wd i h0 h7
          · simp (disch := omega) only [up_row, up_col]; exact wt i h0 h7
          · by_cases i1 : i = x
            · subst i1; simp (disch := omega) only [up_row, up_col, up_hit]; omega
            · simp (disch := omega) only [up_row, up_col]; exact ww i h0 h7
          · simp (disch := omega) only [up_row, up_col]
          · simp (disch := omega) only [up_row, up_col]; exact we i h0 h7
          · simp (disch := omega) only [up_row, up_col]; exact wr i h0 h7
          · simp (disch := omega) only [up_row, up_col]
        · simp (disch := omega) only [up_hit, up_row, up_col]
        · simp (disch := omega) only [up_hit, up_row, up_col]; exact ho.1
        · simp (disch := omega) only [up_hit, up_row, up_col]; exact ho.2
        · intro r a b c; simp (disch := omega) only [up_ne]; exact eX r a b c
        · intro j hj; simp (disch := omega) only [up_row, up_col]; exact eQ j hj
        · intro r a b; simp (disch := omega) only [up_ne]; exact eY r a b
        · intro j hj; simp (disch := omega) only [up_row, up_col]; exact eZ j hj
        · intro k hk; simp (disch := omega) only [up_row, up_col]; exact eK k hk
      · rw [if_neg hm0, if_pos (by omega)]
        refine ih (x + 1, _) (x + 1, _) ⟨rfl, by show 0 ≤ x + 1; omega, by show x + 1 ≤ Y 10 1; omega, ?_, ?_, ?_, ?_, ?_, ?_, ?_, ?_, ?_, ?_⟩ (by show (Y 10 1 - (x + 1)).toNat < (Y 10 1 - x).toNat; omega)
        · refine ⟨?_, ?_, fun i h0 h7 => ?_, fun i h0 h7 => ?_, fun i h0 h7 => ?_, fun i h0 h7 => ?_, fun i h0 h7 => ?_⟩
          · simp (disch := omega) only [up_row, up_col, f0]
          · simp (disch := omega) only [up_row, up_col, f1]
          · simp (disch := omega) only [up_row, up_col, fd]
          · simp (disch := omega) only [up_row, up_col, ft]
          · by_cases i1 : i = x
            · subst i1; simp (disch := omega) only [up_row, up_col, up_hit]
            · simp (disch := omega) only [up_row, up_col, fw]
          · simp (disch := omega) only [up_row, up_col, fh]
          · simp (disch := omega) only [up_row, up_col, fe]
        · refine WS_of eW' ?_ ?_ (fun i h0 h7 => ?_) (fun i h0 h7 => ?_) (fun i h0 h7 => ?_) (fun i h0 h7 => ?_) (fun i h0 h7 => ?_) (fun i h0 h7 => ?_) (fun i h0 h7 => ?_)
          · simp (disch := omega) only [up_row, up_col]
          · simp (disch := omega) only [up_row, up_col]
          · simp (disch := omega) only [up_row, up_col]; exact wd i h0 h7
          · simp (disch := omega) only [up_row, up_col]; exact wt i h0 h7
          · by_cases i1 : i = x
            · subst i1; simp (disch := omega) only [up_row, up_col, up_hit]; omega
            · simp (disch := omega) only [up_row, up_col]; exact ww i h0 h7
          · simp (disch := omega) only [up_row, up_col]
          · simp (disch := omega) only [up_row, up_col]; exact we i h0 h7
          · simp (disch := omega) only [up_row, up_col]; exact wr i h0 h7
          · simp (disch := omega) only [up_row, up_col]
        · simp (disch := omega) only [up_row, up_col]; exact eG
        · simp (disch := omega) only [up_row, up_col]; exact eG0
        · simp (disch := omega) only [up_row, up_col]; exact eG1
        · intro r a b c; simp (disch := omega) only [up_ne]; exact eX r a b c
        · intro j hj; simp (disch := omega) only [up_row, up_col]; exact eQ j hj
        · intro r a b; simp (disch := omega) only [up_ne]; exact eY r a b
        · intro j hj; simp (disch := omega) only [up_row, up_col]; exact eZ j hj
        · intro k hk; simp (disch := omega) only [up_row, up_col]; exact eK k hk
    · exact wp2_some ⟨rfl, rfl, ⟨f0, f1, fd, ft, fw, fh, fe⟩, eW', eG, eG0, eG1, eX, eQ, eY, eZ, eK⟩
  obtain ⟨⟨o1, o2⟩, ⟨p1, p2⟩, g1, g2, rfl, rfl, g3⟩ := key
  exact ⟨o2, p2, g1, g2, g3⟩
