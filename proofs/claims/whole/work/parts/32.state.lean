/-! a State of the class beside what the reference says -/
def SR (X : jMem) (q : Int) (σ : Int → Int) : Prop :=
  X q 0 = σ 1 ∧ X q 1 = σ 10 ∧ (∀ i, 0 ≤ i → i < 7 → X (q + 1) i = σ (11 + i)) ∧ (∀ i, 0 ≤ i → i < 7 → X (q + 2) i = σ (18 + i)) ∧ (∀ i, 0 ≤ i → i < 7 → X (q + 3) i = σ (25 + i)) ∧ (∀ i, 0 ≤ i → i < 7 → X (q + 4) i = σ (32 + i)) ∧ (∀ i, 0 ≤ i → i < 7 → X (q + 5) i = σ (39 + i))
def PK (X : jMem) (σ : Int → Int) : Prop := X 15 0 = σ 1 ∧ X 15 1 = σ 2 ∧ (∀ i, 0 ≤ i → i < 7 → X 20 i = σ (53 + i))
def WS (σ : Int → Int) : Prop :=
  (0 ≤ σ 1 ∧ σ 1 ≤ 7) ∧ (0 ≤ σ 2 ∧ σ 2 ≤ 9) ∧ (∀ i, 0 ≤ i → i < 7 → 0 ≤ σ (11 + i) ∧ σ (11 + i) ≤ 40) ∧ (∀ i, 0 ≤ i → i < 7 → 0 ≤ σ (18 + i) ∧ σ (18 + i) ≤ 60) ∧ (∀ i, 0 ≤ i → i < 7 → 0 ≤ σ (25 + i) ∧ σ (25 + i) ≤ 40) ∧
  (∀ i, 0 ≤ i → i < 7 → 0 ≤ σ (32 + i) ∧ σ (32 + i) < 7) ∧ (∀ i, 0 ≤ i → i < 7 → 0 ≤ σ (39 + i) ∧ σ (39 + i) ≤ 9) ∧ (∀ i, 0 ≤ i → i < 7 → 0 ≤ σ (46 + i) ∧ σ (46 + i) ≤ 5) ∧ (∀ i, 0 ≤ i → i < 7 → 0 ≤ σ (53 + i) ∧ σ (53 + i) < 128) ∧
  (∀ i, 0 ≤ i → i < σ 1 → σ (32 + i) < σ 1) ∧ (∀ i j, 0 ≤ i → i < σ 1 → 0 ≤ j → j < σ 1 → σ (32 + i) = σ (32 + j) → i = j) ∧ (∀ i, 0 ≤ i → i < 7 → σ (53 + i) / p2 i % 2 = 0) ∧ (∀ w, 0 ≤ w → w < σ 1 → ∃ f, 0 ≤ f ∧ f < σ 1 ∧ σ (32 + f) = w)
theorem canWed_ok {N : Nat} {X Y : jMem} {q a b : Int} (hS : SR X q (Y 10)) (hP : PK X (Y 10)) (hW : WS (Y 10)) (ha : 0 ≤ a ∧ a < Y 10 1) (hb : 0 ≤ b ∧ b < Y 10 1) : ∃ r, St_canWed N q a b X = some r ∧ m_canWed N a b Y = some r ∧ (r = 0 ∨ (r = 1 ∧ 0 < Y 10 (39 + a) ∧ 0 < Y 10 (39 + b) ∧ a ≠ b)) := by
  obtain ⟨f0, f1, fd, ft, fw, fh, fe⟩ := hS
  obtain ⟨k0, k1, kk⟩ := hP
  obtain ⟨w1, w2, wd, wt, ww, wh, we, wr, wk, wn, wi, wx, wj⟩ := hW
  have hk := wk a (by omega) (by omega)
  have hv := shr_ok (s := Y 10 (53 + a)) (k := b) hk.1 (by omega) (by omega) (by omega)
  have hab : a = b → jand (jshr (Y 10 (53 + a)) b) 1 = 0 := fun h => by rw [hv, ← h]; exact wx a (by omega) (by omega)
  generalize hvv : jand (jshr (Y 10 (53 + a)) b) 1 = v at hv hab
  have hv01 : v = 0 ∨ v = 1 := by omega
  have e1 : Pa_areKin N 15 a b X = some v := by
    unfold Pa_areKin
    rw [jchk_pos (by omega), show (15 : Int) + 5 = 20 from rfl, kk a (by omega) (by omega), hvv]
    rcases hv01 with rfl | rfl <;> rfl
  have e2 : m_isKin N a b Y = some v := by
    unfold m_isKin m_isOf
    rw [w32_id (by omega), jchk_pos (by omega), hvv]
    rcases hv01 with rfl | rfl <;> rfl
  have e3 : m_isOne N a Y = some 1 := by
    unfold m_isOne; rw [if_neg (by omega), if_pos (by omega)]
  have e4 : m_isOne N b Y = some 1 := by
    unfold m_isOne; rw [if_neg (by omega), if_pos (by omega)]
  unfold St_canWed m_canWed
  rw [e1, e2, e3, e4]
  simp only [Option.bind_some]
  rw [if_neg (show ¬ (1 : Int) = 0 by decide), if_neg (show ¬ (1 : Int) = 0 by decide), w32_id (x := 39 + a) (by omega), w32_id (x := 39 + b) (by omega), fe a (by omega) (by omega), fe b (by omega) (by omega)]
  rw [jchk_pos (by omega), jchk_pos (by omega), jchk_pos (by omega), jchk_pos (by omega)]
  by_cases hv0 : v = 0
  · rw [if_pos hv0]; exact ⟨0, rfl, rfl, Or.inl rfl⟩
  · rw [if_neg hv0]
    by_cases h1 : 0 < Y 10 (39 + a)
    · rw [if_pos h1]
      by_cases h2 : 0 < Y 10 (39 + b)
      · rw [if_pos h2]; exact ⟨1, rfl, rfl, Or.inr ⟨rfl, h1, h2, fun h => hv0 (hab h)⟩⟩
      · rw [if_neg h2]; exact ⟨0, rfl, rfl, Or.inl rfl⟩
    · rw [if_neg h1]; exact ⟨0, rfl, rfl, Or.inl rfl⟩
/-- what a year leaves as it was: in the class, in the reference -/
def FX (q : Int) (X X' : jMem) : Prop := (∀ r, r < q ∨ q + 5 < r → X' r = X r) ∧ (∀ j, j ≠ 1 → X' q j = X q j)
def FY (Y Y' : jMem) : Prop := (∀ r, r ≠ 10 → Y' r = Y r) ∧ (∀ k, k < 10 ∨ 46 ≤ k → Y' 10 k = Y 10 k)
theorem marry_ok {N : Nat} {X Y : jMem} {q a b : Int} (hS : SR X q (Y 10)) (hW : WS (Y 10)) (ha : 0 ≤ a ∧ a < Y 10 1) (hb : 0 ≤ b ∧ b < Y 10 1) (hab : a ≠ b) (h1 : 0 < Y 10 (39 + a)) (h2 : 0 < Y 10 (39 + b)) :
    ∃ X' Y', St_marry N q a b X = some (0, X') ∧ m_weds N a b Y = some (0, Y') ∧ SR X' q (Y' 10) ∧ WS (Y' 10) ∧ FX q X X' ∧ FY Y Y' ∧ Y' 10 10 = Y 10 10 := by
  obtain ⟨f0, f1, fd, ft, fw, fh, fe⟩ := hS
  obtain ⟨w1, w2, wd, wt, ww, wh, we, wr, wk, wn, wi, wx, wj⟩ := hW
  have ea := wh a (by omega) (by omega)
  have eb := wh b (by omega) (by omega)
  have hne : Y 10 (32 + a) ≠ Y 10 (32 + b) := fun h => hab (wi a b ha.1 ha.2 hb.1 hb.2 h)
  have ga := wn a ha.1 ha.2
  have gb := wn b hb.1 hb.2
  have hha := fh a (by omega) (by omega)
  have hhb := fh b (by omega) (by omega)
  generalize hs1 : Y 10 (32 + a) = s at *
  generalize ht1 : Y 10 (32 + b) = t at *
  have hts := wt s ea.1 ea.2
  have htt := wt t eb.1 eb.2
  have hxs := ft s ea.1 ea.2
  have hxt := ft t eb.1 eb.2
  have hea := fe a (by omega) (by omega)
  have heb := fe b (by omega) (by omega)
  have hla := we a (by omega) (by omega)
  have hlb := we b (by omega) (by omega)
  generalize hu : Y 10 (18 + s) = u at *
  generalize hv : Y 10 (18 + t) = v at *
  have e1 := td3 (v - u)
  have e2 := td3 (u - v)
  generalize hd : (v - u).tdiv 3 = d at *
  generalize hd' : (u - v).tdiv 3 = d' at *
  have hdd : d' = -d := by
    by_cases h0 : 0 ≤ v - u
    · rw [if_pos h0] at e1
      by_cases h00 : 0 ≤ u - v
      · rw [if_pos h00] at e2; omega
      · rw [if_neg h00] at e2; omega
    · rw [if_neg h0] at e1
      rw [if_pos (by omega)] at e2; omega
  have hdr : -20 ≤ d ∧ d ≤ 20 ∧ 0 ≤ u + d ∧ u + d ≤ 60 ∧ 0 ≤ v - d ∧ v - d ≤ 60 := by
    by_cases h0 : 0 ≤ v - u
    · rw [if_pos h0] at e1; omega
    · rw [if_neg h0] at e1; omega
  refine ⟨_, _, by
    unfold St_marry jlt
    simp (disch := omega) only [hha, hhb, hxs, hxt, jchk_pos, w32_id, hd, hd', up_hit, up_row, up_col, hea, heb]
    rfl, by
    unfold m_weds jlt
    simp (disch := omega) only [hs1, ht1, hu, hv, jchk_pos, w32_id, hd, up_hit, up_row, up_col]
    rfl, ?_, ?_, ?_, ?_, ?_⟩
  · refine ⟨?_, ?_, fun i h0 h7 => ?_, fun i h0 h7 => ?_, fun i h0 h7 => ?_, fun i h0 h7 => ?_, fun i h0 h7 => ?_⟩
    · simp (disch := omega) only [up_row, up_col, f0]
    · simp (disch := omega) only [up_row, up_col, f1]
    · simp (disch := omega) only [up_row, up_col, fd]
    · by_cases i1 : i = s
      · subst i1; simp (disch := omega) only [up_row, up_col, up_hit]
      · by_cases i2 : i = t
        · subst i2; simp (disch := omega) only [up_row, up_col, up_hit]; omega
        · simp (disch := omega) only [up_row, up_col, ft]
    · simp (disch := omega) only [up_row, up_col, fw]
    · by_cases i1 : i = a
      · subst i1; simp (disch := omega) only [up_row, up_col, up_hit]
      · by_cases i2 : i = b
        · subst i2; simp (disch := omega) only [up_row, up_col, up_hit]
        · simp (disch := omega) only [up_row, up_col, fh]
    · by_cases i1 : i = a
      · subst i1; simp (disch := omega) only [up_row, up_col, up_hit]
      · by_cases i2 : i = b
        · subst i2; simp (disch := omega) only [up_row, up_col, up_hit]
        · simp (disch := omega) only [up_row, up_col, fe]
  · refine ⟨?_, ?_, fun i h0 h7 => ?_, fun i h0 h7 => ?_, fun i h0 h7 => ?_, fun i h0 h7 => ?_, fun i h0 h7 => ?_, fun i h0 h7 => ?_, fun i h0 h7 => ?_, fun i h0 h7 => ?_, fun i j h0 h7 g0 g7 => ?_, fun i h0 h7 => ?_, fun w h0 h7 => ?_⟩
    · simp (disch := omega) only [up_row, up_col]; exact w1
    · simp (disch := omega) only [up_row, up_col]; exact w2
    · simp (disch := omega) only [up_row, up_col]; exact wd i h0 h7
    · by_cases i1 : i = s
      · subst i1; simp (disch := omega) only [up_row, up_col, up_hit]; omega
      · by_cases i2 : i = t
        · subst i2; simp (disch := omega) only [up_row, up_col, up_hit]; omega
        · simp (disch := omega) only [up_row, up_col]; exact wt i h0 h7
    · simp (disch := omega) only [up_row, up_col]; exact ww i h0 h7
    · by_cases i1 : i = a
      · subst i1; simp (disch := omega) only [up_row, up_col, up_hit]; omega
      · by_cases i2 : i = b
        · subst i2; simp (disch := omega) only [up_row, up_col, up_hit]; omega
        · simp (disch := omega) only [up_row, up_col]; exact wh i h0 h7
    · by_cases i1 : i = a
      · subst i1; simp (disch := omega) only [up_row, up_col, up_hit]; omega
      · by_cases i2 : i = b
        · subst i2; simp (disch := omega) only [up_row, up_col, up_hit]; omega
        · simp (disch := omega) only [up_row, up_col]; exact we i h0 h7
    · simp (disch := omega) only [up_row, up_col]; exact wr i h0 h7
    · simp (disch := omega) only [up_row, up_col]; exact wk i h0 h7
    · simp (disch := omega) only [up_row, up_col] at h7 ⊢
      by_cases i1 : i = a
      · subst i1; simp (disch := omega) only [up_row, up_col, up_hit]; omega
      · by_cases i2 : i = b
        · subst i2; simp (disch := omega) only [up_row, up_col, up_hit]; omega
        · simp (disch := omega) only [up_row, up_col]; exact wn i h0 h7
    · simp (disch := omega) only [up_row, up_col] at h7 g7
      have key : ∀ i, 0 ≤ i → i < 7 → up (up (up (up (up (up Y 10 (18 + s) (u + d)) 10 (18 + t) (v - d)) 10 (32 + a) t) 10 (32 + b) s) 10 (39 + a) (Y 10 (39 + a) - 1)) 10 (39 + b) (Y 10 (39 + b) - 1) 10 (32 + i) = if i = a then t else if i = b then s else Y 10 (32 + i) := by
        intro i h0 h7
        by_cases i1 : i = a
        · subst i1; rw [if_pos rfl]; simp (disch := omega) only [up_row, up_col, up_hit]
        · rw [if_neg i1]
          by_cases i2 : i = b
          · subst i2; rw [if_pos rfl]; simp (disch := omega) only [up_row, up_col, up_hit]
          · rw [if_neg i2]; simp (disch := omega) only [up_row, up_col]
      intro he
      rw [key i h0 (by omega), key j g0 (by omega)] at he
      have z1 := wi i j h0 h7 g0 g7
      have z2 := wi i a h0 h7 ha.1 ha.2
      have z3 := wi i b h0 h7 hb.1 hb.2
      have z4 := wi j a g0 g7 ha.1 ha.2
      have z5 := wi j b g0 g7 hb.1 hb.2
      rw [hs1] at z2 z4
      rw [ht1] at z3 z5
      by_cases i1 : i = a
      · rw [if_pos i1] at he
        by_cases j1 : j = a
        · omega
        · rw [if_neg j1] at he
          by_cases j2 : j = b
          · rw [if_pos j2] at he; omega
          · rw [if_neg j2] at he; omega
      · rw [if_neg i1] at he
        by_cases i2 : i = b
        · rw [if_pos i2] at he
          by_cases j1 : j = a
          · rw [if_pos j1] at he; omega
          · rw [if_neg j1] at he
            by_cases j2 : j = b
            · omega
            · rw [if_neg j2] at he; omega
        · rw [if_neg i2] at he
          by_cases j1 : j = a
          · rw [if_pos j1] at he; omega
          · rw [if_neg j1] at he
            by_cases j2 : j = b
            · rw [if_pos j2] at he; omega
            · rw [if_neg j2] at he; exact z1 he
    · simp (disch := omega) only [up_row, up_col]; exact wx i h0 h7
    · simp (disch := omega) only [up_row, up_col] at h7 ⊢
      obtain ⟨f, g1, g2, g3⟩ := wj w h0 h7
      by_cases f1 : f = a
      · refine ⟨b, hb.1, hb.2, ?_⟩
        subst f1; simp (disch := omega) only [up_row, up_col, up_hit]; omega
      · by_cases f2 : f = b
        · refine ⟨a, ha.1, ha.2, ?_⟩
          subst f2; simp (disch := omega) only [up_row, up_col, up_hit]; omega
        · refine ⟨f, g1, g2, ?_⟩
          simp (disch := omega) only [up_row, up_col]; exact g3
  · refine ⟨fun r hr => ?_, fun j hj => ?_⟩
    · simp (disch := omega) only [up_ne]
    · simp (disch := omega) only [up_row]
  · refine ⟨fun r hr => ?_, fun k hk => ?_⟩
    · simp (disch := omega) only [up_ne]
    · simp (disch := omega) only [up_col]
  · simp (disch := omega) only [up_col]
