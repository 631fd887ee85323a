/-! a RULE's code run on both sides -/
theorem push_ok {N : Nat} {M : jMem} {v k : Int} (hk : M 0 18 = k) (h0 : 0 ≤ k) (h1 : k < 64) : m_push N v M = some (0, up (up M 8 k v) 0 18 (k + 1)) := by
  unfold m_push jlt
  rw [hk, jchk_pos (by omega)]
  simp (disch := omega) only [up_row, hk, w32_id]
theorem pop_ok {N : Nat} {M : jMem} {k : Int} (hk : M 0 18 = k) (h0 : 1 ≤ k) (h1 : k ≤ 64) : m_pop N M = some (M 8 (k - 1), up M 0 18 (k - 1)) := by
  unfold m_pop jlt
  rw [hk, w32_id (by omega)]
  simp (disch := omega) only [up_hit, up_row, jchk_pos]
theorem tyF_step {code : Int → Int} {i b : Int} {ts : List Bool} {z : List Bool} (hi : i < b) (h : tyF code (b - i).toNat i ts = some z) : ∃ ts', tyS (code i) ts = some ts' ∧ tyF code (b - (i + 1)).toNat (i + 1) ts' = some z := by
  have e : (b - i).toNat = (b - (i + 1)).toNat + 1 := by omega
  rw [e] at h
  unfold tyF at h
  cases hs : tyS (code i) ts with
  | none => rw [hs] at h; cases h
  | some ts' => rw [hs] at h; exact ⟨ts', rfl, h⟩
theorem logic01 {u v : Int} (hu : u = 0 ∨ u = 1) (hv : v = 0 ∨ v = 1) : (jlor u v = 0 ∨ jlor u v = 1) ∧ (jlan u v = 0 ∨ jlan u v = 1) := by
  rcases hu with rfl | rfl <;> rcases hv with rfl | rfl <;> decide
theorem run_ok {N : Nat} (hN : 1000 ≤ N) {X Y : jMem} {q a b a3 r : Int} {t : Bool} (hr : 0 ≤ r ∧ r < 6) (hab : 0 ≤ a ∧ a ≤ b ∧ b ≤ 400) (hc : ∀ i, a ≤ i → i < b → CR (X (q + 1) i) (Y 2 (400 * r + i))) (hty : tyF (X (q + 1)) (b - a).toNat a [] = some [t]) (hwd : ∀ k, 0 ≤ k → k < 12 → X a3 k = Y 9 k) (h3 : a3 ≠ q + 5) :
    ∃ v X' Y', Ru_run N q a b a3 X = some (v, X') ∧ m_reckons N r a b Y = some (v, Y') ∧ (t = true → v = 0 ∨ v = 1) ∧ (∀ p, p ≠ q + 5 → X' p = X p) ∧ (∀ p, p ≠ 0 → p ≠ 8 → Y' p = Y p) ∧ (∀ j, j ≠ 18 → Y' 0 j = Y 0 j) := by
  have key : wp2 (Ru_run N q a b a3 X) (m_reckons N r a b Y) (fun o o' => o.1 = o'.1 ∧ (t = true → o.1 = 0 ∨ o.1 = 1) ∧ (∀ p, p ≠ q + 5 → o.2 p = X p) ∧ (∀ p, p ≠ 0 → p ≠ 8 → o'.2 p = Y p) ∧ (∀ j, j ≠ 18 → o'.2 0 j = Y 0 j)) := by
    unfold Ru_run m_reckons jlt
    have i4 : ∀ j, j ≠ 18 → up Y 0 18 0 0 j = Y 0 j := fun j hj => up_col hj
    have i3 : ∀ p, p ≠ 0 → p ≠ 8 → up Y 0 18 0 p = Y p := fun p h _ => up_ne h
    have i5 : up Y 0 18 0 0 18 = (([] : List Bool).length : Int) := up_hit rfl rfl
    refine wp2_fix (fun z : Int × Int × jMem => (b - z.2.1).toNat) (fun z z' => z'.1 = z.2.1 ∧ a ≤ z.2.1 ∧ z.2.1 ≤ b ∧ ∃ ts : List Bool, z.1 = (ts.length : Int) ∧ z'.2 0 18 = (ts.length : Int) ∧ ts.length ≤ 40 ∧ (∀ k, 0 ≤ k → k < (ts.length : Int) → z.2.2 (q + 5) k = z'.2 8 k) ∧ TS (z'.2 8) ts ∧ tyF (X (q + 1)) (b - z.2.1).toNat z.2.1 ts = some [t] ∧
      (∀ p, p ≠ q + 5 → z.2.2 p = X p) ∧ (∀ p, p ≠ 0 → p ≠ 8 → z'.2 p = Y p) ∧ (∀ j, j ≠ 18 → z'.2 0 j = Y 0 j)) ?_ N N (0, a, X) (a, up Y 0 18 0) ⟨rfl, Int.le_refl _, hab.2.1, [], rfl, i5, by decide, fun k h0 h1 => by simp at h1; omega, trivial, hty, fun p _ => rfl, i3, i4⟩ (by show (b - a).toNat < N; omega) (by show (b - a).toNat < N; omega)
    rintro h h' ⟨x, i, A⟩ ⟨i', B⟩ ⟨e1, e2, e3, ts, e4, e5, e6, eV, eT, eF, eX, eY, eZ⟩ ih
    dsimp only at e1 e2 e3 e4 e5 eV eT eF eX eY eZ ih
    subst e1
    unfold Ru_run_L6 m_reckons_L8
    refine wp2_ite Iff.rfl (fun hx => ?_) (fun hx => ?_)
    · obtain ⟨ts', t1, t2⟩ := tyF_step hx eF
      have hcr := hc i' e2 hx
      have hAc : A (q + 1) = X (q + 1) := eX (q + 1) (by omega)
      have hBs : B 2 = Y 2 := eY 2 (by decide) (by decide)
      have hB9 : B 9 = Y 9 := eY 9 (by decide) (by decide)
      have hA3 : A a3 = X a3 := eX a3 h3
      rw [hAc, hBs]
      generalize hcc : X (q + 1) i' = c at *
      unfold jlt
      dsimp only
      rw [w32_id (x := 400 * r) (by omega), w32_id (x := 400 * r + i') (by omega), jchk_pos (show 0 ≤ i' ∧ i' < 400 by omega), jchk_pos (show 0 ≤ 400 * r + i' ∧ 400 * r + i' < 2400 by omega), jchk_pos (show 0 ≤ 400 * r + i' ∧ 400 * r + i' < 2400 by omega)]
      generalize hss : Y 2 (400 * r + i') = s at *
      subst e4
      have push : ∀ v, tyS c ts = some (false :: ts) → ts.length < 40 → wp2 (h ((ts.length : Int) + 1, i' + 1, up A (q + 5) (ts.length : Int) v)) (h' (i' + 1, up (up B 8 (ts.length : Int) v) 0 18 ((ts.length : Int) + 1))) (fun o o' => o.1 = o'.1 ∧ (t = true → o.1 = 0 ∨ o.1 = 1) ∧ (∀ p, p ≠ q + 5 → o.2 p = X p) ∧ (∀ p, p ≠ 0 → p ≠ 8 → o'.2 p = Y p) ∧ (∀ j, j ≠ 18 → o'.2 0 j = Y 0 j)) := by
        intro v hv hl
        rw [hv] at t1
        cases t1
        refine ih _ _ ⟨rfl, by show a ≤ i' + 1; omega, by show i' + 1 ≤ b; omega, false :: ts, by simp, ?_, by simp; omega, fun k h0 h1 => ?_, ?_, t2, fun p hp => ?_, fun p h0 h1 => ?_, fun j hj => ?_⟩ (by show (b - (i' + 1)).toNat < (b - i').toNat; omega)
        · show up (up B 8 (ts.length : Int) v) 0 18 ((ts.length : Int) + 1) 0 18 = ((false :: ts).length : Int)
          rw [up_hit rfl rfl]; simp
        · simp only [List.length_cons] at h1
          show up A (q + 5) (ts.length : Int) v (q + 5) k = up (up B 8 (ts.length : Int) v) 0 18 ((ts.length : Int) + 1) 8 k
          by_cases hk : k = (ts.length : Int)
          · simp (disch := omega) only [up_hit, up_row]
          · simp (disch := omega) only [up_col, up_row]; exact eV k h0 (by omega)
        · refine ⟨(fun hf => by cases hf), TS_congr (fun k h0 h1 => ?_) eT⟩
          show up (up B 8 (ts.length : Int) v) 0 18 ((ts.length : Int) + 1) 8 k = B 8 k
          simp (disch := omega) only [up_col, up_row]
        · show up A (q + 5) (ts.length : Int) v p = X p
          rw [up_ne hp]; exact eX p hp
        · show up (up B 8 (ts.length : Int) v) 0 18 ((ts.length : Int) + 1) p = Y p
          rw [up_ne h0, up_ne h1]; exact eY p h0 h1
        · show up (up B 8 (ts.length : Int) v) 0 18 ((ts.length : Int) + 1) 0 j = Y 0 j
          rw [up_col hj, up_row (by decide)]; exact eZ j hj
      have fin : ∀ (w : Int) (tt : Bool) (l : List Bool) (B' : jMem), tyS c ts = some (tt :: l) → l.length < ts.length → (tt = true → w = 0 ∨ w = 1) → TS (B 8) l → B' 0 18 = (l.length : Int) + 1 → B' 8 (l.length : Int) = w → (∀ k, 0 ≤ k → k < (l.length : Int) → B' 8 k = B 8 k) → (∀ p, p ≠ 0 → p ≠ 8 → B' p = B p) → (∀ j, j ≠ 18 → B' 0 j = B 0 j) →
          wp2 (h ((l.length : Int) + 1, i' + 1, up A (q + 5) (l.length : Int) w)) (h' (i' + 1, B')) (fun o o' => o.1 = o'.1 ∧ (t = true → o.1 = 0 ∨ o.1 = 1) ∧ (∀ p, p ≠ q + 5 → o.2 p = X p) ∧ (∀ p, p ≠ 0 → p ≠ 8 → o'.2 p = Y p) ∧ (∀ j, j ≠ 18 → o'.2 0 j = Y 0 j)) := by
        intro w tt l B' hv hl hw hT b1 b2 b3 b4 b5
        rw [hv] at t1
        cases t1
        refine ih _ _ ⟨rfl, by show a ≤ i' + 1; omega, by show i' + 1 ≤ b; omega, tt :: l, by simp, by show B' 0 18 = _; rw [b1]; simp, by simp; omega, fun k h0 h1 => ?_, ⟨fun ht => ?_, TS_congr b3 hT⟩, t2, fun p hp => ?_, fun p h0 h1 => ?_, fun j hj => ?_⟩ (by show (b - (i' + 1)).toNat < (b - i').toNat; omega)
        · simp only [List.length_cons] at h1
          show up A (q + 5) (l.length : Int) w (q + 5) k = B' 8 k
          by_cases hk : k = (l.length : Int)
          · subst hk; rw [up_hit rfl rfl, b2]
          · rw [up_col hk, b3 k h0 (by omega)]; exact eV k h0 (by omega)
        · show B' 8 (l.length : Int) = 0 ∨ B' 8 (l.length : Int) = 1
          rw [b2]; exact hw ht
        · show up A (q + 5) (l.length : Int) w p = X p
          rw [up_ne hp]; exact eX p hp
        · show B' p = Y p
          rw [b4 p h0 h1]; exact eY p h0 h1
        · show B' 0 j = Y 0 j
          rw [b5 j hj]; exact eZ j hj
      rcases hcr with ⟨c1, c2, c3⟩ | ⟨c1, c2, c3⟩ | hcr
      · -- a number
        have hl : ts.length < 40 := by
          unfold tyS at t1
          rw [if_pos (Or.inl c1)] at t1
          by_cases hl : ts.length < 40
          · exact hl
          · rw [if_neg hl] at t1; cases t1
        have hty1 : tyS c ts = some (false :: ts) := by unfold tyS; rw [if_pos (Or.inl c1), if_pos hl]
        rw [and15 (by omega) (by omega), shr4 (by omega) (by omega), if_pos (show s % 16 = 0 by omega)]
        rw [w32_id (x := -c) (by omega), if_neg (show ¬ 25 < -c by omega), if_neg (show ¬ 0 < -c by omega), if_pos (show (ts.length : Int) < 40 by omega), if_neg (show ¬ 0 < -c by omega)]
        rw [w32_id (x := - -c) (by omega), jchk_pos (show 0 ≤ (ts.length : Int) ∧ (ts.length : Int) < 40 by omega), w32_id (x := (ts.length : Int) + 1) (by omega), w32_id (x := i' + 1) (by omega)]
        rw [show s / 16 = c by omega, push_ok e5 (by omega) (by omega), Int.neg_neg]
        exact push c hty1 hl
      · -- a word
        have hl : ts.length < 40 := by
          unfold tyS at t1
          rw [if_pos (Or.inr (by omega))] at t1
          by_cases hl : ts.length < 40
          · exact hl
          · rw [if_neg hl] at t1; cases t1
        have hty1 : tyS c ts = some (false :: ts) := by unfold tyS; rw [if_pos (Or.inr (by omega)), if_pos hl]
        rw [and15 (by omega) (by omega), shr4 (by omega) (by omega), if_neg (show ¬ s % 16 = 0 by omega), if_pos (show s % 16 = 1 by omega)]
        rw [w32_id (x := -c) (by omega), if_pos (show 25 < -c by omega), if_pos (show (ts.length : Int) < 40 by omega), if_pos (show 0 < -c by omega)]
        rw [w32_id (x := -c - 26) (by omega), jchk_pos (by omega), jchk_pos (by omega), w32_id (x := (ts.length : Int) + 1) (by omega), w32_id (x := i' + 1) (by omega)]
        rw [jchk_pos (show 0 ≤ s / 16 ∧ s / 16 < 12 by omega), push_ok e5 (by omega) (by omega), hA3, hB9, show s / 16 = -c - 26 by omega, hwd (-c - 26) (by omega) (by omega)]
        exact push _ hty1 hl
      · rcases hcr with ⟨rfl, rfl⟩ | hcr
        · -- not
          unfold tyS at t1
          rw [if_neg (by omega), if_pos rfl] at t1
          match ts, t1, e5, e6, eV, eT, push, fin with
          | true :: l, t1, e5, e6, eV, eT, push, fin =>
            have hty1 : tyS (-25) (true :: l) = some (true :: l) := rfl
            simp only [List.length_cons] at e5 e6 eV
            have hlen : (((true :: l).length : Nat) : Int) = (l.length : Int) + 1 := by simp
            have hval := eT.1 rfl
            have hAv := eV (l.length : Int) (by omega) (by omega)
            rw [hlen]
            rw [and15 (by decide) (by decide), if_neg (show ¬ (11 : Int) % 16 = 0 by decide), if_neg (show ¬ (11 : Int) % 16 = 1 by decide), if_pos (show (11 : Int) % 16 = 11 by decide)]
            rw [w32_id (x := - (-25 : Int)) (by decide), if_neg (show ¬ 25 < - (-25 : Int) by decide), if_pos (show 0 < - (-25 : Int) by decide), if_pos (show - (-25 : Int) = 25 by decide), if_neg (show ¬ (l.length : Int) + 1 < 1 by omega)]
            rw [pop_ok (k := (l.length : Int) + 1) (by rw [e5]; omega) (by omega) (by omega), show (l.length : Int) + 1 - 1 = (l.length : Int) by omega, w32_id (x := (l.length : Int)) (by omega), jchk_pos (show 0 ≤ (l.length : Int) ∧ (l.length : Int) < 40 by omega), w32_id (x := i' + 1) (by omega)]
            rw [hAv]
            have hu : (if jcmp (B 8 (l.length : Int)) 0 = 0 then (1 : Int) else 0) = w64 (1 - B 8 (l.length : Int)) := by
              rcases hval with hz | hz
              · rw [hz]; decide
              · rw [hz]; decide
            have hsp : (if jcmp (B 8 (l.length : Int)) 0 = 0 then jchk (0 ≤ (l.length : Int) ∧ (l.length : Int) < 40) (h ((l.length : Int) + 1, i' + 1, up A (q + 5) (l.length : Int) 1)) else jchk (0 ≤ (l.length : Int) ∧ (l.length : Int) < 40) (h ((l.length : Int) + 1, i' + 1, up A (q + 5) (l.length : Int) 0))) = h ((l.length : Int) + 1, i' + 1, up A (q + 5) (l.length : Int) (w64 (1 - B 8 (l.length : Int)))) := by
              rw [jchk_pos (show 0 ≤ (l.length : Int) ∧ (l.length : Int) < 40 by omega), jchk_pos (show 0 ≤ (l.length : Int) ∧ (l.length : Int) < 40 by omega), ← hu]
              split <;> rfl
            rw [hsp]
            unfold jb1 jbv
            rw [Option.bind_some]
            dsimp only
            rw [push_ok (k := (l.length : Int)) (up_hit rfl rfl) (by omega) (by omega), Option.bind_some]
            dsimp only
            refine fin (w64 (1 - B 8 (l.length : Int))) true l _ hty1 (by simp) (fun _ => ?_) eT.2 (up_hit rfl rfl) ?_ (fun k h0 h1 => ?_) (fun p h0 h1 => ?_) (fun j hj => ?_)
            · rcases hval with hz | hz
              · rw [hz]; decide
              · rw [hz]; decide
            · rw [up_row (by decide), up_hit rfl rfl]
            · simp (disch := omega) only [up_row, up_col]
            · rw [up_ne h0, up_ne h1, up_ne h0]
            · rw [up_col hj, up_row (by decide), up_col hj]
        · -- two values make one
          have hcs : -24 ≤ c ∧ c ≤ -7 ∧ 2 ≤ s ∧ s ≤ 14 ∧ s ≠ 11 ∧ ¬ c = -25 := by rcases hcr with h | h | h | h | h | h | h | h | h | h | h | h <;> omega
          have htwo : ∃ (t1' t2' tt : Bool) (l : List Bool), ts = t1' :: t2' :: l ∧ ts' = tt :: l ∧ (tt = true → (-16 ≤ c ∧ c ≤ -12) ∨ (t1' = true ∧ t2' = true ∧ (c = -23 ∨ c = -24))) := by
            unfold tyS at t1
            rw [if_neg (by omega), if_neg (by omega)] at t1
            by_cases h11 : -11 ≤ c
            · rw [if_pos h11] at t1
              match ts, t1 with
              | false :: false :: l, t1 => cases t1; exact ⟨_, _, _, l, rfl, rfl, fun h => by cases h⟩
            · rw [if_neg h11] at t1
              by_cases h16 : -16 ≤ c
              · rw [if_pos h16] at t1
                match ts, t1 with
                | false :: false :: l, t1 => cases t1; exact ⟨_, _, _, l, rfl, rfl, fun _ => Or.inl ⟨h16, by omega⟩⟩
              · rw [if_neg h16] at t1
                match ts, t1 with
                | true :: true :: l, t1 => cases t1; exact ⟨_, _, _, l, rfl, rfl, fun _ => Or.inr ⟨rfl, rfl, by rcases hcr with h | h | h | h | h | h | h | h | h | h | h | h <;> omega⟩⟩
          obtain ⟨t1', t2', tt, l, rfl, rfl, htt⟩ := htwo
          have hlen : (((t1' :: t2' :: l).length : Nat) : Int) = (l.length : Int) + 2 := by simp only [List.length_cons]; omega
          rw [hlen] at e5 eV
          have e6' : l.length + 2 ≤ 40 := by simp only [List.length_cons] at e6; omega
          have hA0 := eV (l.length : Int) (by omega) (by omega)
          have hA1 := eV ((l.length : Int) + 1) (by omega) (by omega)
          obtain ⟨r0, r1, r2, r3⟩ := comb_ok (N := N) (u := B 8 (l.length : Int)) (v := B 8 ((l.length : Int) + 1)) (A := A) (B := up (up B 0 18 ((l.length : Int) + 1)) 0 18 (l.length : Int)) hcr
          rw [hlen]
          rw [and15 (by omega) (by omega), show s % 16 = s by omega, if_neg (show ¬ s = 0 by omega), if_neg (show ¬ s = 1 by omega), if_neg (show ¬ s = 11 by omega)]
          rw [w32_id (x := -c) (by omega), if_neg (show ¬ 25 < -c by omega), if_pos (show 0 < -c by omega), if_neg (show ¬ -c = 25 by omega), if_neg (show ¬ (l.length : Int) + 2 < 2 by omega)]
          rw [w32_id (x := (l.length : Int) + 2 + -1) (by omega), w32_id (x := (l.length : Int) + 2 + -1 - 1) (by omega), show (l.length : Int) + 2 + -1 - 1 = (l.length : Int) by omega, show (l.length : Int) + 2 + -1 = (l.length : Int) + 1 by omega]
          rw [jchk_pos (show 0 ≤ (l.length : Int) ∧ (l.length : Int) < 40 by omega), jchk_pos (show 0 ≤ (l.length : Int) + 1 ∧ (l.length : Int) + 1 < 40 by omega), hA0, hA1, r1, Option.bind_some, jchk_pos (show 0 ≤ (l.length : Int) ∧ (l.length : Int) < 40 by omega), w32_id (x := i' + 1) (by omega)]
          rw [pop_ok (k := (l.length : Int) + 2) e5 (by omega) (by omega), show (l.length : Int) + 2 - 1 = (l.length : Int) + 1 by omega]
          unfold jb1 jbv
          rw [Option.bind_some]
          dsimp only
          rw [pop_ok (k := (l.length : Int) + 1) (up_hit rfl rfl) (by omega) (by omega), show (l.length : Int) + 1 - 1 = (l.length : Int) by omega, Option.bind_some]
          dsimp only
          rw [up_row (show (8 : Int) ≠ 0 by decide), r2, Option.bind_some, push_ok (k := (l.length : Int)) (up_hit rfl rfl) (by omega) (by omega), Option.bind_some]
          dsimp only
          refine fin r0 tt l _ t1 (by simp only [List.length_cons]; omega) (fun ht => ?_) eT.2.2 (up_hit rfl rfl) ?_ (fun k h0 h1 => ?_) (fun p h0 h1 => ?_) (fun j hj => ?_)
          · rcases htt ht with h | ⟨h1, h2, h3⟩
            · exact r3 h.2 h.1
            · have z1 : B 8 ((l.length : Int) + 1) = 0 ∨ B 8 ((l.length : Int) + 1) = 1 := by
                have z := eT.1 h1
                have e9 : (((t2' :: l).length : Nat) : Int) = (l.length : Int) + 1 := by simp
                rw [e9] at z; exact z
              have z2 := eT.2.1 h2
              have z3 := logic01 z2 z1
              rcases h3 with rfl | rfl
              · have e9 : Ru_combine N (- -23) (B 8 (l.length : Int)) (B 8 ((l.length : Int) + 1)) A = some (jlor (B 8 (l.length : Int)) (B 8 ((l.length : Int) + 1))) := rfl
                rw [e9] at r1
                cases r1; exact z3.1
              · have e9 : Ru_combine N (- -24) (B 8 (l.length : Int)) (B 8 ((l.length : Int) + 1)) A = some (jlan (B 8 (l.length : Int)) (B 8 ((l.length : Int) + 1))) := rfl
                rw [e9] at r1
                cases r1; exact z3.2
          · rw [up_row (by decide), up_hit rfl rfl]
          · simp (disch := omega) only [up_row, up_col]
          · rw [up_ne h0, up_ne h1, up_ne h0, up_ne h0]
          · rw [up_col hj, up_row (by decide), up_col hj, up_col hj]
    · have hib : i' = b := by omega
      subst hib
      rw [show (i' - i').toNat = 0 by omega] at eF
      have hts : ts = [t] := by unfold tyF at eF; exact Option.some.inj eF
      subst hts
      have e4' : x = 1 := e4
      have e5' : B 0 18 = 1 := e5
      have hv := eV 0 (by decide) (by simp)
      rw [if_pos e4', pop_ok e5' (by decide) (by decide)]
      refine wp2_some ⟨?_, fun ht => ?_, eX, fun p h0 h1 => ?_, fun j hj => ?_⟩
      · exact hv
      · show A (q + 5) 0 = 0 ∨ A (q + 5) 0 = 1
        rw [hv]; exact eT.1 ht
      · show up B 0 18 (1 - 1) p = Y p
        rw [up_ne h0]; exact eY p h0 h1
      · show up B 0 18 (1 - 1) 0 j = Y 0 j
        rw [up_col hj]; exact eZ j hj
  obtain ⟨⟨o1, o2⟩, ⟨p1, p2⟩, g1, g2, g3, g4, g5⟩ := key
  dsimp only at g3 g4 g5
  subst g3
  exact ⟨o1, o2, p2, g1, g2, g4, g5⟩
