/-! foresight: years in a trial, and all laid back -/
theorem wp2_fixR {σ τ α β : Type} {b1 : (σ → Option α) → σ → Option α} {b2 : (τ → Option β) → τ → Option β} {Q : α → β → Prop} (c : Nat) (μ : σ → Nat) (I : σ → τ → Prop)
    (step : ∀ h1 m s t, I s t → c ≤ m → (∀ s' t', I s' t' → μ s' < μ s → wp2 (h1 s') (jfix m b2 t') Q) → wp2 (b1 h1 s) (b2 (jfix m b2) t) Q) : ∀ (n k : Nat) (s : σ) (t : τ), I s t → μ s < n → μ s + c < k → wp2 (jfix n b1 s) (jfix k b2 t) Q := by
  intro n
  induction n with
  | zero => intro k s t _ h; exact absurd h (Nat.not_lt_zero _)
  | succ n ih =>
    intro k s t hI h1 h2
    obtain ⟨m, rfl⟩ : ∃ m, k = m + 1 := ⟨k - 1, by omega⟩
    rw [jfix_s, jfix_s]
    exact step _ m s t hI (by omega) (fun s' t' hI' hm => ih m s' t' hI' (by omega) (by omega))
def FF (X Y X' Y' : jMem) : Prop := (∀ p, p < 157 ∨ 170 < p → ¬ Stk p → X' p = X p) ∧ (∀ p, p < 0 ∨ (0 < p ∧ p < 8) ∨ (11 < p ∧ p < 17) ∨ 20 < p → Y' p = Y p) ∧ (∀ j, j ≠ 18 → j ≠ 21 → j ≠ 24 → j ≠ 37 → Y' 0 j = Y 0 j) ∧ (∀ k, 0 ≤ k → k < 36 → Y' 17 k = Y 10 (10 + k))
def EE (Y Y' : jMem) : Prop := (∀ k, k < 10 ∨ 46 ≤ k → Y' 10 k = Y 10 k) ∧ Y' 0 21 = Y 0 21
theorem keeps_ok {N : Nat} (hN : 1000 ≤ N) (Y : jMem) : ∃ Y', m_keeps N Y = some (0, Y') ∧ (∀ p, p ≠ 17 → Y' p = Y p) ∧ (∀ k, 0 ≤ k → k < 36 → Y' 17 k = Y 10 (10 + k)) := by
  have H : wp (m_keeps N Y) (fun o => o.1 = 0 ∧ (∀ p, p ≠ 17 → o.2 p = Y p) ∧ (∀ k, 0 ≤ k → k < 36 → o.2 17 k = Y 10 (10 + k))) := by
    unfold m_keeps
    refine wp_fix (fun s => (36 - s.1).toNat) (fun (s : Int × jMem) => (0 ≤ s.1 ∧ s.1 ≤ 36) ∧ (∀ p, p ≠ 17 → s.2 p = Y p) ∧ (∀ k, 0 ≤ k → k < s.1 → s.2 17 k = Y 10 (10 + k))) ?_ N _ ⟨⟨by dsimp only; omega, by dsimp only; omega⟩, fun _ _ => rfl, fun k k0 k1 => by dsimp only at k1; omega⟩ (by dsimp only; omega)
    rintro hh ⟨x, Z⟩ ⟨⟨x0, x1⟩, f, i⟩ ih
    dsimp only at x0 x1 f i
    unfold m_keeps_L2 jlt
    dsimp only
    by_cases cx : x < 36
    · rw [if_pos cx, f 10 (by omega)]
      simp (disch := omega) only [jchk_pos, w32_id]
      refine ih _ ⟨⟨by dsimp only; omega, by dsimp only; omega⟩, fun p hp => ?_, fun k k0 k1 => ?_⟩ (by dsimp only; omega)
      · dsimp only; rw [up_ne hp]; exact f p hp
      · dsimp only at k1 ⊢
        by_cases ck : k = x
        · rw [up_hit rfl ck, ck]
        · rw [up_col (by omega)]; exact i k k0 (by omega)
    · rw [if_neg cx]
      exact wp_some ⟨rfl, f, fun k k0 k1 => i k k0 (by omega)⟩
  obtain ⟨⟨v, Y'⟩, e, q1, q2⟩ := H
  dsimp only at q1 q2
  subst q1
  exact ⟨Y', e, q2⟩
theorem lays_ok {N : Nat} (hN : 1000 ≤ N) (Y : jMem) : ∃ Y', m_laysBack N Y = some (0, Y') ∧ (∀ p, p ≠ 10 → Y' p = Y p) ∧ (∀ k, k < 10 ∨ 46 ≤ k → Y' 10 k = Y 10 k) ∧ (∀ k, 0 ≤ k → k < 36 → Y' 10 (10 + k) = Y 17 k) := by
  have H : wp (m_laysBack N Y) (fun o => o.1 = 0 ∧ (∀ p, p ≠ 10 → o.2 p = Y p) ∧ (∀ k, k < 10 ∨ 46 ≤ k → o.2 10 k = Y 10 k) ∧ (∀ k, 0 ≤ k → k < 36 → o.2 10 (10 + k) = Y 17 k)) := by
    unfold m_laysBack
    refine wp_fix (fun s => (36 - s.1).toNat) (fun (s : Int × jMem) => (0 ≤ s.1 ∧ s.1 ≤ 36) ∧ (∀ p, p ≠ 10 → s.2 p = Y p) ∧ (∀ k, k < 10 ∨ 46 ≤ k → s.2 10 k = Y 10 k) ∧ (∀ k, 0 ≤ k → k < s.1 → s.2 10 (10 + k) = Y 17 k)) ?_ N _ ⟨⟨by dsimp only; omega, by dsimp only; omega⟩, fun _ _ => rfl, fun _ _ => rfl, fun k k0 k1 => by dsimp only at k1; omega⟩ (by dsimp only; omega)
    rintro hh ⟨x, Z⟩ ⟨⟨x0, x1⟩, f, g, i⟩ ih
    dsimp only at x0 x1 f g i
    unfold m_laysBack_L2 jlt
    dsimp only
    by_cases cx : x < 36
    · rw [if_pos cx, f 17 (by omega)]
      simp (disch := omega) only [jchk_pos, w32_id]
      refine ih _ ⟨⟨by dsimp only; omega, by dsimp only; omega⟩, fun p hp => ?_, fun k hk => ?_, fun k k0 k1 => ?_⟩ (by dsimp only; omega)
      · dsimp only; rw [up_ne hp]; exact f p hp
      · dsimp only; rw [up_col (by omega)]; exact g k hk
      · dsimp only at k1 ⊢
        by_cases ck : k = x
        · rw [up_hit rfl (by omega), ck]
        · rw [up_col (by omega)]; exact i k k0 (by omega)
    · rw [if_neg cx]
      exact wp_some ⟨rfl, f, g, fun k k0 k1 => i k k0 (by omega)⟩
  obtain ⟨⟨v, Y'⟩, e, q1, q2⟩ := H
  dsimp only at q1 q2
  subst q1
  exact ⟨Y', e, q2⟩
theorem FR_FF {X Y X' Y' : jMem} {rl : Int} (F : FF X Y X' Y') (h : FR X Y rl) (h21 : Y' 0 21 = Y 0 21) : FR X' Y' rl :=
  FR_congr h (fun p p1 p2 p3 => F.1 p (by omega) p3) (F.2.1 5 (by omega)) (F.2.1 4 (by omega)) (F.2.1 2 (by omega)) h21
/-- the trial is copied from the state when the reference stands as it stood -/
theorem copy_ok {N : Nat} {X Y X' Y' : jMem} {rl : Int} (h : Rel X Y) (hf : FR X Y rl) (F : FF X Y X' Y') (h10 : Y' 10 = Y 10) (h21 : Y' 0 21 = Y 0 21) :
    ∃ X2, St_copyFrom N 161 21 X' = some (0, X2) ∧ FF X Y X2 Y' ∧ YB X2 Y' 161 18 rl ∧ (∀ p, p < 161 ∨ 166 < p → X2 p = X' p) := by
  obtain ⟨X2, e, f, g⟩ := cpS (N := N) (q := 161) (a := 21) X' (by omega)
  obtain ⟨s, w, pk, p, n, t⟩ := Rel_s h
  have F2 : FF X Y X2 Y' := ⟨fun p hp hs => by rw [f p (by omega)]; exact F.1 p hp hs, F.2⟩
  have hx : ∀ p, 14 ≤ p → p ≤ 30 → X2 p = X p := fun p a b => F2.1 p (by omega) (by unfold Stk; omega)
  refine ⟨X2, e, F2, ⟨?_, ?_, ?_, ?_, FR_FF F2 hf h21⟩, fun p hp => f p (by omega)⟩
  · rw [h10]; exact g _ (SR_congr s (fun p a b => F.1 p (by omega) (by unfold Stk; omega)))
  · rw [h10]; exact PK_congr pk (hx 15 (by omega) (by omega)) (hx 20 (by omega) (by omega))
  · rw [h10]; exact w
  · rw [h10]; intro i i0 i1; rw [hx 18 (by omega) (by omega)]; exact p.2.2.2.2.1 i i0 i1
theorem begin_ok {N : Nat} (hN : 1000 ≤ N) {X Y : jMem} {rl : Int} (h : Rel X Y) (hf : FR X Y rl) :
    ∃ X1 Y1, St_copyFrom N 161 21 X = some (0, X1) ∧ m_keeps N Y = some (0, Y1) ∧ FF X Y X1 Y1 ∧ EE Y Y1 ∧ YB X1 Y1 161 18 rl ∧ Y1 10 = Y 10 ∧ (∀ p, p < 161 ∨ 166 < p → X1 p = X p) := by
  obtain ⟨Y1, k1, k2, k3⟩ := keeps_ok hN Y
  have F : FF X Y X Y1 := ⟨fun _ _ _ => rfl, fun p hp => k2 p (by omega), fun j _ _ _ _ => by rw [k2 0 (by omega)], k3⟩
  obtain ⟨X1, e, F1, B, g⟩ := copy_ok (N := N) h hf F (k2 10 (by omega)) (by rw [k2 0 (by omega)])
  exact ⟨X1, Y1, e, k1, F1, ⟨fun k _ => by rw [k2 10 (by omega)], by rw [k2 0 (by omega)]⟩, B, k2 10 (by omega), g⟩
/-- all is laid back -/
theorem back_to {N : Nat} (hN : 1000 ≤ N) {X Y X' Y' : jMem} (h : Rel X Y) (F : FF X Y X' Y') (E : EE Y Y') :
    ∃ Y2, m_laysBack N Y' = some (0, Y2) ∧ Rel X' Y2 ∧ TF X X' ∧ FF X Y X' Y2 ∧ EE Y Y2 ∧ Y2 10 = Y 10 ∧ (∀ p, p ≠ 10 → Y2 p = Y' p) := by
  obtain ⟨Y2, e, f, g, i⟩ := lays_ok hN Y'
  have h10 : Y2 10 = Y 10 := by
    funext k
    by_cases c : k < 10 ∨ 46 ≤ k
    · rw [g k c]; exact E.1 k c
    · have := i (k - 10) (by omega) (by omega)
      rw [show 10 + (k - 10) = k by omega] at this
      rw [this, F.2.2.2 (k - 10) (by omega) (by omega), show 10 + (k - 10) = k by omega]
  have h21 : Y2 0 21 = Y 0 21 := by rw [f 0 (by omega)]; exact E.2
  have F2 : FF X Y X' Y2 := ⟨F.1, fun p hp => by rw [f p (by omega)]; exact F.2.1 p hp, fun j a b c d => by rw [f 0 (by omega)]; exact F.2.2.1 j a b c d, fun k a b => by rw [f 17 (by omega)]; exact F.2.2.2 k a b⟩
  have hs : ∀ p, 171 ≤ p → p ≤ 173 → X' p = X p := fun p a b => F.1 p (by omega) (by unfold Stk; omega)
  refine ⟨Y2, e, Rel_frame h (fun p hp hst => F.1 p (by omega) hst) (fun p hp => ?_) (fun j hj => ?_), ⟨hs 171 (by omega) (by omega), hs 172 (by omega) (by omega), hs 173 (by omega) (by omega)⟩, F2, ⟨fun k _ => by rw [h10], h21⟩, h10, f⟩
  · by_cases cp : p = 10
    · rw [cp]; exact h10
    · exact F2.2.1 p (by omega)
  · by_cases cj : j = 21
    · rw [cj]; exact h21
    · exact F2.2.2.1 j (by omega) cj (by omega) (by omega)
theorem fpass {N : Nat} (hN : 1000 ≤ N) {X Y X' Y' : jMem} {d rl : Int} (F : FF X Y X' Y') (B : YB X' Y' 161 d rl) (hd : d = 18 ∨ d = 167) (hy : 0 ≤ Y' 10 10 ∧ Y' 10 10 < 2000000) :
    ∃ v v' X2 Y2, Ye_pass N 158 161 d rl X' = some (v, X2) ∧ m_passes N Y' = some (v', Y2) ∧ FF X Y X2 Y2 ∧ YB X2 Y2 161 d rl ∧ GY Y' Y2 ∧ GX 161 158 X' X2 ∧ Y2 10 10 = Y' 10 10 + 1 ∧ (∀ i, 0 ≤ i → i < Y' 10 1 → X2 159 i = Y2 11 i ∧ 0 ≤ Y2 11 i ∧ Y2 11 i ≤ 5) ∧ X2 158 1 = Y2 0 24 ∧ 0 ≤ Y2 0 24 ∧ Y2 0 24 < 128 := by
  have hq : QQ 161 158 d := by
    rcases hd with z | z
    · exact Or.inr (Or.inl ⟨rfl, rfl, z⟩)
    · exact Or.inr (Or.inr ⟨rfl, rfl, z⟩)
  obtain ⟨v, v', X2, Y2, p1, p2, p3, p4, p5, p6, p7, p8, p9⟩ := pass_ok hN hq B hy
  refine ⟨v, v', X2, Y2, p1, p2, ⟨fun p hp hs => ?_, fun p hp => ?_, fun j a b c e => ?_, fun k a b => ?_⟩, p4, p6, p5, p7, p8, p9⟩
  · rw [p5 p (by omega) (by omega) hs]; exact F.1 p hp hs
  · rw [p6.1 p (by omega) (by omega) (by omega) (by omega) (by omega)]; exact F.2.1 p hp
  · rw [p6.2.1 j a c]; exact F.2.2.1 j a b c e
  · rw [p6.1 17 (by omega) (by omega) (by omega) (by omega) (by omega)]; exact F.2.2.2 k a b
theorem EE_GY {Y Y' Y2 : jMem} (E : EE Y Y') (G : GY Y' Y2) : EE Y Y2 := ⟨fun k hk => by rw [G.2.2 k hk]; exact E.1 k hk, by rw [G.2.1 21 (by omega) (by omega)]; exact E.2⟩
theorem goOn_ok {N : Nat} (hN : 1000 ≤ N) {X Y X' Y' : jMem} {rl n : Int} (F : FF X Y X' Y') (B : YB X' Y' 161 18 rl) (hn : 0 ≤ n ∧ n ≤ 500) (hy : 0 ≤ Y' 10 10 ∧ Y' 10 10 < 10000) :
    ∃ X2 Y2, Fo_goOn N rl n X' = some (0, X2) ∧ m_passesAll N n Y' = some (0, Y2) ∧ FF X Y X2 Y2 ∧ YB X2 Y2 161 18 rl ∧ GY Y' Y2 ∧ GX 161 158 X' X2 ∧ Y2 10 10 = Y' 10 10 + n := by
  have H : wp2 (Fo_goOn N rl n X') (m_passesAll N n Y') (fun o o' => o.1 = 0 ∧ o'.1 = 0 ∧ FF X Y o.2 o'.2 ∧ YB o.2 o'.2 161 18 rl ∧ GY Y' o'.2 ∧ GX 161 158 X' o.2 ∧ o'.2 10 10 = Y' 10 10 + n) := by
    unfold Fo_goOn m_passesAll
    refine wp2_fix (fun s => (n - s.1).toNat) (fun (s t : Int × jMem) => s.1 = t.1 ∧ (0 ≤ s.1 ∧ s.1 ≤ n) ∧ FF X Y s.2 t.2 ∧ YB s.2 t.2 161 18 rl ∧ GY Y' t.2 ∧ GX 161 158 X' s.2 ∧ t.2 10 10 = Y' 10 10 + s.1) ?_ N N _ _ ⟨rfl, ⟨by dsimp only; omega, by dsimp only; omega⟩, F, B, GY_refl, GX_refl, by dsimp only; omega⟩ (by dsimp only; omega) (by dsimp only; omega)
    rintro h1 h2 ⟨x, Xc⟩ ⟨y, Yc⟩ ⟨e, hx, Fc, Bc, Gc, Gx, hyc⟩ ih
    dsimp only at e hx Fc Bc Gc Gx hyc
    subst e
    unfold Fo_goOn_L3 m_passesAll_L2
    dsimp only
    by_cases c : x < n
    · rw [if_pos c, if_pos c]
      obtain ⟨v, v', X2, Y2, p1, p2, p3, p4, p5, p6, p7, -⟩ := fpass hN Fc Bc (Or.inl rfl) (by omega)
      rw [p1, p2]
      unfold jb1
      rw [Option.bind_some, Option.bind_some, w32_id (by omega)]
      exact ih _ _ ⟨rfl, ⟨by dsimp only; omega, by dsimp only; omega⟩, p3, p4, GY_trans Gc p5, GX_trans Gx p6, by dsimp only; omega⟩ (by dsimp only; omega)
    · rw [if_neg c, if_neg c]
      exact wp2_some ⟨rfl, rfl, Fc, Bc, Gc, Gx, by dsimp only; omega⟩
  obtain ⟨⟨v, X2⟩, ⟨v', Y2⟩, e1, e2, q1, q2, q3⟩ := H
  dsimp only at q1 q2 q3
  subst q1; subst q2
  exact ⟨X2, Y2, e1, e2, q3⟩
theorem goOn1 {N : Nat} (hN : 1000 ≤ N) {rl v : Int} {X X2 : jMem} (h : Ye_pass N 158 161 18 rl X = some (v, X2)) : Fo_goOn N rl 1 X = some (0, X2) := by
  obtain ⟨m, hm⟩ : ∃ m, N = m + 2 := ⟨N - 2, by omega⟩
  have A : ∀ Z, jfix (m + 1) (Fo_goOn_L3 N rl 1) (1, Z) = some (0, Z) := fun Z => by
    rw [jfix_s]
    unfold Fo_goOn_L3
    dsimp only
    rw [if_neg (by decide)]
  unfold Fo_goOn
  rw [show jfix N (Fo_goOn_L3 N rl 1) (0, X) = jfix (m + 1 + 1) (Fo_goOn_L3 N rl 1) (0, X) by rw [hm], jfix_s]
  generalize jfix (m + 1) (Fo_goOn_L3 N rl 1) = kk at A ⊢
  unfold Fo_goOn_L3 jb1
  dsimp only
  rw [if_pos (by decide), h, Option.bind_some]
  exact A X2
theorem jkb161 : jkb jTX 161 7 = true := by decide +kernel
theorem ahead_ok {N : Nat} (hN : 1000 ≤ N) (a b c : Int) : OK (x_ahead N a b c) (m_ahead N a b c) := by
  intro X Y h
  obtain ⟨r1, e1, f1, g1⟩ := within_ok N b 0 100 X Y
  obtain ⟨r2, e2, f2, g2⟩ := within_ok N c 0 3 X Y
  obtain ⟨r3, e3, f3, g3⟩ := hasParish_ok N h
  obtain ⟨r4, -, f4, g4⟩ := within_ok N c 1 2 X Y
  obtain ⟨r5, -, e5, f5, g5⟩ := isFarm_ok N a h
  obtain ⟨rl, i1, i2, i3⟩ := inForce_ok (N := N) h
  obtain ⟨s, w, pk, p, n, wt⟩ := Rel_s h
  unfold x_ahead m_ahead
  rw [e1, e2, e3, f1, f2, f3, f4]
  simp only [Option.bind_some]
  by_cases c3 : r3 = 0
  · rw [if_pos c3, if_pos c3]
    by_cases c1 : r1 = 0
    · rw [if_pos c1]; exact ⟨_, _, _, rfl, rfl, h, TF_refl⟩
    · rw [if_neg c1]
      by_cases c2 : r2 = 0
      · rw [if_pos c2]; exact ⟨_, _, _, rfl, rfl, h, TF_refl⟩
      · rw [if_neg c2]; exact ⟨_, _, _, rfl, rfl, h, TF_refl⟩
  · rw [if_neg c3, if_neg c3]
    by_cases c1 : r1 = 0
    · rw [if_pos c1, if_pos c1]; exact ⟨_, _, _, rfl, rfl, h, TF_refl⟩
    · rw [if_neg c1, if_neg c1]
      by_cases c2 : r2 = 0
      · rw [if_pos c2, if_pos c2]; exact ⟨_, _, _, rfl, rfl, h, TF_refl⟩
      · rw [if_neg c2, if_neg c2]
        obtain ⟨X1, Y1, k1, k2, F1, E1, B1, k3, -⟩ := begin_ok hN h i2
        obtain ⟨X2, Y2, m1, m2, F2, B2, G2, -, m3⟩ := goOn_ok hN (n := b) F1 B1 (by omega) (by rw [k3]; have := wt.2.2.2.2.2.2; omega)
        obtain ⟨Y3, l1, l2, l3, -⟩ := back_to hN h F2 (EE_GY E1 G2)
        have hA : Fo_after N rl b X = some (161, X2) := by unfold Fo_after jbv; rw [k1, Option.bind_some]; dsimp only; rw [m1, Option.bind_some]
        have ha1 : Y2 10 1 = Y 10 1 := by rw [G2.2.2 1 (by omega), k3]
        obtain ⟨v0, x0, y0⟩ := lie_ok hN B2.1 B2.2.2.1
        obtain ⟨v3, x3, y3, -⟩ := heirs_ok hN B2.1 B2.2.2.1
        obtain ⟨s0, s1, sd, st, sw, sh, se⟩ := B2.1
        have sw' : ∀ i, 0 ≤ i → i < 7 → X2 (161 + 3) i = Y2 10 (25 + i) := sw
        have st' : ∀ i, 0 ≤ i → i < 7 → X2 (161 + 2) i = Y2 10 (18 + i) := st
        have w1 := w.1
        rw [i1, k2, Option.bind_some, jchk_pos i3, hA]
        unfold jb1 jbv jlt
        dsimp only
        rw [Option.bind_some, Option.bind_some]
        dsimp only
        rw [m2, Option.bind_some, jchk_pos jkb161, x0, x3, y0, y3, l1, e5, f5]
        simp only [Option.bind_some]
        have hc : c = 0 ∨ c = 1 ∨ c = 2 ∨ c = 3 := by omega
        rcases hc with z | z | z | z <;> subst z
        · rw [show r4 = 0 by omega]
          simp only [Int.reduceEq, reduceIte]
          exact ⟨_, _, _, rfl, rfl, l2, l3⟩
        · simp only [Int.reduceEq, reduceIte]
          rw [if_neg (show ¬ r4 = 0 by omega)]
          by_cases cr : r5 = 0
          · rw [if_pos cr, if_pos cr]; exact ⟨_, _, _, rfl, rfl, h, TF_refl⟩
          · rw [if_neg cr, if_neg cr, w32_id (x := 25 + a) (by omega), jchk_pos (by omega), jchk_pos (by omega), sw' a (by omega) (by omega)]
            exact ⟨_, _, _, rfl, rfl, l2, l3⟩
        · simp only [Int.reduceEq, reduceIte]
          rw [if_neg (show ¬ r4 = 0 by omega)]
          by_cases cr : r5 = 0
          · rw [if_pos cr, if_pos cr]; exact ⟨_, _, _, rfl, rfl, h, TF_refl⟩
          · rw [if_neg cr, if_neg cr, w32_id (x := 18 + a) (by omega), jchk_pos (by omega), jchk_pos (by omega), st' a (by omega) (by omega)]
            exact ⟨_, _, _, rfl, rfl, l2, l3⟩
        · rw [show r4 = 0 by omega]
          simp only [Int.reduceEq, reduceIte]
          exact ⟨_, _, _, rfl, rfl, l2, l3⟩
