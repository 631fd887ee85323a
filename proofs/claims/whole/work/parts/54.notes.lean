/-! what was noted, held against a trial -/
def gy (N : Nat) (rl : Int) (X0 : jMem) : Nat → jMem
  | 0 => X0
  | k + 1 => ((Ye_pass N 158 161 18 rl (gy N rl X0 k)).getD (0, X0)).2
theorem gy_pass {N : Nat} (hN : 1000 ≤ N) {rl : Int} {X0 Yk : jMem} {k : Nat} (B : YB (gy N rl X0 k) Yk 161 18 rl) (hy : 0 ≤ Yk 10 10 ∧ Yk 10 10 < 2000000) :
    ∃ v v' Y2, Ye_pass N 158 161 18 rl (gy N rl X0 k) = some (v, gy N rl X0 (k + 1)) ∧ m_passes N Yk = some (v', Y2) ∧ YB (gy N rl X0 (k + 1)) Y2 161 18 rl ∧ GX 161 158 (gy N rl X0 k) (gy N rl X0 (k + 1)) ∧ GY Yk Y2 ∧ Y2 10 10 = Yk 10 10 + 1 := by
  obtain ⟨v, v', X2, Y2, p1, p2, -, p4, p5, p6, p7, -⟩ := pass_ok hN (q := 161) (qy := 158) (d := 18) (Or.inr (Or.inl ⟨rfl, rfl, rfl⟩)) B hy
  have e : gy N rl X0 (k + 1) = X2 := by
    show ((Ye_pass N 158 161 18 rl (gy N rl X0 k)).getD (0, X0)).2 = X2
    rw [p1]; rfl
  rw [e]
  exact ⟨v, v', Y2, p1, p2, p4, p5, p6, p7⟩
theorem gy_run {N : Nat} (hN : 1000 ≤ N) {rl : Int} {X0 Y0 : jMem} (B : YB X0 Y0 161 18 rl) (hy : 0 ≤ Y0 10 10 ∧ Y0 10 10 < 1000) : ∀ k : Nat, k ≤ 1000 → ∃ Yk, YB (gy N rl X0 k) Yk 161 18 rl ∧ GY Y0 Yk ∧ GX 161 158 X0 (gy N rl X0 k) ∧ Yk 10 10 = Y0 10 10 + (k : Int)
  | 0 => fun _ => ⟨Y0, B, GY_refl, GX_refl, by omega⟩
  | k + 1 => fun hk => by
    obtain ⟨Yk, b, g, gx, y⟩ := gy_run hN B hy k (by omega)
    obtain ⟨v, v', Y2, -, -, p4, p5, p6, p7⟩ := gy_pass hN b (by omega)
    exact ⟨Y2, p4, GY_trans g p6, GX_trans gx p5, by omega⟩
theorem gy_goOn {N : Nat} (hN : 1000 ≤ N) {rl : Int} {X0 Y0 : jMem} (B : YB X0 Y0 161 18 rl) (hy : 0 ≤ Y0 10 10 ∧ Y0 10 10 < 1000) {n : Nat} (hn : n ≤ 500) : Fo_goOn N rl (n : Int) X0 = some (0, gy N rl X0 n) := by
  have H : wp (Fo_goOn N rl (n : Int) X0) (fun o => o = (0, gy N rl X0 n)) := by
    unfold Fo_goOn
    refine wp_fix (fun s => ((n : Int) - s.1).toNat) (fun (s : Int × jMem) => ∃ k : Nat, k ≤ n ∧ s = ((k : Int), gy N rl X0 k)) ?_ N _ ⟨0, by omega, rfl⟩ (by dsimp only; omega)
    rintro h ⟨x, Xc⟩ ⟨k, k0, e⟩ ih
    cases e
    unfold Fo_goOn_L3
    dsimp only
    by_cases c : (k : Int) < (n : Int)
    · obtain ⟨Yk, b, g, gx, y⟩ := gy_run hN B hy k (by omega)
      obtain ⟨v, v', Y2, p1, -⟩ := gy_pass hN b (by omega)
      rw [if_pos c, p1]
      unfold jb1
      rw [Option.bind_some, w32_id (by omega)]
      exact ih _ ⟨k + 1, by omega, rfl⟩ (by dsimp only; omega)
    · rw [if_neg c]
      exact wp_some (by rw [show k = n by omega])
  obtain ⟨o, e, q⟩ := H
  rw [e, q]
theorem tasteOf_ok {N : Nat} {X Y : jMem} {rl d i : Int} (B : YB X Y 161 d rl) (hi : 0 ≤ i ∧ i < 7) : (0 ≤ X 165 i ∧ X 165 i < 7) ∧ m_tasteOf N i Y = some (X 163 (X 165 i)) := by
  obtain ⟨⟨s0, s1, sd, st, sw, sh, se⟩, -, w, -⟩ := B
  have hh := w.2.2.2.2.2.1 i hi.1 hi.2
  have h1 : X 165 i = Y 10 (32 + i) := sh i hi.1 hi.2
  have h2 : X 163 (Y 10 (32 + i)) = Y 10 (18 + Y 10 (32 + i)) := st _ hh.1 hh.2
  rw [h1, h2]
  refine ⟨hh, ?_⟩
  unfold m_tasteOf
  rw [w32_id (x := 32 + i) (by omega), w32_id (x := 18 + Y 10 (32 + i)) (by omega), jchk_pos (by omega), jchk_pos (by omega)]
def NT (σ : Int → Int) : Prop := (0 ≤ σ 111 ∧ σ 111 ≤ 10) ∧ (∀ i, 0 ≤ i → i < σ 111 → (0 ≤ σ (81 + 3 * i) ∧ σ (81 + 3 * i) ≤ 60) ∧ (0 ≤ σ (82 + 3 * i) ∧ σ (82 + 3 * i) < 7))
theorem areSo_ok {N : Nat} (hN : 1000 ≤ N) {X Y : jMem} {rl d k : Int} (B : YB X Y 161 d rl) (hn : NR X 27 (Y 10)) (ht : NT (Y 10)) : ∃ r, No_areSo N 27 k 161 X = some r ∧ m_areNotesSo N k Y = some r ∧ (r = 0 ∨ r = 1) := by
  have H : wp2 (No_areSo N 27 k 161 X) (m_areNotesSo N k Y) (fun u v => u = v ∧ (u = 0 ∨ u = 1)) := by
    unfold No_areSo m_areNotesSo
    obtain ⟨n0, n1⟩ := hn
    obtain ⟨t0, t1⟩ := ht
    refine wp2_fix (fun s => (10 - s).toNat) (fun s t => t = 3 * s ∧ 0 ≤ s ∧ s ≤ Y 10 111) ?_ N N _ _ ⟨by omega, by omega, by omega⟩ (by omega) (by omega)
    rintro h1 h2 x y ⟨e, x0, x1⟩ ih
    subst e
    unfold No_areSo_L2 m_areNotesSo_L2
    dsimp only
    have n0' : X 27 0 = Y 10 111 := n0
    simp only [n0', w32_id (x := 3 * Y 10 111) (by omega)]
    by_cases c : x < Y 10 111
    · rw [if_pos c, if_pos (show 3 * x < 3 * Y 10 111 by omega)]
      obtain ⟨q1, q2, q3⟩ := n1 x x0 c
      obtain ⟨z1, z2⟩ := t1 x x0 c
      have q1' : X 28 x = Y 10 (81 + 3 * x) := q1
      have q2' : X 29 x = Y 10 (82 + 3 * x) := q2
      have q3' : X 30 x = Y 10 (83 + 3 * x) := q3
      obtain ⟨v1, v2⟩ := tasteOf_ok (N := N) B (i := Y 10 (82 + 3 * x)) (by omega)
      rw [w32_id (x := 81 + 3 * x) (by omega), w32_id (x := 81 + 3 * x + 1) (by omega), w32_id (x := 81 + 3 * x + 2) (by omega), w32_id (x := x + 1) (by omega), w32_id (x := 3 * x + 3) (by omega), show 81 + 3 * x + 1 = 82 + 3 * x by omega, show 81 + 3 * x + 2 = 83 + 3 * x by omega, v2, Option.bind_some]
      simp only [show (27 + 1 : Int) = 28 by omega, show (27 + 2 : Int) = 29 by omega, show (27 + 3 : Int) = 30 by omega, show (161 + 4 : Int) = 165 by omega, show (161 + 2 : Int) = 163 by omega, q1', q2', q3']
      rw [jchk_pos (show 0 ≤ x ∧ x < 10 by omega), jchk_pos (show 0 ≤ x ∧ x < 10 by omega), jchk_pos (show 0 ≤ Y 10 (82 + 3 * x) ∧ Y 10 (82 + 3 * x) < 7 by omega), jchk_pos v1, jchk_pos (show 0 ≤ x ∧ x < 10 by omega), jchk_pos (show 0 ≤ 81 + 3 * x ∧ 81 + 3 * x < 112 by omega), jchk_pos (show 0 ≤ 82 + 3 * x ∧ 82 + 3 * x < 112 by omega), jchk_pos (show 0 ≤ 83 + 3 * x ∧ 83 + 3 * x < 112 by omega)]
      have go := ih (x + 1) (3 * x + 3) ⟨by omega, by omega, by omega⟩ (by omega)
      exact wp2_ite Iff.rfl (fun _ => wp2_ite Iff.rfl (fun _ => go) (fun _ => wp2_some ⟨rfl, Or.inl rfl⟩)) (fun _ => go)
    · rw [if_neg c, if_neg (show ¬ 3 * x < 3 * Y 10 111 by omega)]
      exact wp2_some ⟨rfl, Or.inr rfl⟩
  obtain ⟨u, v, e1, e2, e3, e4⟩ := H
  subst e3
  exact ⟨u, e1, e2, e4⟩
theorem areSo_none {N : Nat} (hN : 1000 ≤ N) {X : jMem} {k n : Int} (h0 : X 27 0 = n) (hn : 0 ≤ n ∧ n ≤ 10) (hk : ∀ i, 0 ≤ i → i < n → X 28 i ≠ k) : No_areSo N 27 k 161 X = some 1 := by
  have H : wp (No_areSo N 27 k 161 X) (fun u => u = 1) := by
    unfold No_areSo
    refine wp_fix (fun s => (10 - s).toNat) (fun s => 0 ≤ s ∧ s ≤ n) ?_ N _ ⟨by omega, by omega⟩ (by omega)
    rintro h1 x ⟨x0, x1⟩ ih
    unfold No_areSo_L2
    dsimp only
    rw [h0]
    by_cases c : x < n
    · rw [if_pos c, jchk_pos (by omega), if_neg (show ¬ X (27 + 1) x = k from hk x x0 c), w32_id (by omega)]
      exact ih _ ⟨by omega, by omega⟩ (by omega)
    · rw [if_neg c]; exact wp_some rfl
  obtain ⟨u, e, q⟩ := H
  rw [e, q]
theorem lastYear_ok {N : Nat} (hN : 1000 ≤ N) {X : jMem} {n : Int} (h0 : X 27 0 = n) (hn : 0 ≤ n ∧ n ≤ 10) (hk : ∀ i, 0 ≤ i → i < n → X 28 i ≤ 60) : wp (No_lastYear N 27 X) (fun l => -1 ≤ l ∧ l ≤ 60 ∧ ∀ i, 0 ≤ i → i < n → X 28 i ≤ l) := by
  unfold No_lastYear
  refine wp_fix (fun s => (10 - s.2).toNat) (fun (s : Int × Int) => (0 ≤ s.2 ∧ s.2 ≤ n) ∧ -1 ≤ s.1 ∧ s.1 ≤ 60 ∧ ∀ i, 0 ≤ i → i < s.2 → X 28 i ≤ s.1) ?_ N _ ⟨⟨by dsimp only; omega, by dsimp only; omega⟩, by dsimp only; omega, by dsimp only; omega, fun i i0 i1 => by dsimp only at i1; omega⟩ (by dsimp only; omega)
  rintro h1 ⟨l, x⟩ ⟨hx, l0, l1, l2⟩ ih
  dsimp only at hx l0 l1 l2
  unfold No_lastYear_L4 jlt
  dsimp only
  rw [h0]
  by_cases c : x < n
  · have := hk x hx.1 c
    have hm : jmax l (X 28 x) = if l < X 28 x then X 28 x else l := rfl
    rw [if_pos c, jchk_pos (by omega), w32_id (by omega), show (27 + 1 : Int) = 28 by omega, hm]
    by_cases cl : l < X 28 x
    · rw [if_pos cl]
      refine ih _ ⟨⟨by dsimp only; omega, by dsimp only; omega⟩, by dsimp only; omega, by dsimp only; omega, fun i i0 i1 => ?_⟩ (by dsimp only; omega)
      dsimp only at i1 ⊢
      by_cases ci : i = x
      · rw [ci]; omega
      · have := l2 i i0 (by omega); omega
    · rw [if_neg cl]
      refine ih _ ⟨⟨by dsimp only; omega, by dsimp only; omega⟩, by dsimp only; omega, by dsimp only; omega, fun i i0 i1 => ?_⟩ (by dsimp only; omega)
      dsimp only at i1 ⊢
      by_cases ci : i = x
      · rw [ci]; omega
      · have := l2 i i0 (by omega); omega
  · rw [if_neg c]
    exact wp_some ⟨l0, l1, fun i i0 i1 => l2 i i0 (by omega)⟩
theorem YB_Y {X Y Y' : jMem} {q d rl : Int} (B : YB X Y q d rl) (h10 : Y' 10 = Y 10) (h5 : Y' 5 = Y 5) (h4 : Y' 4 = Y 4) (h2 : Y' 2 = Y 2) (h21 : Y' 0 21 = Y 0 21) : YB X Y' q d rl := by
  obtain ⟨b1, b2, b3, b4, b5⟩ := B
  unfold YB
  rw [h10]
  exact ⟨b1, b2, b3, b4, FR_congr b5 (fun _ _ _ _ => rfl) h5 h4 h2 h21⟩
theorem store_ok {N : Nat} (hN : 1000 ≤ N) {X Y2 : jMem} {rl d a1 a2 x2 u : Int} (h : Int × Int × jMem → Option (Int × jMem)) (B : YB X Y2 161 d rl) (ha : 0 ≤ a1 ∧ a1 < 7) :
    ∃ Y3, jfix N (m_areAllSo_L39 N a1 a2 x2 h u) (0, Y2) = h (u, w32 (x2 + 1), Y3) ∧ (∀ p, p ≠ 20 → Y3 p = Y2 p) ∧ (∀ j, j < 7 * a1 ∨ 7 * a1 + 7 ≤ j → Y3 20 j = Y2 20 j) ∧ (x2 ≠ a2 → Y3 20 = Y2 20) ∧ (x2 = a2 → ∀ i, 0 ≤ i → i < Y2 10 1 → Y3 20 (7 * a1 + i) = X 163 (X 165 i)) := by
  have w1 := B.2.2.1.1
  by_cases c : x2 = a2
  · have A : ∀ (D : Nat) (i : Int) (M : Nat) (Yc : jMem), Y2 10 1 - i = (D : Int) → 0 ≤ i → D < M → (∀ p, p ≠ 20 → Yc p = Y2 p) → (∀ j, j < 7 * a1 ∨ 7 * a1 + 7 ≤ j → Yc 20 j = Y2 20 j) → (∀ j, 0 ≤ j → j < i → Yc 20 (7 * a1 + j) = X 163 (X 165 j)) →
        ∃ Y3, jfix M (m_areAllSo_L39 N a1 a2 x2 h u) (i, Yc) = h (u, w32 (x2 + 1), Y3) ∧ (∀ p, p ≠ 20 → Y3 p = Y2 p) ∧ (∀ j, j < 7 * a1 ∨ 7 * a1 + 7 ≤ j → Y3 20 j = Y2 20 j) ∧ (∀ j, 0 ≤ j → j < Y2 10 1 → Y3 20 (7 * a1 + j) = X 163 (X 165 j)) := by
      intro D
      induction D with
      | zero =>
        intro i M Yc hD hi hM f g k
        obtain ⟨m, rfl⟩ : ∃ m, M = m + 1 := ⟨M - 1, by omega⟩
        rw [jfix_s]
        unfold m_areAllSo_L39
        dsimp only
        rw [f 10 (by omega), if_neg (by omega)]
        exact ⟨Yc, rfl, f, g, fun j j0 j1 => k j j0 (by omega)⟩
      | succ D ih =>
        intro i M Yc hD hi hM f g k
        obtain ⟨m, rfl⟩ : ∃ m, M = m + 1 := ⟨M - 1, by omega⟩
        have Bc : YB X Yc 161 d rl := YB_Y B (f 10 (by omega)) (f 5 (by omega)) (f 4 (by omega)) (f 2 (by omega)) (by rw [f 0 (by omega)])
        obtain ⟨t1, t2⟩ := tasteOf_ok (N := N) Bc (i := i) (by omega)
        have r := ih (i + 1) m (up Yc 20 (7 * a1 + i) (X 163 (X 165 i))) (by omega) (by omega) (by omega) (fun p hp => by rw [up_ne hp]; exact f p hp) (fun j hj => by rw [up_col (by omega)]; exact g j hj) (fun j j0 j1 => by
          by_cases cj : j = i
          · rw [up_hit rfl (by omega), cj]
          · rw [up_col (by omega)]; exact k j j0 (by omega))
        rw [jfix_s]
        generalize jfix m (m_areAllSo_L39 N a1 a2 x2 h u) = kk at r ⊢
        unfold m_areAllSo_L39 jlt
        dsimp only
        rw [if_pos (by rw [f 10 (by omega)]; omega), if_pos c, t2, Option.bind_some, w32_id (x := 7 * a1) (by omega), w32_id (x := 7 * a1 + i) (by omega), jchk_pos (by omega), w32_id (x := i + 1) (by omega)]
        exact r
    obtain ⟨Y3, e1, e2, e3, e4⟩ := A (Y2 10 1).toNat 0 N Y2 (by omega) (by omega) (by omega) (fun _ _ => rfl) (fun _ _ => rfl) (fun j j0 j1 => by omega)
    exact ⟨Y3, e1, e2, e3, fun z => absurd c z, fun _ => e4⟩
  · obtain ⟨m, hm⟩ : ∃ m, N = m + 1 := ⟨N - 1, by omega⟩
    refine ⟨Y2, ?_, fun _ _ => rfl, fun _ _ => rfl, fun _ => rfl, fun z => absurd z c⟩
    rw [show jfix N (m_areAllSo_L39 N a1 a2 x2 h u) (0, Y2) = jfix (m + 1) (m_areAllSo_L39 N a1 a2 x2 h u) (0, Y2) by rw [← hm], jfix_s]
    unfold m_areAllSo_L39
    dsimp only
    by_cases c0 : (0 : Int) < Y2 10 1
    · rw [if_pos c0, if_neg c]
    · rw [if_neg c0]
theorem seen_ok {N : Nat} (hN : 1000 ≤ N) {X Y X1 Y1 : jMem} {rl a1 a2 : Int} (hnr : NR X1 27 (Y1 10)) (ht : NT (Y1 10)) (F : FF X Y X1 Y1) (B : YB X1 Y1 161 18 rl) (hy : Y1 10 10 = 0) (ha : 0 ≤ a1 ∧ a1 < 7) (ha2 : -1 ≤ a2 ∧ a2 ≤ 60) :
    ∃ r X2 Y2, Fo_notesAreSo N rl X1 = some (r, X2) ∧ m_areAllSo N a1 a2 Y1 = some (r, Y2) ∧ (r = 0 ∨ r = 1) ∧ FF X Y X2 Y2 ∧ ((∀ k, k < 10 ∨ 46 ≤ k → Y2 10 k = Y1 10 k) ∧ Y2 0 21 = Y1 0 21 ∧ Y2 19 = Y1 19) ∧ GX 161 158 X1 X2 ∧ (∀ j, j < 7 * a1 ∨ 7 * a1 + 7 ≤ j → Y2 20 j = Y1 20 j) ∧ (0 ≤ a2 → ∀ X0, YB X0 Y1 161 18 rl → ∀ i, 0 ≤ i → i < Y1 10 1 → Y2 20 (7 * a1 + i) = gy N rl X0 (a2 + 1).toNat 163 (gy N rl X0 (a2 + 1).toNat 165 i)) := by
  have hso : ∀ k : Nat, k ≤ 60 → ∀ Yk, YB (gy N rl X1 (k + 1)) Yk 161 18 rl → (∀ j, j < 10 ∨ 46 ≤ j → Yk 10 j = Y1 10 j) → ∃ r, No_areSo N 27 (k : Int) 161 (gy N rl X1 (k + 1)) = some r ∧ m_areNotesSo N (k : Int) Yk = some r ∧ (r = 0 ∨ r = 1) := by
    intro k hk Yk Bk f
    obtain ⟨-, -, -, gx, -⟩ := gy_run hN B (by omega) (k + 1) (by omega)
    have e : ∀ p, 27 ≤ p → p ≤ 30 → gy N rl X1 (k + 1) p = X1 p := fun p a b => gx p (by omega) (by omega) (by unfold Stk; omega)
    refine areSo_ok hN Bk ?_ ?_
    · obtain ⟨n0, n1⟩ := NR_congr hnr (X' := gy N rl X1 (k + 1)) (fun p a b => e p a (by omega))
      refine ⟨by rw [f 111 (by omega)]; exact n0, fun i i0 i1 => ?_⟩
      rw [f 111 (by omega)] at i1
      rw [f (81 + 3 * i) (by omega), f (82 + 3 * i) (by omega), f (83 + 3 * i) (by omega)]
      exact n1 i i0 i1
    · obtain ⟨t0, t1⟩ := ht
      refine ⟨by rw [f 111 (by omega)]; exact t0, fun i i0 i1 => ?_⟩
      rw [f 111 (by omega)] at i1
      rw [f (81 + 3 * i) (by omega), f (82 + 3 * i) (by omega)]
      exact t1 i i0 i1
  obtain ⟨l, l1, l2, l3, l4⟩ := lastYear_ok hN (X := X1) (n := Y1 10 111) hnr.1 ht.1 (fun i i0 i1 => by
    rw [show X1 28 i = Y1 10 (81 + 3 * i) from (hnr.2 i i0 i1).1]; exact (ht.2 i i0 i1).1.2)
  have HX : wp (jfix N (Fo_notesAreSo_L11 N rl l) (0, X1)) (fun o => GX 161 158 X1 o.2 ∧ ((o.1 = 1 ∧ ∀ k : Nat, (k : Int) ≤ l → No_areSo N 27 (k : Int) 161 (gy N rl X1 (k + 1)) = some 1) ∨ (o.1 = 0 ∧ ∃ k : Nat, (k : Int) ≤ l ∧ No_areSo N 27 (k : Int) 161 (gy N rl X1 (k + 1)) = some 0))) := by
    refine wp_fix (fun s => (l + 1 - s.1).toNat) (fun (s : Int × jMem) => ∃ k : Nat, (k : Int) ≤ l + 1 ∧ s = ((k : Int), gy N rl X1 k) ∧ ∀ j : Nat, j < k → No_areSo N 27 (j : Int) 161 (gy N rl X1 (j + 1)) = some 1) ?_ N _ ⟨0, by omega, rfl, fun j hj => by omega⟩ (by dsimp only; omega)
    rintro hh ⟨x, Xc⟩ ⟨k, k0, e, k1⟩ ih
    cases e
    unfold Fo_notesAreSo_L11
    dsimp only
    obtain ⟨Yk, b, g, gx, y⟩ := gy_run hN B (by omega) k (by omega)
    by_cases c : l < (k : Int)
    · rw [if_pos c]
      exact wp_some ⟨gx, Or.inl ⟨rfl, fun j hj => k1 j (by omega)⟩⟩
    · obtain ⟨v, v', Y2, p1, p2, p3, p4, p5, p6⟩ := gy_pass hN b (by omega)
      obtain ⟨r, r1, r2, r3⟩ := hso k (by omega) Y2 p3 (fun j hj => by rw [p5.2.2 j hj, g.2.2 j hj])
      rw [if_neg c, p1]
      unfold jb1
      rw [Option.bind_some]
      dsimp only
      rw [r1, Option.bind_some]
      rcases r3 with z | z
      · rw [if_pos z]
        exact wp_some ⟨GX_trans gx p4, Or.inr ⟨rfl, k, by omega, by rw [r1, z]⟩⟩
      · rw [if_neg (by omega), w32_id (by omega)]
        exact ih _ ⟨k + 1, by omega, rfl, fun j hj => by
          by_cases cj : j = k
          · rw [cj, r1, z]
          · exact k1 j (by omega)⟩ (by dsimp only; omega)
  have HY : wp (jfix N (m_areAllSo_L5 N a1 a2) (1, 0, Y1)) (fun o => ((o.1 = 1 ∧ ∀ k : Nat, k ≤ 60 → No_areSo N 27 (k : Int) 161 (gy N rl X1 (k + 1)) = some 1) ∨ (o.1 = 0 ∧ ∃ k : Nat, k ≤ 60 ∧ No_areSo N 27 (k : Int) 161 (gy N rl X1 (k + 1)) = some 0)) ∧ ((∀ p, p ≠ 0 → p ≠ 8 → p ≠ 9 → p ≠ 10 → p ≠ 11 → p ≠ 20 → o.2 p = Y1 p) ∧ (∀ j, j ≠ 18 → j ≠ 24 → o.2 0 j = Y1 0 j) ∧ (∀ k, k < 10 ∨ 46 ≤ k → o.2 10 k = Y1 10 k)) ∧ (∀ j, j < 7 * a1 ∨ 7 * a1 + 7 ≤ j → o.2 20 j = Y1 20 j) ∧ (0 ≤ a2 → ∀ X0, YB X0 Y1 161 18 rl → ∀ i, 0 ≤ i → i < Y1 10 1 → o.2 20 (7 * a1 + i) = gy N rl X0 (a2 + 1).toNat 163 (gy N rl X0 (a2 + 1).toNat 165 i))) := by
    refine wp_fix (fun s => (61 - s.2.1).toNat) (fun (s : Int × Int × jMem) => ∃ k : Nat, k ≤ 61 ∧ s.2.1 = (k : Int) ∧ ((s.1 = 1 ∧ ∀ j : Nat, j < k → No_areSo N 27 (j : Int) 161 (gy N rl X1 (j + 1)) = some 1) ∨ (s.1 = 0 ∧ ∃ j : Nat, j < k ∧ No_areSo N 27 (j : Int) 161 (gy N rl X1 (j + 1)) = some 0)) ∧ (∀ X0, YB X0 Y1 161 18 rl → YB (gy N rl X0 k) s.2.2 161 18 rl) ∧ s.2.2 10 10 = (k : Int) ∧ ((∀ p, p ≠ 0 → p ≠ 8 → p ≠ 9 → p ≠ 10 → p ≠ 11 → p ≠ 20 → s.2.2 p = Y1 p) ∧ (∀ j, j ≠ 18 → j ≠ 24 → s.2.2 0 j = Y1 0 j) ∧ (∀ k, k < 10 ∨ 46 ≤ k → s.2.2 10 k = Y1 10 k)) ∧ (∀ j, j < 7 * a1 ∨ 7 * a1 + 7 ≤ j → s.2.2 20 j = Y1 20 j) ∧ (0 ≤ a2 → a2 < (k : Int) → ∀ X0, YB X0 Y1 161 18 rl → ∀ i, 0 ≤ i → i < Y1 10 1 → s.2.2 20 (7 * a1 + i) = gy N rl X0 (a2 + 1).toNat 163 (gy N rl X0 (a2 + 1).toNat 165 i))) ?_ N _ ⟨0, by omega, rfl, Or.inl ⟨rfl, fun j hj => by omega⟩, fun X0 b => b, hy, ⟨fun _ _ _ _ _ _ _ => rfl, fun _ _ _ => rfl, fun _ _ => rfl⟩, fun _ _ => rfl, fun z1 z2 => by omega⟩ (by dsimp only; omega)
    rintro hh ⟨x1, x2, Yc⟩ ⟨k, k0, e, k1, k2, k3, k4, k5, k6⟩ ih
    dsimp only at e k1 k2 k3 k4 k5 k6
    subst e
    unfold m_areAllSo_L5 jlt
    dsimp only
    by_cases c : (60 : Int) < (k : Int)
    · rw [if_pos c, jchk_pos (by omega)]
      refine wp_some ⟨?_, k4, k5, fun z => k6 z (by omega)⟩
      rcases k1 with ⟨z1, z2⟩ | ⟨z1, j, z2, z3⟩
      · exact Or.inl ⟨z1, fun j hj => z2 j (by omega)⟩
      · exact Or.inr ⟨z1, j, by omega, z3⟩
    · obtain ⟨v, v', Y2, p1, p2, p3, p4, p5, p6⟩ := gy_pass hN (k2 X1 B) (by omega)
      have all : ∀ X0, YB X0 Y1 161 18 rl → YB (gy N rl X0 (k + 1)) Y2 161 18 rl := fun X0 b => by
        obtain ⟨w0, w0', Y2', -, q2, q3, -⟩ := gy_pass hN (k2 X0 b) (by omega)
        rw [p2] at q2
        cases q2
        exact q3
      obtain ⟨r, r1, r2, r3⟩ := hso k (by omega) Y2 p3 (fun j hj => by rw [p5.2.2 j hj, k4.2.2 j hj])
      have fin : ∀ u, ((u = 1 ∧ ∀ j : Nat, j < k + 1 → No_areSo N 27 (j : Int) 161 (gy N rl X1 (j + 1)) = some 1) ∨ (u = 0 ∧ ∃ j : Nat, j < k + 1 ∧ No_areSo N 27 (j : Int) 161 (gy N rl X1 (j + 1)) = some 0)) → wp (jfix N (m_areAllSo_L39 N a1 a2 (k : Int) hh u) (0, Y2)) (fun o => ((o.1 = 1 ∧ ∀ k : Nat, k ≤ 60 → No_areSo N 27 (k : Int) 161 (gy N rl X1 (k + 1)) = some 1) ∨ (o.1 = 0 ∧ ∃ k : Nat, k ≤ 60 ∧ No_areSo N 27 (k : Int) 161 (gy N rl X1 (k + 1)) = some 0)) ∧ ((∀ p, p ≠ 0 → p ≠ 8 → p ≠ 9 → p ≠ 10 → p ≠ 11 → p ≠ 20 → o.2 p = Y1 p) ∧ (∀ j, j ≠ 18 → j ≠ 24 → o.2 0 j = Y1 0 j) ∧ (∀ k, k < 10 ∨ 46 ≤ k → o.2 10 k = Y1 10 k)) ∧ (∀ j, j < 7 * a1 ∨ 7 * a1 + 7 ≤ j → o.2 20 j = Y1 20 j) ∧ (0 ≤ a2 → ∀ X0, YB X0 Y1 161 18 rl → ∀ i, 0 ≤ i → i < Y1 10 1 → o.2 20 (7 * a1 + i) = gy N rl X0 (a2 + 1).toNat 163 (gy N rl X0 (a2 + 1).toNat 165 i))) := by
        intro u hu
        obtain ⟨Y3, s1, s2, s3, s4, s5⟩ := store_ok hN (a1 := a1) (a2 := a2) (x2 := (k : Int)) (u := u) hh p3 ha
        rw [s1, w32_id (by omega)]
        have y20 : Y2 20 = Yc 20 := p5.1 20 (by omega) (by omega) (by omega) (by omega) (by omega)
        have n1 : Y2 10 1 = Y1 10 1 := by rw [p5.2.2 1 (by omega), k4.2.2 1 (by omega)]
        refine ih _ ⟨k + 1, by omega, rfl, hu, fun X0 b => YB_Y (all X0 b) (s2 10 (by omega)) (s2 5 (by omega)) (s2 4 (by omega)) (s2 2 (by omega)) (by dsimp only; rw [s2 0 (by omega)]), ?_, ⟨fun p q1 q2 q3 q4 q5 q6 => ?_, fun j q1 q2 => ?_, fun j q1 => ?_⟩, fun j hj => ?_, fun z0 z1 X0 b i i0 i1 => ?_⟩ (by dsimp only; omega)
        · dsimp only; rw [s2 10 (by omega)]; omega
        · dsimp only; rw [s2 p q6, p5.1 p q1 q2 q3 q4 q5]; exact k4.1 p q1 q2 q3 q4 q5 q6
        · dsimp only; rw [s2 0 (by omega), p5.2.1 j q1 q2]; exact k4.2.1 j q1 q2
        · dsimp only; rw [s2 10 (by omega), p5.2.2 j q1]; exact k4.2.2 j q1
        · dsimp only; rw [s3 j hj, y20]; exact k5 j hj
        · dsimp only at z1 ⊢
          by_cases cz : (k : Int) = a2
          · obtain ⟨Y3', t1, t2, t3, t4, t5⟩ := store_ok hN (a1 := a1) (a2 := a2) (x2 := (k : Int)) (u := 0) (fun o => some (0, o.2.2)) (all X0 b) ha
            obtain ⟨Y4, t1', t2', t3', t4', t5'⟩ := store_ok hN (a1 := a1) (a2 := a2) (x2 := (k : Int)) (u := 0) (fun o => some (0, o.2.2)) p3 ha
            have same : ∀ i, 0 ≤ i → i < 7 → gy N rl X1 (k + 1) 163 (gy N rl X1 (k + 1) 165 i) = gy N rl X0 (k + 1) 163 (gy N rl X0 (k + 1) 165 i) := fun i i0 i1 => by
              have g1 := (tasteOf_ok (N := N) p3 (i := i) ⟨i0, i1⟩).2
              have g2 := (tasteOf_ok (N := N) (all X0 b) (i := i) ⟨i0, i1⟩).2
              rw [g1] at g2
              exact Option.some.inj g2
            have := p3.2.2.1.1
            rw [s5 cz i i0 (by omega), show (a2 + 1).toNat = k + 1 by omega]
            exact same i i0 (by omega)
          · rw [s4 cz, y20]; exact k6 z0 (by omega) X0 b i i0 i1
      rw [if_neg c, p2]
      unfold jb1
      rw [Option.bind_some]
      dsimp only
      rcases k1 with ⟨z1, z2⟩ | ⟨z1, j, z2, z3⟩
      · rw [if_neg (show ¬ x1 = 0 by omega), r2, Option.bind_some]
        rcases r3 with z | z
        · rw [if_pos z]
          exact fin 0 (Or.inr ⟨rfl, k, by omega, by rw [r1, z]⟩)
        · rw [if_neg (show ¬ r = 0 by omega)]
          refine fin 1 (Or.inl ⟨rfl, fun j hj => ?_⟩)
          by_cases cj : j = k
          · rw [cj, r1, z]
          · exact z2 j (by omega)
      · rw [if_pos z1]
        exact fin 0 (Or.inr ⟨rfl, j, by omega, z3⟩)
  obtain ⟨⟨r, X2⟩, x1, x2, x3⟩ := HX
  obtain ⟨⟨r', Y2⟩, y1, y2, y3, y4, y5⟩ := HY
  dsimp only at x2 x3 y2 y3 y4 y5
  have hr : r = r' ∧ (r = 0 ∨ r = 1) := by
    have late : ∀ k : Nat, k ≤ 60 → l < (k : Int) → No_areSo N 27 (k : Int) 161 (gy N rl X1 (k + 1)) = some 1 := fun k hk hl => by
      obtain ⟨-, -, -, gx, -⟩ := gy_run hN B (by omega) (k + 1) (by omega)
      have e27 : gy N rl X1 (k + 1) 27 = X1 27 := gx 27 (by omega) (by omega) (by unfold Stk; omega)
      have e28 : gy N rl X1 (k + 1) 28 = X1 28 := gx 28 (by omega) (by omega) (by unfold Stk; omega)
      exact areSo_none hN (n := Y1 10 111) (by rw [e27]; exact hnr.1) ht.1 (fun i i0 i1 => by rw [e28]; have := l4 i i0 i1; omega)
    rcases x3 with ⟨z1, z2⟩ | ⟨z1, j, z2, z3⟩
    · rcases y2 with ⟨w1, w2⟩ | ⟨w1, j, w2, w3⟩
      · omega
      · by_cases cj : (j : Int) ≤ l
        · have := z2 j cj; rw [this] at w3; exact absurd (Option.some.inj w3) (by decide)
        · have := late j w2 (by omega); rw [this] at w3; exact absurd (Option.some.inj w3) (by decide)
    · rcases y2 with ⟨w1, w2⟩ | ⟨w1, -⟩
      · have := w2 j (by omega); rw [this] at z3; exact absurd (Option.some.inj z3) (by decide)
      · omega
  obtain ⟨hr1, hr2⟩ := hr
  subst hr1
  refine ⟨r, X2, Y2, ?_, y1, hr2, ⟨fun p hp hs => ?_, fun p hp => ?_, fun j q1 q2 q3 q4 => ?_, fun k q1 q2 => ?_⟩, ⟨y3.2.2, y3.2.1 21 (by omega) (by omega), y3.1 19 (by omega) (by omega) (by omega) (by omega) (by omega) (by omega)⟩, x2, y4, y5⟩
  · unfold Fo_notesAreSo; rw [l1, Option.bind_some]; exact x1
  · rw [x2 p (by omega) (by omega) hs]; exact F.1 p hp hs
  · rw [y3.1 p (by omega) (by omega) (by omega) (by omega) (by omega) (by omega)]; exact F.2.1 p hp
  · rw [y3.2.1 j q1 q3]; exact F.2.2.1 j q1 q2 q3 q4
  · rw [y3.1 17 (by omega) (by omega) (by omega) (by omega) (by omega) (by omega)]; exact F.2.2.2 k q1 q2
