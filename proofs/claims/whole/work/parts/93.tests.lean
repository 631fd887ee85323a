/-! the class reads a test by calls, the reference by what it holds open -/
def FE (N : Nat) (X Y : jMem) (e : Option (Int × jMem)) (m jl nl q t n a k s deep : Int) (ts : List Bool) (X' : jMem) : Prop := (∃ (Y' : jMem) (j' n' v' : Int) (fL fC' fG' : Nat), e = tP N fL fC' (jfix fG' (m_tested_L12 N)) Y' ∧ RR X' Y' m j' q t n' v' a (true :: ts) ∧ (jl ≤ j' ∧ nl ≤ n' ∧ n' + k ≤ j') ∧ (Y' 0 13 = deep ∧ Y' 0 16 = s ∧ ∀ i, i < s → Y' 7 i = Y 7 i) ∧ (s < (fL : Int) ∧ m - j' < (fC' : Int) ∧ m - j' < (fG' : Int)) ∧ XG q n X X' ∧ YT t n Y Y') ∨ (∃ Y', e = some (0, Y') ∧ FO q t X Y X' Y')
def TE (N : Nat) (X Y : jMem) (e : Option (Int × jMem)) (m jl nl q t n a k s deep : Int) (ts : List Bool) (X' : jMem) : Prop := (∃ (Y' Z : jMem) (j' n' v' : Int) (fC' fG' : Nat), e = tQ N fC' (jfix fG' (m_tested_L12 N)) Y' ∧ RD X' Y' m j' ∧ Y' 0 8 = X' 4 j' ∧ (X' 3 j' ≠ 24 ∧ X' 3 j' ≠ 23) ∧ m_layDown N 1 Y' = some (0, Z) ∧ RR X' Z m j' q t n' v' a (true :: ts) ∧ Z 0 8 = X' 4 j' ∧ (jl ≤ j' ∧ nl ≤ n' ∧ n' + k ≤ j') ∧ (Z 0 13 = deep ∧ Z 0 16 = s ∧ ∀ i, i < s → Z 7 i = Y 7 i) ∧ (s ≤ Y' 0 16 ∧ Y' 0 16 ≤ 400 ∧ (∀ i, i < s → Y' 7 i = Y 7 i) ∧ ∀ i, s ≤ i → i < Y' 0 16 → Y' 7 i ≠ 91) ∧ (m - j' < (fC' : Int) ∧ m - j' < (fG' : Int)) ∧ XG q n X X' ∧ YT t n Y Z ∧ YT t n Y Y') ∨ (∃ Y', e = some (0, Y') ∧ FO q t X Y X' Y')
def FactOK (N : Nat) (rf : Int → jMem → Option (Int × jMem)) (deep : Int) : Prop := ∀ (X Y : jMem) (m j q t n v a k s : Int) (ts : List Bool) (fF fG : Nat), RR X Y m j q t n v a ts → 0 ≤ k → n + k ≤ j → (ts.length : Int) ≤ 2 * deep + 2 → Y 0 13 = deep → Y 0 16 = s → 0 ≤ s → s ≤ j → m - j + 2 ≤ (fF : Int) → m - j < (fG : Int) →
  ∃ X', rf deep X = some (0, X') ∧ FE N X Y (tA N fF (jfix fG (m_tested_L12 N)) Y) m (j + 1) (n + 1) q t n a k s deep ts X'
def TestOK (N : Nat) (rt : Int → jMem → Option (Int × jMem)) (deep : Int) : Prop := ∀ (X Y : jMem) (m j q t n v a k s : Int) (ts : List Bool) (fF fG : Nat), RR X Y m j q t n v a ts → 0 ≤ k → n + k ≤ j → (ts.length : Int) ≤ 2 * deep → Y 0 13 = deep → Y 0 16 = s → 0 ≤ s → s ≤ j → (s = 0 ∨ Y 7 (s - 1) = 91) → m - j + 2 ≤ (fF : Int) → m - j < (fG : Int) →
  ∃ X', rt deep X = some (0, X') ∧ TE N X Y (tA N fF (jfix fG (m_tested_L12 N)) Y) m (j + 1) (n + 1) q t n a k s deep ts X'
theorem TE_ahead {N : Nat} {X X1 Y Y1 X' : jMem} {e e1 : Option (Int × jMem)} {m jl nl jl1 nl1 q t n n1 a k s deep : Int} {ts : List Bool} (he : e = e1) (hx : XG q n X X1) (hy : YT t n Y Y1) (h7 : ∀ i, i < s → Y1 7 i = Y 7 i) (h0 : 0 ≤ n) (hn : n ≤ n1) (hj : jl ≤ jl1) (hl : nl ≤ nl1) (h : TE N X1 Y1 e1 m jl1 nl1 q t n1 a k s deep ts X') : TE N X Y e m jl nl q t n a k s deep ts X' := by
  rcases h with ⟨Y', Z, j', n', v', fC', fG', a1, a2, a3, a4, a5, a6, a7, a8, a9, a10, a11, a12, a13, a14⟩ | ⟨Y', a1, a2⟩
  · exact Or.inl ⟨Y', Z, j', n', v', fC', fG', he.trans a1, a2, a3, a4, a5, a6, a7, by omega, ⟨a9.1, a9.2.1, fun i hi => by rw [a9.2.2 i hi, h7 i hi]⟩, ⟨a10.1, a10.2.1, fun i hi => by rw [a10.2.2.1 i hi, h7 i hi], a10.2.2.2⟩, a11, XG_trans hx a12 hn, YT_trans hy a13 hn, YT_trans hy a14 hn⟩
  · exact Or.inr ⟨Y', he.trans a1, FO_ahead (XG_le hx h0) (YT_le hy h0) a2⟩
theorem push_0 {N : Nat} {q c r : Int} {M M' : jMem} (h : Ru_push N q c M = some (r, M')) : r = 0 := by
  unfold Ru_push jlt jchk at h
  by_cases c0 : M q 1 < 400
  · rw [if_pos c0] at h
    by_cases c1 : 0 ≤ M q 1 ∧ M q 1 < 400
    · rw [if_pos c1, Option.some.injEq, Prod.mk.injEq] at h; exact h.1.symm
    · rw [if_neg c1] at h; cases h
  · rw [if_neg c0, Option.some.injEq, Prod.mk.injEq] at h; exact h.1.symm
theorem apply_iff {N : Nat} {q K : Int} {M M' : jMem} : Ru_apply N q K M = some (0, M') ↔ Ru_push N q (w32 (-K)) M = some (0, M') := by
  unfold Ru_apply jbv
  constructor
  · intro h
    cases hp : Ru_push N q (w32 (-K)) M with
    | none => rw [hp] at h; cases h
    | some o =>
      rw [hp, Option.bind_some, Option.some.injEq, Prod.mk.injEq] at h
      have := push_0 (r := o.1) (M' := o.2) hp
      rw [← h.2, ← this]
  · intro h
    rw [h, Option.bind_some]
theorem apply_mv {N : Nat} {q K x y z : Int} {M M' : jMem} (h : Ru_apply N q K M = some (0, M')) (h1 : q ≠ x) (h2 : q + 1 ≠ x) : Ru_apply N q K (up M x y z) = some (0, up M' x y z) := apply_iff.mpr (push_mv (apply_iff.mp h) h1 h2)
theorem apply_ex {N : Nat} {q K : Int} {M : jMem} (h : 0 ≤ M q 1) : ∃ M', Ru_apply N q K M = some (0, M') ∧ ((∀ p, p ≠ q → p ≠ q + 1 → M' p = M p) ∧ 0 ≤ M' q 1) := by
  unfold Ru_apply Ru_push jbv jlt
  by_cases c0 : M q 1 < 400
  · rw [if_pos c0, jchk_pos ⟨h, c0⟩, Option.bind_some]
    dsimp only
    refine ⟨_, rfl, fun p a b => by rw [up_ne a, up_ne b], ?_⟩
    rw [up_hit rfl rfl, up_row (show q ≠ q + 1 by omega), w32_id (by omega)]; omega
  · rw [if_neg c0, Option.bind_some]
    exact ⟨M, rfl, fun _ _ _ => rfl, h⟩
theorem tloop_F {N G : Nat} {rt rf : Int → jMem → Option (Int × jMem)} {q a1 x4 i : Int} {X : jMem} (h : FZ q X) (hq : 177 ≤ q) (hk : jkb jTX q 5 = true) (hG : 1 ≤ G) : ∃ X', jfix G (Rr_readTest_L18 N rt rf a1) (x4, 0, i, X) = some (0, X') ∧ FZ q X' ∧ XG q 0 X X' ∧ X' 2 = X 2 := by
  obtain ⟨g, rfl⟩ : ∃ g, G = g + 1 := ⟨G - 1, by omega⟩
  obtain ⟨X', p1, p2'⟩ := apply_F (N := N) (c := 23) h hq
  rw [jfix_s]
  generalize jfix g (Rr_readTest_L18 N rt rf a1) = kk
  have H : ∃ X', (if x4 = 0 then some ((0 : Int), X) else jchk (jkb jTX (X 12 1) 5 = true) <| jbv (Ru_apply N (X 12 1) 23 X) fun M9 => some ((0 : Int), M9)) = some (0, X') ∧ FZ q X' ∧ XG q 0 X X' ∧ X' 2 = X 2 := by
    by_cases c : x4 = 0
    · rw [if_pos c]; exact ⟨X, rfl, h, XG_refl, rfl⟩
    · rw [if_neg c, h.2.2.1, jchk_pos hk]
      unfold jbv
      rw [p1, Option.bind_some]
      exact ⟨X', rfl, p2'⟩
  unfold Rr_readTest_L18 jlt
  dsimp only
  rw [if_neg (show ¬ (0 : Int) = 24 by decide), if_neg (show ¬ (0 : Int) = 23 by decide)]
  by_cases c : i < 400
  · rw [if_pos c]; exact H
  · rw [if_neg c]; exact H
theorem stg_top {Y : jMem} {s l : Int} (hl : 1 ≤ l) (h : s = 0 ∨ Y 7 (s - 1) = 91) : s = 0 ∨ stg (Y 7 (s - 1)) < l := by
  rcases h with w | w
  · exact Or.inl w
  · refine Or.inr ?_
    rw [w, show stg 91 = 0 from rfl]; omega
theorem flush1 {N : Nat} (hN : 1000 ≤ N) {X M7 Y : jMem} {m j q t n v a s x b : Int} {tb tw ts : List Bool} (h : RR X Y m j q t n v a tb) (hb : (b = 0 ∧ M7 = X ∧ tb = tw) ∨ (b = 1 ∧ Ru_apply N q 24 X = some (0, M7) ∧ ∃ r, tb = true :: true :: r ∧ tw = true :: r)) (hx : (x = 0 ∧ tw = true :: ts) ∨ (x = 1 ∧ tw = true :: true :: ts)) (ho : Y 0 16 = s + x + b) (hs : 0 ≤ s) (hs2 : s + x + b < 400) (h13 : x = 1 → Y 7 s = 13) (h12 : b = 1 → Y 7 (s + x) = 12) (htop : s = 0 ∨ Y 7 (s - 1) = 91) (hn : n + b + x ≤ 400) (hd : 0 ≤ Y 0 13 ∧ Y 0 13 ≤ 10) :
    ∃ X' Z, ((x = 0 ∧ X' = M7) ∨ (x = 1 ∧ Ru_apply N q 23 M7 = some (0, X'))) ∧ m_layDown N 1 Y = some (0, Z) ∧ RR X' Z m j q t (n + b + x) v a (true :: ts) ∧ Z 0 16 = s ∧ Z 7 = Y 7 ∧ Z 0 13 = Y 0 13 ∧ Z 0 8 = Y 0 8 ∧ XG q n X X' ∧ YT t n Y Z ∧ (∀ p, p ≠ q → p ≠ q + 1 → X' p = X p) := by
  have nn := RR_nums h
  have b01 : b = 0 ∨ b = 1 := by
    rcases hb with w | w
    · exact Or.inl w.1
    · exact Or.inr w.1
  have x01 : x = 0 ∨ x = 1 := by
    rcases hx with w | w
    · exact Or.inl w.1
    · exact Or.inr w.1
  obtain ⟨f, hf⟩ : ∃ f, N = f + 1 := ⟨N - 1, by omega⟩
  obtain ⟨Z1, f1, p1, p2', p3, p4, p5, p6, p7, p8, p9, p10⟩ := pop_op (least := 1) (K := 24) (w := 12) (s := s + x) (Or.inl ⟨rfl, rfl, by omega⟩) h hb ho (by omega) h12 (by omega) hd f
  rcases hx with ⟨x0, e⟩ | ⟨x1, e⟩
  · subst x0
    rw [e] at p3
    rw [Int.add_zero] at p4
    have st := lay_stop (N := N) (f := f1) (Y := Z1) (least := 1) (by omega) (by rw [p4, p5]; exact stg_top (by omega) htop) (by omega)
    refine ⟨M7, Z1, Or.inl ⟨rfl, rfl⟩, ?_, by rw [Int.add_zero]; exact p3, p4, p5, p6, p7, p8, p9, p10⟩
    unfold m_layDown
    rw [show jfix N (m_layDown_L0 N 1) Y = jfix (f + 1) (m_layDown_L0 N 1) Y by rw [← hf], p2']
    exact st
  · subst x1
    have q1 := p3.2.2.2.1
    obtain ⟨X', a1, a2, a3⟩ := apply_ex (N := N) (q := q) (K := 23) (M := M7) (by rw [q1.1]; omega)
    obtain ⟨f2, hf2⟩ : ∃ f2, f1 = f2 + 1 := ⟨f1 - 1, by omega⟩
    obtain ⟨Z2, f3, r1, r2, r3, r4, r5, r6, r7, r8, r9, r10⟩ := pop_op (least := 1) (K := 23) (w := 13) (s := s) (b := 1) (tw := true :: ts) (Or.inr ⟨rfl, rfl, by omega⟩) p3 (Or.inr ⟨rfl, a1, ts, e, rfl⟩) p4 (by omega) (fun _ => by rw [p5]; exact h13 rfl) (by omega) (by rw [p6]; exact hd) f2
    have st := lay_stop (N := N) (f := f3) (Y := Z2) (least := 1) (by omega) (by rw [r4, r5, p5]; exact stg_top (by omega) htop) (by omega)
    refine ⟨X', Z2, Or.inr ⟨rfl, a1⟩, ?_, r3, r4, by rw [r5, p5], by rw [r6, p6], by rw [r7, p7], XG_trans p8 r8 (by omega), YT_trans p9 r9 (by omega), fun p w1 w2 => by rw [r10 p w1 w2, p10 p w1 w2]⟩
    unfold m_layDown
    rw [show jfix N (m_layDown_L0 N 1) Y = jfix (f + 1) (m_layDown_L0 N 1) Y by rw [← hf], p2', hf2, r2]
    exact st
theorem flush2 {N : Nat} (hN : 1000 ≤ N) {X M7 Y : jMem} {m j q t n v a s x b : Int} {tb tw : List Bool} (h : RR X Y m j q t n v a tb) (hb : (b = 0 ∧ M7 = X ∧ tb = tw) ∨ (b = 1 ∧ Ru_apply N q 24 X = some (0, M7) ∧ ∃ r, tb = true :: true :: r ∧ tw = true :: r)) (hx : x = 0 ∨ x = 1) (ho : Y 0 16 = s + x + b) (hs : 0 ≤ s) (hs2 : s + x + b < 400) (h13 : x = 1 → Y 7 s = 13) (h12 : b = 1 → Y 7 (s + x) = 12) (htop : s = 0 ∨ Y 7 (s - 1) = 91) (hn : n + b ≤ 400) (hd : 0 ≤ Y 0 13 ∧ Y 0 13 ≤ 10) :
    ∃ Z, m_layDown N 2 Y = some (0, Z) ∧ RR M7 Z m j q t (n + b) v a tw ∧ Z 0 16 = s + x ∧ Z 7 = Y 7 ∧ Z 0 13 = Y 0 13 ∧ Z 0 8 = Y 0 8 ∧ XG q n X M7 ∧ YT t n Y Z := by
  have b01 : b = 0 ∨ b = 1 := by
    rcases hb with w | w
    · exact Or.inl w.1
    · exact Or.inr w.1
  obtain ⟨f, hf⟩ : ∃ f, N = f + 1 := ⟨N - 1, by omega⟩
  obtain ⟨Z1, f1, p1, p2', p3, p4, p5, p6, p7, p8, p9, p10⟩ := pop_op (least := 2) (K := 24) (w := 12) (s := s + x) (Or.inl ⟨rfl, rfl, by omega⟩) h hb ho (by omega) h12 (by omega) hd f
  have top : Z1 0 16 = 0 ∨ stg (Z1 7 (Z1 0 16 - 1)) < 2 := by
    rw [p4, p5]
    rcases hx with w | w
    · subst w
      rw [Int.add_zero]; exact stg_top (by omega) htop
    · subst w
      rw [show s + 1 - 1 = s by omega, h13 rfl]
      exact Or.inr (by decide)
  have st := lay_stop (N := N) (f := f1) (Y := Z1) (least := 2) (by omega) top (by omega)
  refine ⟨Z1, ?_, p3, p4, p5, p6, p7, p8, p9⟩
  unfold m_layDown
  rw [show jfix N (m_layDown_L0 N 2) Y = jfix (f + 1) (m_layDown_L0 N 2) Y by rw [← hf], p2']
  exact st
