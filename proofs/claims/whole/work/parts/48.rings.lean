/-! rings of WELLS -/
def pth (h : Int → Int) (i : Int) : Nat → Int
  | 0 => i
  | k + 1 => h (pth h i k)
theorem pth_in {h : Int → Int} {i n : Int} (hi : 0 ≤ i ∧ i < n) (hh : ∀ f, 0 ≤ f → f < n → 0 ≤ h f ∧ h f < n) : ∀ k : Nat, 0 ≤ pth h i k ∧ pth h i k < n
  | 0 => hi
  | k + 1 => hh _ (pth_in hi hh k).1 (pth_in hi hh k).2
theorem ringX_in {N : Nat} {X : jMem} {has : Int → Int} {n : Nat} (hn : n ≤ 7) (h0 : X 21 0 = (n : Int)) (hX : ∀ i, 0 ≤ i → i < 7 → X 25 i = has i) {i : Int} (hp : ∀ k : Nat, 0 ≤ pth has i k ∧ pth has i k < (n : Int)) {x2 x4 R0 : Int} (hx2 : 0 ≤ x2 ∧ x2 < 100) (hx4 : 0 ≤ x4 ∧ x4 < 100) (h : Int × Int × Int → Option Int) : ∀ (d k : Nat) (M : Nat) (R : Int), k + d = n → d < M → (0 ≤ R ∧ R < 128) → (∀ f, 0 ≤ f → f < 7 → (R / p2 f % 2 = 1 ↔ (R0 / p2 f % 2 = 1 ∨ ∃ j : Nat, j < k ∧ pth has i j = f))) →
    ∃ R', jfix M (St_ringsOfWells_L37 N 21 X x2 x4 h) (R, pth has i k, (k : Int)) = h (x2 + 1, R', x4 + 1) ∧ (0 ≤ R' ∧ R' < 128) ∧ (∀ f, 0 ≤ f → f < 7 → (R' / p2 f % 2 = 1 ↔ (R0 / p2 f % 2 = 1 ∨ ∃ j : Nat, j < n ∧ pth has i j = f))) := by
  intro d
  induction d with
  | zero =>
    intro k M R hk hM hR hb
    obtain ⟨m, rfl⟩ : ∃ m, M = m + 1 := ⟨M - 1, by omega⟩
    rw [jfix_s]
    unfold St_ringsOfWells_L37
    dsimp only
    rw [h0, if_neg (by omega), w32_id (by omega), w32_id (by omega)]
    rw [show k = n by omega] at hb
    exact ⟨R, rfl, hR, hb⟩
  | succ d ih =>
    intro k M R hk hM hR hb
    obtain ⟨m, rfl⟩ : ∃ m, M = m + 1 := ⟨M - 1, by omega⟩
    have r := hp k
    have g := ih (k + 1) m (jor R (p2 (pth has i k))) (by omega) (by omega) (or_p2_in hR (by omega) (by omega)) (fun f f0 f1 => by
      rw [or_p2 hR (by omega) (by omega) f0 f1, hb f f0 f1]
      constructor
      · rintro ((q | ⟨j, j0, j1⟩) | q)
        · exact Or.inl q
        · exact Or.inr ⟨j, by omega, j1⟩
        · exact Or.inr ⟨k, by omega, q.symm⟩
      · rintro (q | ⟨j, j0, j1⟩)
        · exact Or.inl (Or.inl q)
        · by_cases c : j = k
          · subst c; exact Or.inr j1.symm
          · exact Or.inl (Or.inr ⟨j, by omega, j1⟩))
    rw [jfix_s]
    generalize jfix m (St_ringsOfWells_L37 N 21 X x2 x4 h) = kk at g ⊢
    unfold St_ringsOfWells_L37 jlt
    dsimp only
    rw [h0, if_pos (by omega), jchk_pos (by omega), shl_ok (by omega) (by omega), w32_id (x := (k : Int) + 1) (by omega), show (21 + 4 : Int) = 25 by omega, hX _ (by omega) (by omega)]
    exact g
theorem ringY_in {N : Nat} {Y : jMem} {n : Nat} (hn : n ≤ 7) {i : Int} (hp : ∀ k : Nat, 0 ≤ pth (fun f => Y 10 (32 + f)) i k ∧ pth (fun f => Y 10 (32 + f)) i k < (n : Int)) {x3 x5 S0 : Int} (hx3 : 0 ≤ x3 ∧ x3 < 100) (hx5 : 0 ≤ x5 ∧ x5 < 100) (h : Int × Int × Int → Option Int) : ∀ (d k : Nat) (M : Nat) (S : Int), k + d = 8 → d ≤ M → (k : Int) ≤ cnt S n → (0 ≤ S ∧ S < 128) → (∀ f, 0 ≤ f → f < 7 → (S / p2 f % 2 = 1 ↔ (S0 / p2 f % 2 = 1 ∨ ∃ j : Nat, j < k ∧ pth (fun f => Y 10 (32 + f)) i j = f))) →
    ∃ (m : Nat) (S' : Int), jfix M (m_rings_L71 N Y x3 x5 h) (S, pth (fun f => Y 10 (32 + f)) i k) = h (x3 + 1, S', x5 + 1) ∧ (0 ≤ S' ∧ S' < 128) ∧ (∀ f, 0 ≤ f → f < 7 → (S' / p2 f % 2 = 1 ↔ (S0 / p2 f % 2 = 1 ∨ ∃ j : Nat, j < m ∧ pth (fun f => Y 10 (32 + f)) i j = f))) ∧ S' / p2 (pth (fun f => Y 10 (32 + f)) i m) % 2 = 1 ∧ m ≤ n := by
  intro d
  induction d with
  | zero =>
    intro k M S hk hM hc
    have := cnt_in S n
    omega
  | succ d ih =>
    intro k M S hk hM hc hS hb
    obtain ⟨m, rfl⟩ : ∃ m, M = m + 1 := ⟨M - 1, by omega⟩
    have r := hp k
    have hcn := cnt_in S n
    rw [jfix_s]
    rcases b01 (s := S) (k := pth (fun f => Y 10 (32 + f)) i k) with c | c
    · have hbit : ∀ f, 0 ≤ f → f < 7 → (jor S (p2 (pth (fun f => Y 10 (32 + f)) i k)) / p2 f % 2 = 1 ↔ (S / p2 f % 2 = 1 ∨ f = pth (fun f => Y 10 (32 + f)) i k)) := fun f f0 f1 => or_p2 hS (by omega) (by omega) f0 f1
      have g := ih (k + 1) m (jor S (p2 (pth (fun f => Y 10 (32 + f)) i k))) (by omega) (by omega) (by
        have := cnt_lt (s := S) (t := jor S (p2 (pth (fun f => Y 10 (32 + f)) i k))) (f := (pth (fun f => Y 10 (32 + f)) i k).toNat) n (fun j hj q => (hbit (j : Int) (by omega) (by omega)).mpr (Or.inl q)) (by omega) (by rw [show (((pth (fun f => Y 10 (32 + f)) i k).toNat : Nat) : Int) = pth (fun f => Y 10 (32 + f)) i k by omega]; exact c) (by rw [show (((pth (fun f => Y 10 (32 + f)) i k).toNat : Nat) : Int) = pth (fun f => Y 10 (32 + f)) i k by omega]; exact (hbit _ (by omega) (by omega)).mpr (Or.inr rfl))
        omega) (or_p2_in hS (by omega) (by omega)) (fun f f0 f1 => by
        rw [hbit f f0 f1, hb f f0 f1]
        constructor
        · rintro ((q | ⟨j, j0, j1⟩) | q)
          · exact Or.inl q
          · exact Or.inr ⟨j, by omega, j1⟩
          · exact Or.inr ⟨k, by omega, q.symm⟩
        · rintro (q | ⟨j, j0, j1⟩)
          · exact Or.inl (Or.inl q)
          · by_cases c : j = k
            · subst c; exact Or.inr j1.symm
            · exact Or.inl (Or.inr ⟨j, by omega, j1⟩))
      generalize jfix m (m_rings_L71 N Y x3 x5 h) = kk at g ⊢
      unfold m_rings_L71 m_isOf jlt
      dsimp only
      rw [shr_ok hS.1 hS.2 (by omega) (by omega), if_neg (show ¬ S / p2 (pth (fun f => Y 10 (32 + f)) i k) % 2 = 1 by omega), Option.bind_some, if_pos rfl, w32_id (x := 32 + pth (fun f => Y 10 (32 + f)) i k) (by omega), jchk_pos (by omega), shl_ok (by omega) (by omega)]
      exact g
    · unfold m_rings_L71 m_isOf jlt
      dsimp only
      rw [shr_ok hS.1 hS.2 (by omega) (by omega), if_pos c, Option.bind_some, if_neg (by decide), w32_id (by omega), w32_id (by omega)]
      exact ⟨k, S, rfl, hS, hb, c, by omega⟩
theorem homeBits_bits {N : Nat} (hN : 1000 ≤ N) {X : jMem} {has : Int → Int} {n : Nat} (hn : n ≤ 7) (h0 : X 21 0 = (n : Int)) (hX : ∀ i, 0 ≤ i → i < 7 → X 25 i = has i) : wp (St_homeBits N 21 X) (fun s => (0 ≤ s ∧ s < 128) ∧ ∀ f, 0 ≤ f → f < 7 → (s / p2 f % 2 = 1 ↔ (f < (n : Int) ∧ has f = f))) := by
  unfold St_homeBits
  refine wp_fix (fun t => (7 - t.2).toNat) (fun (t : Int × Int) => (0 ≤ t.2 ∧ t.2 ≤ (n : Int)) ∧ (0 ≤ t.1 ∧ t.1 < 128) ∧ ∀ f, 0 ≤ f → f < 7 → (t.1 / p2 f % 2 = 1 ↔ (f < t.2 ∧ has f = f))) ?_ N _ ⟨⟨by dsimp only; omega, by dsimp only; omega⟩, ⟨by dsimp only; omega, by dsimp only; omega⟩, fun f f0 f1 => by dsimp only; rw [Int.zero_ediv]; omega⟩ (by dsimp only; omega)
  rintro h ⟨s, x⟩ ⟨hx, hs, hb⟩ ih
  dsimp only at hx hs hb
  unfold St_homeBits_L4 jlt
  dsimp only
  rw [h0]
  by_cases c : x < (n : Int)
  · rw [if_pos c, jchk_pos (by omega), show (21 + 4 : Int) = 25 by omega, hX x (by omega) (by omega), w32_id (by omega), shl_ok (by omega) (by omega)]
    by_cases c1 : has x = x
    · rw [if_pos c1]
      refine ih _ ⟨⟨by dsimp only; omega, by dsimp only; omega⟩, or_p2_in hs (by omega) (by omega), fun f f0 f1 => ?_⟩ (by dsimp only; omega)
      dsimp only
      rw [or_p2 hs (by omega) (by omega) f0 f1, hb f f0 f1]
      constructor
      · rintro (q | q)
        · exact ⟨by omega, q.2⟩
        · subst q; exact ⟨by omega, c1⟩
      · rintro ⟨q1, q2⟩
        by_cases cf : f = x
        · exact Or.inr cf
        · exact Or.inl ⟨by omega, q2⟩
    · rw [if_neg c1]
      refine ih _ ⟨⟨by dsimp only; omega, by dsimp only; omega⟩, hs, fun f f0 f1 => ?_⟩ (by dsimp only; omega)
      dsimp only
      rw [hb f f0 f1]
      constructor
      · rintro ⟨q1, q2⟩; exact ⟨by omega, q2⟩
      · rintro ⟨q1, q2⟩
        by_cases cf : f = x
        · subst cf; exact absurd q2 c1
        · exact ⟨by omega, q2⟩
  · rw [if_neg c]
    refine wp_some ⟨hs, fun f f0 f1 => ?_⟩
    rw [hb f f0 f1, show x = (n : Int) by omega]
theorem cnt_compl {s t : Int} : ∀ n : Nat, (∀ k : Nat, k < n → (s / p2 (k : Int) % 2 = 1 ↔ ¬ t / p2 (k : Int) % 2 = 1)) → cnt s n + cnt t n = (n : Int)
  | 0 => fun _ => rfl
  | k + 1 => fun h => by
    have i := cnt_compl k (fun j hj => h j (by omega))
    have g := h k (by omega)
    have b := b01 (s := s) (k := (k : Int))
    have b' := b01 (s := t) (k := (k : Int))
    unfold cnt
    omega
theorem cnt_same {s : Int} {n : Nat} : ∀ d : Nat, (∀ k : Nat, n ≤ k → k < n + d → s / p2 (k : Int) % 2 = 0) → cnt s (n + d) = cnt s n
  | 0 => fun _ => rfl
  | d + 1 => fun h => by
    have i := cnt_same d (fun k k0 k1 => h k k0 (by omega))
    have g := h (n + d) (by omega) (by omega)
    show cnt s (n + d) + s / p2 ((n + d : Nat) : Int) % 2 = cnt s n
    omega
theorem rings_ok {N : Nat} (hN : 1000 ≤ N) (a : Int) : OKp (x_rings N a) (m_rings N a) := by
  intro X Y h
  obtain ⟨r1, e1, f1, g1⟩ := within_ok N a 0 1 X Y
  obtain ⟨r2, e2, f2, g2⟩ := hasParish_ok N h
  obtain ⟨s, w, pk, -⟩ := Rel_s h
  unfold x_rings m_rings
  rw [e1, e2, f1, f2, Option.bind_some, Option.bind_some, Option.bind_some, Option.bind_some]
  by_cases c1 : r1 = 0
  · rw [if_pos c1, if_pos c1]
    by_cases c2 : r2 = 0
    · rw [if_pos c2]; exact ⟨_, rfl, rfl⟩
    · rw [if_neg c2]; exact ⟨_, rfl, rfl⟩
  · rw [if_neg c1, if_neg c1]
    by_cases c2 : r2 = 0
    · rw [if_pos c2, if_pos c2]; exact ⟨_, rfl, rfl⟩
    · rw [if_neg c2, if_neg c2]
      have w1 := w.1
      have wh := w.2.2.2.2.2.1
      have wn := w.2.2.2.2.2.2.2.2.2.1
      have wi := w.2.2.2.2.2.2.2.2.2.2.1
      obtain ⟨n, hn⟩ : ∃ n : Nat, Y 10 1 = (n : Int) := ⟨(Y 10 1).toNat, by omega⟩
      have s0 : X 21 0 = (n : Int) := by rw [← hn]; exact s.1
      have sh : ∀ i, 0 ≤ i → i < 7 → X 25 i = Y 10 (32 + i) := s.2.2.2.2.2.1
      obtain ⟨hb, hb1, hb2, hb3⟩ := homeBits_bits hN (has := fun f => Y 10 (32 + f)) (n := n) (by omega) s0 sh
      obtain ⟨k1, hk1, hk2, -, hk3⟩ := homes_ok hN s w
      obtain ⟨k2, hk4, hk5, -⟩ := homeBits_ok hN s w
      have hkk : hb = k1 := by rw [hk4] at hb1; rw [hk2] at hk5; cases hb1; cases hk5; rfl
      subst hkk
      unfold St_ringsOfWells
      rw [hb1, hk1, Option.bind_some]
      have H : wp2 (jfix N (St_ringsOfWells_L9 N 21 X) (0, hb, 0)) (jfix N (m_rings_L26 N a Y) (0, 0, 0)) (fun u v => (0 ≤ u ∧ u ≤ 7) ∧ (a = 0 → v = u) ∧ (a ≠ 0 → v = (n : Int) - pcn hb - u)) := by
        refine wp2_fix (fun t => (7 - t.2.2).toNat) (fun (t t' : Int × Int × Int) => (t.1 = t'.1 ∧ t.2.2 = t'.2.2 ∧ 0 ≤ t.1 ∧ t.1 ≤ t.2.2 ∧ t.2.2 ≤ (n : Int)) ∧ (0 ≤ t.2.1 ∧ t.2.1 < 128) ∧ (0 ≤ t'.2.1 ∧ t'.2.1 < 128) ∧ (∀ f, 0 ≤ f → f < 7 → (t.2.1 / p2 f % 2 = 1 ↔ (t'.2.1 / p2 f % 2 = 1 ∨ (f < (n : Int) ∧ Y 10 (32 + f) = f)))) ∧ (∀ f, 0 ≤ f → f < 7 → t'.2.1 / p2 f % 2 = 1 → (f < (n : Int) ∧ Y 10 (32 + f) ≠ f ∧ t'.2.1 / p2 (Y 10 (32 + f)) % 2 = 1)) ∧ (∀ f, 0 ≤ f → f < t.2.2 → t.2.1 / p2 f % 2 = 1)) ?_ N N _ _ ⟨⟨rfl, rfl, by dsimp only; omega, by dsimp only; omega, by dsimp only; omega⟩, hb2, ⟨by dsimp only; omega, by dsimp only; omega⟩, fun f f0 f1 => by dsimp only; rw [hb3 f f0 f1, Int.zero_ediv]; omega, fun f f0 f1 q => by dsimp only at q; rw [Int.zero_ediv] at q; omega, fun f f0 f1 => by dsimp only at f1; omega⟩ (by dsimp only; omega) (by dsimp only; omega)
        rintro h1 h2 ⟨x2, R, x4⟩ ⟨y3, S, y5⟩ ⟨⟨a1, a2, a3, a4, a5⟩, hR, hS, hRS, hcl, hall⟩ ih
        dsimp only at a1 a2 a3 a4 a5 hR hS hRS hcl hall
        subst a1; subst a2
        unfold St_ringsOfWells_L9 m_rings_L26 m_isOf
        dsimp only
        rw [s0, hn]
        by_cases c : x4 < (n : Int)
        · rw [if_pos c, if_pos c, shr_ok hR.1 hR.2 (by omega) (by omega), shr_ok hS.1 hS.2 (by omega) (by omega)]
          have hw := hRS x4 (by omega) (by omega)
          have stepSame : R / p2 x4 % 2 = 1 → wp2 (h1 (x2, R, x4 + 1)) (h2 (x2, S, x4 + 1)) (fun u v => (0 ≤ u ∧ u ≤ 7) ∧ (a = 0 → v = u) ∧ (a ≠ 0 → v = (n : Int) - pcn hb - u)) := fun q => ih _ _ ⟨⟨rfl, rfl, a3, by dsimp only; omega, by dsimp only; omega⟩, hR, hS, hRS, hcl, fun f f0 f1 => by
              dsimp only at f1 ⊢
              by_cases cf : f = x4
              · rw [cf]; exact q
              · exact hall f f0 (by omega)⟩ (by dsimp only; omega)
          rw [w32_id (x := x4 + 1) (by omega)]
          rcases b01 (s := S) (k := x4) with cs | cs
          · rw [if_neg (show ¬ S / p2 x4 % 2 = 1 by omega), Option.bind_some, if_pos rfl, w32_id (x := 32 + x4) (by omega), jchk_pos (by omega)]
            by_cases cf : Y 10 (32 + x4) = x4
            · have hr : R / p2 x4 % 2 = 1 := hw.mpr (Or.inr ⟨c, cf⟩)
              rw [if_pos cf, if_neg (show ¬ R / p2 x4 % 2 = 0 by omega)]
              exact stepSame hr
            · have hr : R / p2 x4 % 2 = 0 := by
                rcases b01 (s := R) (k := x4) with q | q
                · exact q
                · rcases hw.mp q with z | z
                  · omega
                  · exact absurd z.2 cf
              rw [if_neg cf, if_pos hr]
              have hp : ∀ k : Nat, 0 ≤ pth (fun f => Y 10 (32 + f)) x4 k ∧ pth (fun f => Y 10 (32 + f)) x4 k < (n : Int) := pth_in (by omega) (fun f f0 f1 => ⟨(wh f f0 (by omega)).1, by have := wn f f0 (by omega); omega⟩)
              obtain ⟨R', x1, x2', x3⟩ := ringX_in (N := N) (by omega) s0 sh hp (x2 := x2) (x4 := x4) (R0 := R) (by omega) (by omega) h1 n 0 N R (by omega) (by omega) hR (fun f f0 f1 => ⟨fun q => Or.inl q, fun q => by
                rcases q with q | ⟨j, j0, -⟩
                · exact q
                · omega⟩)
              obtain ⟨m, S', y1, y2, y3, y4, y5⟩ := ringY_in (N := N) (n := n) (by omega) hp (x3 := x2) (x5 := x4) (S0 := S) (by omega) (by omega) h2 8 0 N S (by omega) (by omega) (by have := cnt_in S n; omega) hS (fun f f0 f1 => ⟨fun q => Or.inl q, fun q => by
                rcases q with q | ⟨j, j0, -⟩
                · exact q
                · omega⟩)
              rw [show pth (fun f => Y 10 (32 + f)) x4 0 = x4 from rfl] at x1 y1
              rw [show ((0 : Nat) : Int) = 0 from rfl] at x1
              rw [x1, y1]
              have nf : ∀ k : Nat, Y 10 (32 + pth (fun f => Y 10 (32 + f)) x4 k) ≠ pth (fun f => Y 10 (32 + f)) x4 k := by
                intro k
                induction k with
                | zero => exact cf
                | succ k ik =>
                  intro q
                  refine ik ?_
                  have r1 := hp k
                  have r2 := hp (k + 1)
                  have z := wi (pth (fun f => Y 10 (32 + f)) x4 (k + 1)) (pth (fun f => Y 10 (32 + f)) x4 k) r2.1 (by omega) r1.1 (by omega) q
                  exact z
              have cl : ∀ f, 0 ≤ f → f < 7 → S' / p2 f % 2 = 1 → (f < (n : Int) ∧ Y 10 (32 + f) ≠ f ∧ S' / p2 (Y 10 (32 + f)) % 2 = 1) := by
                intro f f0 f1 q
                rcases (y3 f f0 f1).mp q with z | ⟨j, j0, j1⟩
                · obtain ⟨z1, z2, z3⟩ := hcl f f0 f1 z
                  have := wh f f0 f1
                  exact ⟨z1, z2, (y3 _ this.1 this.2).mpr (Or.inl z3)⟩
                · subst j1
                  have r1 := hp j
                  have r2 := hp (j + 1)
                  refine ⟨r1.2, nf j, ?_⟩
                  show S' / p2 (pth (fun f => Y 10 (32 + f)) x4 (j + 1)) % 2 = 1
                  by_cases cj : j + 1 = m
                  · rw [cj]; exact y4
                  · exact (y3 _ r2.1 (by omega)).mpr (Or.inr ⟨j + 1, by omega, rfl⟩)
              have pin : ∀ k : Nat, S' / p2 (pth (fun f => Y 10 (32 + f)) x4 k) % 2 = 1 := by
                intro k
                induction k with
                | zero =>
                  by_cases cm : m = 0
                  · rw [cm] at y4; exact y4
                  · exact (y3 x4 (by omega) (by omega)).mpr (Or.inr ⟨0, by omega, rfl⟩)
                | succ k ik =>
                  have r1 := hp k
                  exact (cl _ r1.1 (by omega) ik).2.2
              refine ih _ _ ⟨⟨rfl, rfl, by dsimp only; omega, by dsimp only; omega, by dsimp only; omega⟩, x2', y2, fun f f0 f1 => ?_, cl, fun f f0 f1 => ?_⟩ (by dsimp only; omega)
              · dsimp only
                rw [x3 f f0 f1, hRS f f0 f1]
                constructor
                · rintro ((q | q) | ⟨j, j0, j1⟩)
                  · exact Or.inl ((y3 f f0 f1).mpr (Or.inl q))
                  · exact Or.inr q
                  · subst j1; exact Or.inl (pin j)
                · rintro (q | q)
                  · rcases (y3 f f0 f1).mp q with z | ⟨j, j0, j1⟩
                    · exact Or.inl (Or.inl z)
                    · exact Or.inr ⟨j, by omega, j1⟩
                  · exact Or.inl (Or.inr q)
              · dsimp only at f1 ⊢
                rw [x3 f f0 (by omega)]
                by_cases cff : f = x4
                · exact Or.inr ⟨0, by omega, cff.symm⟩
                · exact Or.inl (hall f f0 (by omega))
          · have hr : R / p2 x4 % 2 = 1 := hw.mpr (Or.inl cs)
            rw [if_pos cs, Option.bind_some, if_neg (show ¬ (1 : Int) = 0 by decide), if_neg (show ¬ R / p2 x4 % 2 = 0 by omega)]
            exact stepSame hr
        · rw [if_neg c, if_neg c]
          by_cases ca : a = 0
          · rw [if_pos ca]; exact wp2_some ⟨by omega, fun _ => rfl, fun q => absurd ca q⟩
          · have hc : cnt S n + cnt hb n = (n : Int) := cnt_compl n (fun k hk => by
              rw [hb3 (k : Int) (by omega) (by omega)]
              have q1 := hall (k : Int) (by omega) (by omega)
              rw [hRS (k : Int) (by omega) (by omega)] at q1
              constructor
              · rintro z ⟨-, z2⟩
                exact (hcl (k : Int) (by omega) (by omega) z).2.1 z2
              · intro z
                rcases q1 with q | q
                · exact q
                · exact absurd q z)
            have hS7 : cnt S 7 = cnt S n := by
              have := cnt_same (s := S) (n := n) (7 - n) (fun k k0 k1 => by
                rcases b01 (s := S) (k := (k : Int)) with q | q
                · exact q
                · have := (hcl (k : Int) (by omega) (by omega) q).1; omega)
              rw [show n + (7 - n) = 7 by omega] at this; exact this
            have hb7 : cnt hb 7 = cnt hb n := by
              have := cnt_same (s := hb) (n := n) (7 - n) (fun k k0 k1 => by
                rcases b01 (s := hb) (k := (k : Int)) with q | q
                · exact q
                · have := ((hb3 (k : Int) (by omega) (by omega)).mp q).1; omega)
              rw [show n + (7 - n) = 7 by omega] at this; exact this
            rw [cnt7] at hS7 hb7
            have pi := pcn_in (s := S)
            rw [if_neg ca, bits_ok hN Y hS.1 hS.2, Option.bind_some, w32_id (by omega)]
            exact wp2_some ⟨by omega, fun q => absurd q ca, fun _ => by omega⟩
      obtain ⟨u, v, p1, p2', p3, p4, p5⟩ := H
      have pi := pcn_in (s := hb)
      rw [p1, p2', Option.bind_some]
      by_cases ca : a = 0
      · rw [if_pos ca]; exact ⟨u, rfl, by rw [p4 ca]⟩
      · rw [if_neg ca, Option.bind_some, show X 15 0 = (n : Int) by rw [← hn]; exact pk.1, w32_id (x := (n : Int) - pcn hb) (by omega), w32_id (by omega)]
        exact ⟨_, rfl, by rw [p5 ca]⟩
