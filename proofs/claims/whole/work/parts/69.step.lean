/-! each WEDDING of the fewest -/
theorem swapNames_ok {N : Nat} (hN : 1000 ≤ N) {M : jMem} {n : Nat} (hn : n ≤ 7) {a b : Int} (h7 : M 171 7 = (n : Int)) : ∃ M', Li_swapNames N a b M = some (0, M') ∧ (∀ p, p ≠ 176 → M' p = M p) ∧ (∀ j, 0 ≤ j → j < (n : Int) → M' 176 j = swV (M 176) a b j) := by
  have H : wp (Li_swapNames N a b M) (fun o => o.1 = 0 ∧ (∀ p, p ≠ 176 → o.2 p = M p) ∧ (∀ j, 0 ≤ j → j < (n : Int) → o.2 176 j = swV (M 176) a b j)) := by
    unfold Li_swapNames
    refine wp_fix (fun t => (7 - t.1).toNat) (fun (t : Int × jMem) => (0 ≤ t.1 ∧ t.1 ≤ (n : Int)) ∧ (∀ p, p ≠ 176 → t.2 p = M p) ∧ (∀ j, 0 ≤ j → j < t.1 → t.2 176 j = swV (M 176) a b j) ∧ (∀ j, t.1 ≤ j → t.2 176 j = M 176 j)) ?_ N _ ⟨⟨by dsimp only; omega, by dsimp only; omega⟩, fun _ _ => rfl, fun j j0 j1 => by dsimp only at j1; omega, fun _ _ => rfl⟩ (by dsimp only; omega)
    rintro h ⟨x, Z⟩ ⟨hx, f, g1, g2⟩ ih
    dsimp only at hx f g1 g2
    unfold Li_swapNames_L2 jlt
    dsimp only
    rw [f 171 (by omega), h7]
    by_cases c : x < (n : Int)
    · have gx := g2 x (by omega)
      rw [if_pos c, jchk_pos (by omega), jchk_pos (by omega), jchk_pos (by omega), jchk_pos (by omega), w32_id (by omega), gx]
      have upd : ∀ v, swV (M 176) a b x = v → wp (h (x + 1, up Z 176 x v)) (fun o => o.1 = 0 ∧ (∀ p, p ≠ 176 → o.2 p = M p) ∧ (∀ j, 0 ≤ j → j < (n : Int) → o.2 176 j = swV (M 176) a b j)) := fun v hv => ih _ ⟨⟨by dsimp only; omega, by dsimp only; omega⟩, fun p hp => by dsimp only; rw [up_ne hp]; exact f p hp, fun j j0 j1 => by
          dsimp only at j1 ⊢
          by_cases cj : j = x
          · rw [up_hit rfl cj, cj, hv]
          · rw [up_col cj]; exact g1 j j0 (by omega), fun j j0 => by dsimp only at j0 ⊢; rw [up_col (by omega)]; exact g2 j (by omega)⟩ (by dsimp only; omega)
      by_cases ca : M 176 x = a
      · rw [if_pos ca]; exact upd b (by unfold swV; rw [if_pos ca])
      · rw [if_neg ca]
        by_cases cb : M 176 x = b
        · rw [if_pos cb]; exact upd a (by unfold swV; rw [if_neg ca, if_pos cb])
        · rw [if_neg cb]
          exact ih _ ⟨⟨by dsimp only; omega, by dsimp only; omega⟩, f, fun j j0 j1 => by
            dsimp only at j1 ⊢
            by_cases cj : j = x
            · rw [cj, gx]; unfold swV; rw [if_neg ca, if_neg cb]
            · exact g1 j j0 (by omega), fun j j0 => by dsimp only at j0; exact g2 j (by omega)⟩ (by dsimp only; omega)
    · rw [if_neg c]
      exact wp_some ⟨rfl, f, fun j j0 j1 => g1 j j0 (by omega)⟩
  obtain ⟨⟨v, M'⟩, e, q1, q2⟩ := H
  dsimp only at q1 q2
  subst q1
  exact ⟨M', e, q2⟩
theorem swV_Pm {n a b : Int} {r : Int → Int} (h : Pm n r) (ha : 0 ≤ a ∧ a < n) (hb : 0 ≤ b ∧ b < n) (hab : a ≠ b) : Pm n (swV r a b) := by
  have ix : ∀ i, (r i = a ∧ swV r a b i = b) ∨ (r i = b ∧ swV r a b i = a) ∨ (r i ≠ a ∧ r i ≠ b ∧ swV r a b i = r i) := fun i => by
    unfold swV
    by_cases c : r i = a
    · rw [if_pos c]; exact Or.inl ⟨c, rfl⟩
    · rw [if_neg c]
      by_cases d : r i = b
      · rw [if_pos d]; exact Or.inr (Or.inl ⟨d, rfl⟩)
      · rw [if_neg d]; exact Or.inr (Or.inr ⟨c, d, rfl⟩)
  refine ⟨fun i i0 i1 => ?_, fun i j i0 i1 j0 j1 e => h.2 i j i0 i1 j0 j1 ?_⟩
  · have := h.1 i i0 i1
    rcases ix i with q | q | q <;> omega
  · rcases ix i with q | q | q <;> rcases ix j with q' | q' | q' <;> omega
theorem swV_swV {a b : Int} {r : Int → Int} {i : Int} : swV (swV r a b) a b i = r i := by
  unfold swV
  by_cases c : r i = a
  · rw [if_pos c]
    by_cases d : b = a
    · rw [if_pos d, c, d]
    · rw [if_neg d, if_pos rfl, c]
  · rw [if_neg c]
    by_cases d : r i = b
    · rw [if_pos d, if_pos rfl, d]
    · rw [if_neg d, if_neg c, if_neg d]
theorem sw_calls {n a b : Int} {c α t : Int → Int} (hab : a ≠ b) (e : ∀ i, 0 ≤ i → i < n → c (α i) = t i) : ∀ i, 0 ≤ i → i < n → sw c a b (swV α a b i) = t i := fun i i0 i1 => by
  unfold swV
  by_cases q : α i = a
  · rw [if_pos q, sw_b hab, ← q]; exact e i i0 i1
  · rw [if_neg q]
    by_cases d : α i = b
    · rw [if_pos d, sw_a, ← d]; exact e i i0 i1
    · rw [if_neg d, sw_n q d]; exact e i i0 i1
theorem next_ok {N : Nat} (hN : 6000 ≤ N) {X Y : jMem} {n : Nat} (hn : n ≤ 7) {κ c α t : Int → Int} {Qx Qy : Int → Int} {sx sy v : Int} {Dx Dy : Int → Int → Prop} (kx : KX X κ n) (ky : KY Y n) (hκ : ∀ a, Y 10 (53 + a) = κ a) (h7 : X 171 7 = (n : Int)) (bx : BI κ n (fun i => i) (rank n) (X 172) Qx sx sx Dx) (by' : BI κ n t (rank n) (Y 15) Qy sy sy Dy) (hc : Pm n c) (ha : Pm n α) (ht : Pm n t) (hα : ∀ j, 0 ≤ j → j < (n : Int) → X 176 j = α j) (e : ∀ i, 0 ≤ i → i < (n : Int) → c (α i) = t i) (hv : Y 15 (rank n c) = v) (v1 : 1 ≤ v) (v2 : v ≤ 5040) :
    ∃ a b X' Y', Kp κ n a b ∧ Y 15 (rank n (sw c a b)) = v - 1 ∧ Li_nextWedding N (v - 1) X = some (8 * a + b, X') ∧ m_nearer N (rank n c) Y = some (rank n (sw c a b), Y') ∧ (∀ p, p ≠ 176 → X' p = X p) ∧ (∀ j, 0 ≤ j → j < (n : Int) → X' 176 j = swV α a b j) ∧ (∀ p, p ≠ 0 → p ≠ 13 → p ≠ 14 → Y' p = Y p) ∧ (∀ j, j ≠ 32 → Y' 0 j = Y 0 j) ∧ Y' 0 32 = 8 * a + b := by
  have hcd := rank_Cd hn
  have same : ∀ a b, Kp κ n a b → X 172 (rank n (swV α a b)) = Y 15 (rank n (sw c a b)) := fun a b kp => by
    obtain ⟨k0, k1, k2, -⟩ := kp
    have s1 := sw_Pm hc (a := a) (b := b) ⟨k0, by omega⟩ ⟨by omega, k2⟩ (by omega)
    have s2 := swV_Pm ha (a := a) (b := b) ⟨k0, by omega⟩ ⟨by omega, k2⟩ (by omega)
    exact Nr_one (BI_end hcd id_Pm bx s2) (Nr_tr ht s1 s2 (sw_calls (by omega) e) (BI_end hcd ht by' s1))
  have ex : ∃ a b, Kp κ n a b ∧ Y 15 (rank n (sw c a b)) = v - 1 := by
    have nc := BI_end hcd ht by' hc
    rw [hv] at nc
    rcases nc with q | ⟨-, w, low⟩
    · omega
    · obtain ⟨k, hk⟩ : ∃ k, v.toNat = k + 1 := ⟨v.toNat - 1, by omega⟩
      rw [hk] at w
      obtain ⟨a, b, kp, w'⟩ := w
      refine ⟨a, b, kp, ?_⟩
      have kp' := kp
      obtain ⟨k0, k1, k2, -⟩ := kp'
      have s1 := sw_Pm hc (a := a) (b := b) ⟨k0, by omega⟩ ⟨by omega, k2⟩ (by omega)
      rcases BI_end hcd ht by' s1 with q | ⟨q0, q1, q2⟩
      · exact absurd w' (q.2 k)
      · have l1 := q2 k w'
        have st := Wd_step q1 kp
        have l2 := low _ (Wd_En _ st (fun i _ _ => sw_sw (by omega) i))
        omega
  obtain ⟨Y1, s1, s2, s3⟩ := rowOf_ok (N := N) (by omega) hn hc ky.1
  have rc := rank_in hn hc
  have H : wp2 (jfix N (Li_nextWedding_L2 N (v - 1)) (0, X)) (jfix N (m_nearer_L7 N (rank n c)) (0, Y1)) (fun o o' => ∃ a b, Kp κ n a b ∧ Y 15 (rank n (sw c a b)) = v - 1 ∧ o.1 = 8 * a + b ∧ o'.1 = rank n (sw c a b) ∧ (∀ p, p ≠ 176 → o.2 p = X p) ∧ (∀ j, 0 ≤ j → j < (n : Int) → o.2 176 j = swV α a b j) ∧ (∀ p, p ≠ 0 → p ≠ 14 → o'.2 p = Y1 p) ∧ (∀ j, j ≠ 32 → o'.2 0 j = Y1 0 j) ∧ o'.2 0 32 = 8 * a + b) := by
    refine wp2_fix (fun t => (7 - t.1).toNat) (fun (t t' : Int × jMem) => t.1 = t'.1 ∧ (0 ≤ t.1 ∧ t.1 ≤ (n : Int)) ∧ (∀ p, p ≠ 176 → t.2 p = X p) ∧ (∀ j, 0 ≤ j → j < (n : Int) → t.2 176 j = α j) ∧ (∀ p, p ≠ 14 → t'.2 p = Y1 p) ∧ (∀ a b, Kp κ n a b → a < t.1 → Y 15 (rank n (sw c a b)) ≠ v - 1)) ?_ N N _ _ ⟨rfl, ⟨by dsimp only; omega, by dsimp only; omega⟩, fun _ _ => rfl, hα, fun _ _ => rfl, fun a b kp q => by have := kp.1; dsimp only at q; omega⟩ (by dsimp only; omega) (by dsimp only; omega)
    rintro h1 h2 ⟨x1, Xo⟩ ⟨y1, Yo⟩ ⟨q0, q1, q2, q3, q4, q5⟩ ih
    dsimp only at q0 q1 q2 q3 q4 q5
    subst q0
    unfold Li_nextWedding_L2 m_nearer_L7 jlt
    dsimp only
    have o10 : Yo 10 = Y 10 := by rw [q4 10 (by omega), s2 10 (by omega)]
    rw [q2 171 (by omega), h7, o10, ky.1]
    by_cases cx : x1 < (n : Int)
    · rw [if_pos cx, if_pos cx, w32_id (by omega)]
      refine wp2_fix (fun t => (7 - t.1).toNat) (fun (t t' : Int × jMem) => t.1 = t'.1 ∧ (x1 < t.1 ∧ t.1 ≤ (n : Int)) ∧ (∀ p, p ≠ 176 → t.2 p = X p) ∧ (∀ j, 0 ≤ j → j < (n : Int) → t.2 176 j = α j) ∧ (∀ p, p ≠ 14 → t'.2 p = Y1 p) ∧ (∀ b, Kp κ n x1 b → b < t.1 → Y 15 (rank n (sw c x1 b)) ≠ v - 1)) ?_ N N _ _ ⟨rfl, ⟨by dsimp only; omega, by dsimp only; omega⟩, q2, q3, q4, fun b kp q => by have := kp.2.1; dsimp only at q; omega⟩ (by dsimp only; omega) (by dsimp only; omega)
      rintro h1' h2' ⟨x4, Xi⟩ ⟨y4, Yi⟩ ⟨p0, p1, p2', p3, p4, p5⟩ ih'
      dsimp only at p0 p1 p2' p3 p4 p5
      subst p0
      unfold Li_nextWedding_L15 m_nearer_L21
      dsimp only
      have i10 : Yi 10 = Y 10 := by rw [p4 10 (by omega), s2 10 (by omega)]
      rw [p2' 171 (by omega), h7, i10, ky.1]
      by_cases c4 : x4 < (n : Int)
      · have kxi : ∀ i, 0 ≤ i → i < 7 → Xi 20 i = κ i ∧ 0 ≤ κ i ∧ κ i < 128 := fun i i0 i1 => by rw [p2' 20 (by omega)]; exact kx.2 i i0 i1
        have kyi : KY Yi n := by unfold KY; rw [i10]; exact ky
        rw [if_pos c4, if_pos c4, areKin_ok kxi (by omega) (by omega), isKin_ok kyi (by omega) (by omega), Option.bind_some, Option.bind_some, w32_id (x := x4 + 1) (by omega), i10, hκ]
        rcases b01 (s := κ x1) (k := x4) with z | z
        · rw [if_pos z, if_pos z]
          refine ih' _ _ ⟨rfl, ⟨by dsimp only; omega, by dsimp only; omega⟩, p2', p3, p4, fun b kp q => ?_⟩ (by dsimp only; omega)
          dsimp only at q
          by_cases cb : b = x4
          · have := kp.2.2.2
            rw [cb] at this; omega
          · exact p5 b kp (by omega)
        · have kp : Kp κ n x1 x4 := ⟨by omega, by omega, c4, z⟩
          have sm' := same x1 x4 kp
          have aP := swV_Pm ha (a := x1) (b := x4) (by omega) (by omega) (by omega)
          have i7 : Xi 171 7 = (n : Int) := by rw [p2' 171 (by omega)]; exact h7
          obtain ⟨M7, w1, w2, w3⟩ := swapNames_ok (N := N) (by omega) (M := Xi) hn (a := x1) (b := x4) i7
          have r7 : ∀ j, 0 ≤ j → j < (n : Int) → M7 176 j = swV α x1 x4 j := fun j j0 j1 => by
            rw [w3 j j0 j1]; unfold swV; rw [p3 j j0 j1]
          have lf := left_ok (N := N) (by omega) hn aP (X := M7) (by rw [w2 171 (by omega)]; exact i7) r7
          rw [w2 172 (by omega), p2' 172 (by omega), sm'] at lf
          obtain ⟨M9, u1, u2⟩ := rankBy_ok (N := N) (by omega) (M := Yi) hn hc (a := x1) (b := x4) (by rw [i10]; exact ky.1) (fun j j0 j1 => by rw [p4 13 (by omega)]; exact s3 j j0 j1) (by omega) (by omega) (by omega)
          have m15 : M9 15 = Y 15 := by rw [u2 15 (by omega), p4 15 (by omega), s2 15 (by omega)]
          have rr := rank_in hn (sw_Pm hc (a := x1) (b := x4) (by omega) (by omega) (by omega))
          rw [if_neg (show ¬ κ x1 / p2 x4 % 2 = 0 by omega), if_neg (show ¬ κ x1 / p2 x4 % 2 = 0 by omega)]
          unfold jbv jb1 jlt
          rw [w1, u1, Option.bind_some, Option.bind_some]
          dsimp only
          rw [lf, Option.bind_some, jchk_pos rr, jchk_pos rc]
          simp only [m15, hv]
          rw [w32_id (x := v - 1) (by omega), w32_id (x := 8 * x1) (by omega), w32_id (x := 8 * x1 + x4) (by omega)]
          by_cases cv : Y 15 (rank n (sw c x1 x4)) = v - 1
          · rw [if_neg (show ¬ Y 15 (rank n (sw c x1 x4)) = -1 by omega), if_pos cv, if_pos cv]
            refine wp2_some ⟨x1, x4, kp, cv, rfl, rfl, fun p hp => by dsimp only; rw [w2 p hp]; exact p2' p hp, r7, fun p a0 a1 => by dsimp only; rw [up_ne a0, u2 p a1]; exact p4 p a1, fun j hj => by dsimp only; rw [up_col hj, u2 0 (by omega), p4 0 (by omega)], by dsimp only; rw [up_hit rfl rfl]⟩
          · obtain ⟨M8, t1, t2, t3⟩ := swapNames_ok (N := N) (by omega) (M := M7) hn (a := x1) (b := x4) (by rw [w2 171 (by omega)]; exact i7)
            have ne : ¬ (if Y 15 (rank n (sw c x1 x4)) = -1 then -2 else Y 15 (rank n (sw c x1 x4))) = v - 1 := by
              by_cases c1 : Y 15 (rank n (sw c x1 x4)) = -1
              · rw [if_pos c1]; omega
              · rw [if_neg c1]; exact cv
            rw [if_neg ne, if_neg cv, t1, Option.bind_some]
            refine ih' _ _ ⟨rfl, ⟨by dsimp only; omega, by dsimp only; omega⟩, fun p hp => by dsimp only; rw [t2 p hp, w2 p hp]; exact p2' p hp, fun j j0 j1 => ?_, fun p hp => by dsimp only; rw [u2 p hp]; exact p4 p hp, fun b kb q => ?_⟩ (by dsimp only; omega)
            · dsimp only
              rw [t3 j j0 j1]
              have e1 : swV (M7 176) x1 x4 j = swV (swV α x1 x4) x1 x4 j := by
                show (if M7 176 j = x1 then x4 else if M7 176 j = x4 then x1 else M7 176 j) = (if swV α x1 x4 j = x1 then x4 else if swV α x1 x4 j = x4 then x1 else swV α x1 x4 j)
                rw [r7 j j0 j1]
              rw [e1, swV_swV]
            · dsimp only at q
              by_cases cb : b = x4
              · rw [cb]; exact cv
              · exact p5 b kb (by omega)
      · rw [if_neg c4, if_neg c4, w32_id (by omega)]
        refine ih _ _ ⟨rfl, ⟨by dsimp only; omega, by dsimp only; omega⟩, p2', p3, p4, fun a b kp q => ?_⟩ (by dsimp only; omega)
        dsimp only at q
        have k2 := kp.2.2.1
        by_cases ca : a = x1
        · subst ca; exact p5 b kp (by omega)
        · exact q5 a b kp (by omega)
    · obtain ⟨a, b, kp, ev⟩ := ex
      exact absurd ev (q5 a b kp (by have := kp.2.1; have := kp.2.2.1; omega))
  obtain ⟨⟨ox, X'⟩, ⟨oy, Y'⟩, e1, e2, a, b, z1, z2, z3, z4, z5, z6, z7, z8, z9⟩ := H
  dsimp only at z3 z4 z5 z6 z7 z8 z9
  subst z3; subst z4
  refine ⟨a, b, X', Y', z1, z2, e1, ?_, z5, z6, fun p p0 p1 p2' => by rw [z7 p p0 p2', s2 p p1], fun j hj => by rw [z8 j hj, s2 0 (by omega)], z9⟩
  unfold m_nearer jbv
  rw [s1, Option.bind_some]
  exact e2
theorem step_ok {N : Nat} (hN : 6000 ≤ N) (a b c : Int) : OKT (x_step N a b c) (m_step N a b c) := by
  intro X Y h tb
  obtain ⟨r1, e1, f1, g1⟩ := within_ok N c 0 1 X Y
  obtain ⟨r3, e3, f3, g3⟩ := hasParish_ok N h
  unfold x_step m_step
  by_cases c3 : r3 = 0
  · subst c3
    rw [noParish_told f3, e1, Option.bind_some, e3, Option.bind_some]
    unfold jb1
    rw [Option.bind_some]
    dsimp only
    rw [if_pos (show (-1 : Int) < 0 by decide)]
    by_cases cb : b < 0
    · rw [if_pos cb]; exact ⟨_, _, _, rfl, rfl, h, tb⟩
    · rw [if_neg cb]
      by_cases c1 : r1 = 0
      · rw [if_pos c1]; exact ⟨_, _, _, rfl, rfl, h, tb⟩
      · rw [if_neg c1, if_pos rfl]; exact ⟨_, _, _, rfl, rfl, h, tb⟩
  · obtain ⟨n, n2, n7, hn, kx, ky, hh, x25⟩ := Rel_K h (by omega)
    obtain ⟨r, q, X', Y', a1, a2, a3, a4, a5, a6, ⟨D, a7⟩, a8⟩ := aim_ok hN (a := a) h tb n2 n7 hn kx
    have f1' : m_in N c 0 1 Y' = some r1 := f1
    have RY : Rel X Y' := Rel_lie h (fun _ _ => rfl) (fun p p0 p1 => a5 p (by omega)) (fun j _ _ => by rw [a5 0 (by omega)])
    have RX : Rel X' Y' := Rel_lie h a4 (fun p p0 p1 => a5 p (by omega)) (fun j _ _ => by rw [a5 0 (by omega)])
    rw [a2, e1, Option.bind_some, e3, Option.bind_some]
    unfold jb1
    rw [Option.bind_some]
    dsimp only
    by_cases cb : b < 0
    · rw [if_pos cb]
      by_cases cq : q < 0
      · rw [if_pos cq]; exact ⟨_, _, _, rfl, rfl, RY, tb⟩
      · rw [if_neg cq, if_pos cb]; exact ⟨_, _, _, rfl, rfl, RY, tb⟩
    · rw [if_neg cb]
      by_cases c1 : r1 = 0
      · rw [if_pos c1]
        by_cases cq : q < 0
        · rw [if_pos cq]; exact ⟨_, _, _, rfl, rfl, RY, tb⟩
        · rw [if_neg cq, if_neg cb, f1', Option.bind_some, if_pos c1]; exact ⟨_, _, _, rfl, rfl, RY, tb⟩
      · rw [if_neg c1, if_neg c3, a1, Option.bind_some]
        dsimp only
        rcases a3 with ⟨z1, z2⟩ | ⟨z1, t, z2, z3, z4⟩
        · rw [if_pos z1, if_pos (show q < 0 by omega)]; exact ⟨_, _, _, rfl, rfl, RX, a8⟩
        · have rq := rank_in n7 z3
          rw [if_neg (show ¬ r = 0 by omega), if_neg (show ¬ q < 0 by omega), if_neg cb, f1', Option.bind_some, if_neg c1]
          obtain ⟨Y2, s1, s2, D', s3⟩ := seeks_ok hN n7 z3 (by unfold KY; rw [a5 10 (by omega)]; exact ky : KY Y' n)
          rw [a5 10 (by omega)] at s3
          have y210 : Y2 10 = Y 10 := by rw [s2.1 10 (by omega) (by omega), a5 10 (by omega)]
          obtain ⟨Y3, k1, k2⟩ := rankNow_ok (N := N) (by omega) (Y := Y2) n7 (by rw [y210]; exact hn) (by rw [y210]; exact hh)
          rw [y210] at k1
          have ha := told_Pm (h := fun f => Y 10 (32 + f)) z3 z4
          have left := left_ok (N := N) (by omega) n7 ha a6 (fun _ _ _ => rfl)
          have ev := Nr_one (BI_end (rank_Cd n7) id_Pm a7 ha) (Nr_tr z3 hh ha (fun i i0 i1 => (z4 i i0 i1).2) (BI_end (rank_Cd n7) z3 s3 hh))
          have nY := BI_end (rank_Cd n7) z3 s3 hh
          have y315 : Y3 15 = Y2 15 := k2 15 (by omega)
          have rh := rank_in n7 hh
          have RR : Rel X' Y3 := Rel_lie h a4 (fun p p0 p1 => by rw [k2 p (by omega), s2.1 p p0 p1, a5 p (by omega)]) (fun j j0 _ => by rw [k2 0 (by omega), s2.2 j j0, a5 0 (by omega)])
          unfold jbv
          rw [z2, s1, Option.bind_some]
          dsimp only
          rw [k1, Option.bind_some]
          dsimp only
          rw [jchk_pos rh, jchk_pos rh]
          simp only [y315]
          unfold Li_wedding
          rw [left, Option.bind_some, ev]
          generalize hV : Y2 15 (rank n fun f => Y 10 (32 + f)) = V at nY ⊢
          by_cases cV : V = -1
          · rw [if_pos cV, if_neg (show ¬ b < -2 by omega), if_pos (show V < 0 by omega), Option.bind_some]
            dsimp only
            rw [if_pos (by decide)]
            exact ⟨_, _, _, rfl, rfl, RR, a8⟩
          · have V0 : 0 ≤ V ∧ V ≤ 77 := by
              rcases nY with z | ⟨z, w, low⟩
              · exact absurd z.1 cV
              · obtain ⟨m, m0, m1⟩ := Wd_short n7 z3 w
                have := low m m1
                omega
            rw [if_neg cV, if_neg (show ¬ V < 0 by omega)]
            by_cases cbV : b < V
            · rw [if_pos cbV, if_pos cbV]
              have H : wp2 (jfix N (Li_wedding_L20 N b V) (-2, 0, X')) (jfix N (m_step_L67 N b c) (rank n (fun f => Y 10 (32 + f)), 0, Y3)) (fun o o' => 0 ≤ o.1 ∧ o'.1 = (if c = 0 then w32 (o.1.tdiv 8) else o.1.tmod 8) ∧ (∀ p, p ≠ 176 → o.2 p = X' p) ∧ (∀ p, p ≠ 0 → p ≠ 13 → p ≠ 14 → o'.2 p = Y3 p) ∧ (∀ j, j ≠ 32 → o'.2 0 j = Y3 0 j)) := by
                refine wp2_fix (fun u => (b + 1 - u.2.1).toNat) (fun (u u' : Int × Int × jMem) => u.2.1 = u'.2.1 ∧ (0 ≤ u.2.1 ∧ u.2.1 ≤ b + 1) ∧ (∀ p, p ≠ 176 → u.2.2 p = X' p) ∧ (∀ p, p ≠ 0 → p ≠ 13 → p ≠ 14 → u'.2.2 p = Y3 p) ∧ (∀ j, j ≠ 32 → u'.2.2 0 j = Y3 0 j) ∧ (1 ≤ u.2.1 → 0 ≤ u.1 ∧ u.1 = u'.2.2 0 32) ∧ ∃ d α, Pm n d ∧ Pm n α ∧ u'.1 = rank n d ∧ (∀ j, 0 ≤ j → j < (n : Int) → u.2.2 176 j = α j) ∧ (∀ i, 0 ≤ i → i < (n : Int) → d (α i) = t i) ∧ Y2 15 (rank n d) = V - u.2.1) ?_ N N _ _ ⟨rfl, ⟨by dsimp only; omega, by dsimp only; omega⟩, fun _ _ => rfl, fun _ _ _ _ => rfl, fun _ _ => rfl, fun z => by dsimp only at z; omega, fun f => Y 10 (32 + f), X' 176, hh, ha, rfl, fun _ _ _ => rfl, fun i i0 i1 => (z4 i i0 i1).2, by dsimp only; omega⟩ (by dsimp only; omega) (by dsimp only; omega)
                rintro h1 h2 ⟨x2, x3, Xc⟩ ⟨y9, y10', Yc⟩ ⟨i0, i1, i2, i3, i4, i5, d, α, d1, d2, d3, d4, d5, d6⟩ ih
                dsimp only at i0 i1 i2 i3 i4 i5 d3 d4 d6
                subst i0; subst d3
                unfold Li_wedding_L20 m_step_L67
                dsimp only
                by_cases cx : b < x3
                · rw [if_pos cx, if_pos cx]
                  obtain ⟨o1, o2⟩ := i5 (by omega)
                  by_cases cc : c = 0
                  · rw [if_pos cc, ← o2]; exact wp2_some ⟨o1, by dsimp only; rw [if_pos cc], i2, i3, i4⟩
                  · rw [if_neg cc, ← o2]; exact wp2_some ⟨o1, by dsimp only; rw [if_neg cc], i2, i3, i4⟩
                · rw [if_neg cx, if_neg cx, w32_id (x := V - x3) (by omega), w32_id (x := V - x3 - 1) (by omega), w32_id (x := x3 + 1) (by omega)]
                  have c10 : Yc 10 = Y 10 := by rw [i3 10 (by omega) (by omega) (by omega), k2 10 (by omega)]; exact y210
                  have c15 : Yc 15 = Y2 15 := by rw [i3 15 (by omega) (by omega) (by omega)]; exact y315
                  obtain ⟨p, q', X5, Y5, n1, n2', n3, n4, n5, n6, n7', n8, n9⟩ := next_ok hN (X := Xc) (Y := Yc) n7 (κ := fun a => Y 10 (53 + a)) (c := d) (α := α) (t := t) (v := V - x3) ⟨by rw [i2 15 (by omega), a4 15 (by omega)]; exact kx.1, fun i i0 i1 => by rw [i2 20 (by omega), a4 20 (by omega)]; exact kx.2 i i0 i1⟩ (by unfold KY; rw [c10]; exact ky) (fun a => by rw [c10]) (by rw [i2 171 (by omega)]; exact a6) (by rw [i2 172 (by omega)]; exact a7) (by rw [c15]; exact s3) d1 d2 z3 d4 d5 (by rw [c15]; exact d6) (by omega) (by omega)
                  have n1' := n1
                  obtain ⟨k0, kk1, kk2, -⟩ := n1'
                  unfold jb1
                  rw [n3, n4, Option.bind_some, Option.bind_some]
                  refine ih _ _ ⟨rfl, ⟨by dsimp only; omega, by dsimp only; omega⟩, fun p hp => by dsimp only; rw [n5 p hp]; exact i2 p hp, fun p p0 p1 p2 => by dsimp only; rw [n7' p p0 p1 p2]; exact i3 p p0 p1 p2, fun j hj => by dsimp only; rw [n8 j hj]; exact i4 j hj, fun _ => ⟨by dsimp only; omega, by dsimp only; rw [n9]⟩, sw d p q', swV α p q', sw_Pm d1 ⟨k0, by omega⟩ ⟨by omega, kk2⟩ (by omega), swV_Pm d2 ⟨k0, by omega⟩ ⟨by omega, kk2⟩ (by omega), rfl, n6, sw_calls (by omega) d5, by dsimp only; rw [c15] at n2'; omega⟩ (by dsimp only; omega)
              obtain ⟨⟨ox, X5⟩, ⟨oy, Y5⟩, o1, o2, o3, o4, o5, o6, o7⟩ := H
              dsimp only at o3 o4 o5 o6 o7
              rw [o1, Option.bind_some, o2]
              dsimp only
              rw [if_neg (show ¬ ox < 0 by omega), o4]
              have RF : Rel X5 Y5 := Rel_lie RR (fun p hp => o5 p (by omega)) (fun p p0 p1 => o6 p p0 (by omega) (by omega)) (fun j _ j1 => o7 j j1)
              have TFF : TB X5 := TB_TF a8 ⟨o5 171 (by omega), o5 172 (by omega), o5 173 (by omega)⟩
              by_cases cc : c = 0
              · rw [if_pos cc, if_pos cc]; exact ⟨_, _, _, rfl, rfl, RF, TFF⟩
              · rw [if_neg cc, if_neg cc]; exact ⟨_, _, _, rfl, rfl, RF, TFF⟩
            · rw [if_neg cbV, if_neg cbV, Option.bind_some]
              dsimp only
              rw [if_pos (by decide)]
              exact ⟨_, _, _, rfl, rfl, RR, a8⟩
