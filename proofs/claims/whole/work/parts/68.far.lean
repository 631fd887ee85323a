/-! FARTHEST -/
def tp : Nat → Int
  | 0 => 1
  | k + 1 => tp k * 10
theorem tens_in {n : Nat} (hn : n ≤ 7) {r : Int → Int} (hr : Pm n r) : ∀ k : Nat, k ≤ n → 0 ≤ tens r k ∧ tens r k < tp k
  | 0, _ => ⟨Int.le_refl 0, by show (0 : Int) < 1; omega⟩
  | k + 1, hk => by
    have i := tens_in hn hr k (by omega)
    have v := hr.1 (k : Int) (by omega) (by omega)
    show 0 ≤ tens r k * 10 + r (k : Int) + 1 ∧ tens r k * 10 + r (k : Int) + 1 < tp k * 10
    omega
theorem tp_le {k : Nat} (hk : k ≤ 7) : tp k ≤ 10000000 := by
  have : ∀ j : Fin 8, tp j.val ≤ 10000000 := by decide
  exact this ⟨k, by omega⟩
theorem lieOf_ok {N : Nat} (hN : 1000 ≤ N) {M : jMem} {n : Nat} (hn : n ≤ 7) {r : Int → Int} (hr : Pm n r) (h1 : M 10 1 = (n : Int)) : ∃ M', m_lieOf N (rank n r) M = some (tens r n, M') ∧ (∀ p, p ≠ 13 → M' p = M p) := by
  obtain ⟨M1, s1, s2, s3⟩ := rowOf_ok hN hn hr h1
  refine ⟨M1, ?_, s2⟩
  have H : wp (jfix N (m_lieOf_L9 N M1) (0, 0)) (fun o => o = (tens r n, M1)) := by
    refine wp_fix (fun t => (7 - t.2).toNat) (fun (t : Int × Int) => ∃ k : Nat, k ≤ n ∧ t = (tens r k, (k : Int))) ?_ N _ ⟨0, by omega, rfl⟩ (by dsimp only; omega)
    rintro h t ⟨k, k0, e⟩ ih
    subst e
    unfold m_lieOf_L9 jlt
    dsimp only
    rw [s2 10 (by omega), h1]
    by_cases c : (k : Int) < (n : Int)
    · have v := hr.1 (k : Int) (by omega) c
      have t1 := tens_in hn hr k (by omega)
      have t2 := tp_le (k := k) (by omega)
      rw [if_pos c, jchk_pos (by omega), s3 (k : Int) (by omega) c, w32_id (x := 10 * tens r k) (by omega), w32_id (x := 10 * tens r k + r (k : Int)) (by omega), w32_id (by omega), w32_id (by omega)]
      refine ih _ ⟨k + 1, by omega, ?_⟩ (by dsimp only; omega)
      show _ = (tens r k * 10 + r (k : Int) + 1, ((k + 1 : Nat) : Int))
      rw [show ((k + 1 : Nat) : Int) = (k : Int) + 1 by omega, Int.mul_comm]
    · rw [if_neg c]; exact wp_some (by rw [show k = n by omega])
  obtain ⟨o, o1, o2⟩ := H
  unfold m_lieOf jbv
  rw [s1, Option.bind_some]
  dsimp only
  rw [o1, o2]
theorem far_facts {κ : Int → Int} {n : Nat} {g : Int → Int} {F Q : Int → Int} {s : Int} {D : Int → Int → Prop} (hn : n ≤ 7) (b : BI κ n g (rank n) F Q s s D) : 1 ≤ s ∧ s ≤ 5040 ∧ (∀ j, 0 ≤ j → j < s → ∃ r, Pm n r ∧ rank n r = Q j ∧ 0 ≤ F (Q j)) ∧ (∀ r, Pm n r → F (rank n r) = -1 ∨ ∃ j, 0 ≤ j ∧ j < s ∧ Q j = rank n r) ∧ (∀ j j', 0 ≤ j → j ≤ j' → j' < s → F (Q j) ≤ F (Q j')) := by
  obtain ⟨ρ, h1, h2, h3, h4, h5, -⟩ := b
  refine ⟨h1.1, h1.2.1, fun j j0 j1 => ?_, fun r hr => ?_, h5⟩
  · obtain ⟨q1, q2, q3, -⟩ := h2 j j0 j1
    exact ⟨ρ j, q1, q2.symm, q3⟩
  · have rr := rank_in hn hr
    exact h3 _ rr.1 rr.2
theorem farthest_ok {N : Nat} (hN : 6000 ≤ N) (a : Int) : OKT (x_farthest N a) (m_farthest N a) := by
  intro X Y h tb
  obtain ⟨r1, e1, f1, g1⟩ := within_ok N a 0 1 X Y
  obtain ⟨r3, e3, f3, g3⟩ := hasParish_ok N h
  unfold x_farthest m_farthest
  rw [e1, e3, f1, f3]
  simp only [Option.bind_some]
  by_cases c3 : r3 = 0
  · rw [if_pos c3, if_pos c3]
    by_cases c1 : r1 = 0
    · rw [if_pos c1]; exact ⟨_, _, _, rfl, rfl, h, tb⟩
    · rw [if_neg c1]; exact ⟨_, _, _, rfl, rfl, h, tb⟩
  · rw [if_neg c3, if_neg c3]
    by_cases c1 : r1 = 0
    · rw [if_pos c1, if_pos c1]; exact ⟨_, _, _, rfl, rfl, h, tb⟩
    · rw [if_neg c1, if_neg c1]
      obtain ⟨n, n2, n7, hn, kx, ky, hh, x25⟩ := Rel_K h (by omega)
      obtain ⟨X1, p1, p2', p3, ⟨D, p4⟩, p5⟩ := fill_ok hN n2 n7 kx tb
      obtain ⟨Y1, Y2, k1, k2, k3, D', k4⟩ := seekNow_ok hN n7 hn ky hh
      have y210 : Y2 10 = Y 10 := k3.1 10 (by omega) (by omega)
      obtain ⟨Y3, l1, l2⟩ := rankNow_ok (N := N) (by omega) (Y := Y2) n7 (by rw [y210]; exact hn) (by rw [y210]; exact hh)
      rw [y210] at l1
      obtain ⟨w, w1, w2, w3⟩ := back_row hh
      have vm : ∀ r, Pm n r → Y2 15 (rank n (fun i => Y 10 (32 + r i))) = X1 172 (rank n r) := fun r hr => val_map n7 id_Pm hh (fun i _ _ => rfl) p4 k4 hr
      have wm : ∀ r, Pm n r → X1 172 (rank n (fun i => w (r i))) = Y2 15 (rank n r) := fun r hr => val_map n7 hh w1 (fun i i0 i1 => w3 i i0 i1) k4 p4 hr
      obtain ⟨s1, s5, sq, sr, so⟩ := far_facts n7 p4
      have hF0 : Y2 15 (rank n fun f => Y 10 (32 + f)) = 0 := by
        obtain ⟨-, -, -, -, -, -, -, -, h8, -⟩ := k4
        exact h8.1
      have codeY : ∀ c, 0 ≤ c → c < 5040 → Y2 15 c = -1 ∨ (0 ≤ Y2 15 c ∧ ∃ r, Pm n r ∧ rank n r = c) := fun c c0 c1 => by
        rcases BI_code k4 c0 c1 with z | ⟨z, -, r, -, -, -, q1, q2⟩
        · exact Or.inl z
        · exact Or.inr ⟨z, r, q1, q2⟩
      have rh := rank_in n7 hh
      obtain ⟨rm, rm1, rm2, rm3⟩ := sq (X1 171 2 - 1) (by omega) (by omega)
      generalize hm : X1 172 (X1 173 (X1 171 2 - 1)) = m at rm3
      have maxX : ∀ r, Pm n r → X1 172 (rank n r) ≤ m := fun r hr => by
        rcases sr r hr with z | ⟨j, j0, j1, j2⟩
        · omega
        · rw [← j2, ← hm]; exact so j _ j0 (by omega) (by omega)
      have maxY : ∀ c, 0 ≤ c → c < 5040 → Y2 15 c ≤ m := fun c c0 c1 => by
        rcases codeY c c0 c1 with z | ⟨-, r, q1, q2⟩
        · omega
        · have := maxX _ (comp_Pm w1 q1)
          rw [wm r q1, q2] at this; exact this
      have hitY : 0 ≤ rank n (fun i => Y 10 (32 + rm i)) ∧ rank n (fun i => Y 10 (32 + rm i)) < 5040 ∧ Y2 15 (rank n (fun i => Y 10 (32 + rm i))) = m := by
        have rr := rank_in n7 (comp_Pm hh rm1)
        refine ⟨rr.1, rr.2, ?_⟩
        rw [vm rm rm1, rm2, hm]
      have RR : ∀ X' Y', (∀ p, p ≠ 174 → p ≠ 175 → X' p = X1 p) → (∀ p, p ≠ 13 → Y' p = Y3 p) → Rel X' Y' ∧ TB X' := fun X' Y' q1 q2 =>
        ⟨Rel_lie h (fun p hp => by rw [q1 p (by omega) (by omega)]; exact p2' p (by omega)) (fun p p0 p1 => by rw [q2 p (by omega), l2 p (by omega)]; exact k3.1 p p0 p1) (fun j j0 _ => by rw [q2 0 (by omega), l2 0 (by omega)]; exact k3.2 j j0), TB_TF p5 ⟨q1 171 (by omega) (by omega), q1 172 (by omega) (by omega), q1 173 (by omega) (by omega)⟩⟩
      have most : Li_most N X = some (m, X1) := by
        have rr := rank_in n7 rm1
        unfold Li_most jbv
        rw [p1, Option.bind_some]
        dsimp only
        rw [if_pos (by omega), w32_id (by omega), jchk_pos (by omega), jchk_pos (by rw [← rm2]; exact rr), hm]
      have HY : wp (jfix N (m_farthest_L37 N a Y3) (rank n (fun f => Y 10 (32 + f)), 0, 0)) (fun o => (a = 0 → o = (m, Y3)) ∧ (a ≠ 0 → ∃ r, Pm n r ∧ Y2 15 (rank n r) = m ∧ (∀ r', Pm n r' → Y2 15 (rank n r') = m → rank n r ≤ rank n r') ∧ o.1 = tens r n ∧ (∀ p, p ≠ 13 → o.2 p = Y3 p))) := by
        have y15 : Y3 15 = Y2 15 := l2 15 (by omega)
        refine wp_fix (fun t => (5040 - t.2.2).toNat) (fun (t : Int × Int × Int) => (0 ≤ t.2.2 ∧ t.2.2 ≤ 5040) ∧ (0 ≤ t.1 ∧ t.1 < 5040) ∧ 0 ≤ t.2.1 ∧ Y2 15 t.1 = t.2.1 ∧ (∀ c, 0 ≤ c → c < t.2.2 → Y2 15 c ≤ t.2.1) ∧ ((t.2.1 = 0 ∧ t.1 = rank n (fun f => Y 10 (32 + f))) ∨ (t.1 < t.2.2 ∧ ∀ c, 0 ≤ c → c < t.2.2 → Y2 15 c = t.2.1 → t.1 ≤ c))) ?_ N _ ⟨⟨by dsimp only; omega, by dsimp only; omega⟩, rh, by dsimp only; omega, hF0, fun c c0 c1 => by dsimp only at c1; omega, Or.inl ⟨rfl, rfl⟩⟩ (by dsimp only; omega)
        rintro hh' ⟨x8, x9, x10⟩ ⟨q1, q2, q3, q4, q5, q6⟩ ih
        dsimp only at q1 q2 q3 q4 q5 q6
        unfold m_farthest_L37 jlt
        dsimp only
        rw [y15]
        by_cases cx : x10 < 5040
        · rw [if_pos cx, jchk_pos (by omega), jchk_pos (by omega), w32_id (by omega)]
          by_cases cf : x9 < Y2 15 x10
          · rw [if_pos cf]
            refine ih _ ⟨⟨by dsimp only; omega, by dsimp only; omega⟩, ⟨by dsimp only; omega, cx⟩, by dsimp only; omega, rfl, fun c c0 c1 => ?_, Or.inr ⟨by dsimp only; omega, fun c c0 c1 ce => ?_⟩⟩ (by dsimp only; omega)
            · dsimp only at c1 ⊢
              by_cases cc : c = x10
              · rw [cc]; omega
              · have := q5 c c0 (by omega); omega
            · dsimp only at c1 ce ⊢
              by_cases cc : c = x10
              · omega
              · have := q5 c c0 (by omega); omega
          · rw [if_neg cf]
            refine ih _ ⟨⟨by dsimp only; omega, by dsimp only; omega⟩, q2, q3, q4, fun c c0 c1 => ?_, ?_⟩ (by dsimp only; omega)
            · dsimp only at c1 ⊢
              by_cases cc : c = x10
              · rw [cc]; omega
              · exact q5 c c0 (by omega)
            · rcases q6 with z | z
              · exact Or.inl z
              · refine Or.inr ⟨by dsimp only; omega, fun c c0 c1 ce => ?_⟩
                dsimp only at c1 ce ⊢
                by_cases cc : c = x10
                · omega
                · exact z.2 c c0 (by omega) ce
        · rw [if_neg cx]
          have x9m : x9 = m := by
            have a1 := maxY x8 q2.1 q2.2
            have a2 := q5 _ hitY.1 (by omega)
            rw [hitY.2.2] at a2
            omega
          by_cases ca : a = 0
          · rw [if_pos ca]; exact wp_some ⟨fun _ => by rw [x9m], fun z => absurd ca z⟩
          · rw [if_neg ca]
            rcases codeY x8 q2.1 q2.2 with z | ⟨-, r, rp, rq⟩
            · omega
            · obtain ⟨M', lo1, lo2⟩ := lieOf_ok (N := N) (by omega) (M := Y3) n7 rp (by rw [l2 10 (by omega), y210]; exact hn)
              unfold jb1
              rw [← rq, lo1, Option.bind_some]
              refine wp_some ⟨fun z => absurd z ca, fun _ => ⟨r, rp, by rw [rq, q4, x9m], fun r' hr' e => ?_, rfl, lo2⟩⟩
              have rr := rank_in n7 hr'
              rcases q6 with ⟨z1, z2⟩ | z
              · have nY := BI_end (rank_Cd n7) hh k4 hr'
                rw [e, ← x9m, z1] at nY
                have e0 : En n r' (fun f => Y 10 (32 + f)) := by
                  rcases nY with q | ⟨-, q, -⟩
                  · omega
                  · exact q
                have e1 := (rank_Cd n7).2.2 _ _ e0
                omega
              · have := z.2 _ rr.1 (by omega) (by rw [e, x9m])
                omega
      obtain ⟨⟨oy, Y4⟩, o1', o2', o3'⟩ := HY
      unfold jb1 jbv
      rw [k1, Option.bind_some]
      dsimp only
      rw [k2, Option.bind_some]
      dsimp only
      rw [l1, Option.bind_some]
      dsimp only
      rw [o1']
      by_cases ca : a = 0
      · rw [if_pos ca, most, Option.bind_some, o2' ca]
        obtain ⟨R, T⟩ := RR X1 Y3 (fun _ _ _ => rfl) (fun _ _ => rfl)
        exact ⟨_, _, _, rfl, rfl, R, T⟩
      · rw [if_neg ca]
        obtain ⟨r, rp, rF, rmin, ro, rf⟩ := o3' ca
        dsimp only at ro rf
        clear o3' o2'
        have HX : wp (jfix N (Li_leastOfFarthest_L20 N m) (10000000, X1 171 2 - 1, X1)) (fun o => (∃ r, Pm n r ∧ X1 172 (rank n r) = m ∧ o.1 = tens (fun i => Y 10 (32 + r i)) n) ∧ (∀ r, Pm n r → X1 172 (rank n r) = m → o.1 ≤ tens (fun i => Y 10 (32 + r i)) n) ∧ (∀ p, p ≠ 174 → p ≠ 175 → o.2 p = X1 p)) := by
          refine wp_fix (fun t => (t.2.1 + 1).toNat) (fun (t : Int × Int × jMem) => (-1 ≤ t.2.1 ∧ t.2.1 < X1 171 2) ∧ (∀ p, p ≠ 174 → p ≠ 175 → t.2.2 p = X1 p) ∧ (∀ j, t.2.1 < j → j < X1 171 2 → ∀ r, Pm n r → rank n r = X1 173 j → t.1 ≤ tens (fun i => Y 10 (32 + r i)) n) ∧ ((t.1 = 10000000 ∧ t.2.1 = X1 171 2 - 1) ∨ ∃ r, Pm n r ∧ X1 172 (rank n r) = m ∧ t.1 = tens (fun i => Y 10 (32 + r i)) n)) ?_ N _ ⟨⟨by dsimp only; omega, by dsimp only; omega⟩, fun _ _ _ => rfl, fun j j0 j1 => by dsimp only at j0; omega, Or.inl ⟨rfl, rfl⟩⟩ (by dsimp only; omega)
          rintro hh' ⟨x4, x5, Mc⟩ ⟨q1, q2, q3, q4⟩ ih
          dsimp only at q1 q2 q3 q4
          unfold Li_leastOfFarthest_L20
          dsimp only
          simp only [q2 173 (by omega) (by omega), q2 172 (by omega) (by omega)]
          have fin : (x5 < 0 ∨ (0 ≤ x5 ∧ X1 172 (X1 173 x5) ≠ m)) → (∃ r, Pm n r ∧ X1 172 (rank n r) = m ∧ x4 = tens (fun i => Y 10 (32 + r i)) n) ∧ (∀ r, Pm n r → X1 172 (rank n r) = m → x4 ≤ tens (fun i => Y 10 (32 + r i)) n) := fun q => by
            refine ⟨?_, fun r hr e => ?_⟩
            · rcases q4 with ⟨z1, z2⟩ | z
              · rcases q with q | ⟨q, q'⟩
                · omega
                · rw [z2, hm] at q'; omega
              · exact z
            · rcases sr r hr with z | ⟨j, j0, j1, j2⟩
              · omega
              · refine q3 j ?_ j1 r hr j2.symm
                by_cases c : x5 < j
                · exact c
                · rcases q with q | ⟨q, q'⟩
                  · omega
                  · have b1 := so j x5 j0 (by omega) q1.2
                    rw [j2, e] at b1
                    obtain ⟨r', p', e', -⟩ := sq x5 q q1.2
                    have b2 := maxX r' p'
                    rw [e'] at b2
                    omega
          by_cases c5 : x5 < 0
          · rw [if_pos c5]
            have fi := fin (Or.inl c5)
            exact wp_some ⟨fi.1, fi.2, q2⟩
          · rw [if_neg c5]
            obtain ⟨r', p', e', -⟩ := sq x5 (by omega) q1.2
            have rr := rank_in n7 p'
            rw [jchk_pos (by omega), jchk_pos (by rw [← e']; exact rr)]
            by_cases cF : X1 172 (X1 173 x5) = m
            · obtain ⟨M10, s1', s2', s3'⟩ := spread_ok (N := N) (by omega) (M := Mc) n7 p' (by rw [q2 171 (by omega) (by omega)]; exact p3)
              rw [if_pos cF, jchk_pos (by omega), ← e']
              unfold jbv
              rw [s1', Option.bind_some]
              dsimp only
              have m25 : ∀ i, 0 ≤ i → i < 7 → M10 25 i = Y 10 (32 + i) := fun i i0 i1 => by rw [s2' 25 (by omega) (by omega), q2 25 (by omega) (by omega), p2' 25 (by omega)]; exact x25 i i0 i1
              have cp := comp_Pm hh p'
              have inner : jfix N (Li_leastOfFarthest_L58 N x4 x5 hh' M10) (0, 0) = hh' (jmin x4 (tens (fun i => Y 10 (32 + r' i)) n), x5 + -1, M10) := by
                have I : ∀ (d k F : Nat), k + d = n → d < F → jfix F (Li_leastOfFarthest_L58 N x4 x5 hh' M10) (tens (fun i => Y 10 (32 + r' i)) k, (k : Int)) = hh' (jmin x4 (tens (fun i => Y 10 (32 + r' i)) n), x5 + -1, M10) := by
                  intro d
                  induction d with
                  | zero =>
                    intro k F hk hF
                    obtain ⟨m', rfl⟩ : ∃ m', F = m' + 1 := ⟨F - 1, by omega⟩
                    rw [jfix_s]
                    unfold Li_leastOfFarthest_L58 jlt
                    dsimp only
                    rw [s2' 171 (by omega) (by omega), q2 171 (by omega) (by omega), p3, if_neg (by omega), w32_id (by omega), show k = n by omega]
                  | succ d id' =>
                    intro k F hk hF
                    obtain ⟨m', rfl⟩ : ∃ m', F = m' + 1 := ⟨F - 1, by omega⟩
                    have g := id' (k + 1) m' (by omega) (by omega)
                    have v := p'.1 (k : Int) (by omega) (by omega)
                    have v' : 0 ≤ Y 10 (32 + r' (k : Int)) ∧ Y 10 (32 + r' (k : Int)) < (n : Int) := cp.1 (k : Int) (by omega) (by omega)
                    have t1 := tens_in n7 cp k (by omega)
                    have t2 := tp_le (k := k) (by omega)
                    have es : tens (fun i => Y 10 (32 + r' i)) (k + 1) = tens (fun i => Y 10 (32 + r' i)) k * 10 + Y 10 (32 + r' (k : Int)) + 1 := rfl
                    rw [jfix_s]
                    generalize jfix m' (Li_leastOfFarthest_L58 N x4 x5 hh' M10) = kk at g ⊢
                    rw [es, show ((k + 1 : Nat) : Int) = (k : Int) + 1 by omega] at g
                    unfold Li_leastOfFarthest_L58 jlt
                    dsimp only
                    rw [s2' 171 (by omega) (by omega), q2 171 (by omega) (by omega), p3, if_pos (by omega), jchk_pos (by omega), s3' (k : Int) (by omega) (by omega), jchk_pos (by omega), m25 _ v.1 (by omega), w32_id (x := tens (fun i => Y 10 (32 + r' i)) k * 10) (by omega), w32_id (x := tens (fun i => Y 10 (32 + r' i)) k * 10 + Y 10 (32 + r' (k : Int))) (by omega), w32_id (by omega), w32_id (x := (k : Int) + 1) (by omega)]
                    exact g
                exact I n 0 N (by omega) (by omega)
              rw [inner]
              have jl := jmin_l (a := x4) (b := tens (fun i => Y 10 (32 + r' i)) n)
              refine ih _ ⟨⟨by dsimp only; omega, by dsimp only; omega⟩, fun p a0 a1 => by dsimp only; rw [s2' p a0 a1]; exact q2 p a0 a1, fun j j0 j1 r0 h0 e0 => ?_, Or.inr ?_⟩ (by dsimp only; omega)
              · dsimp only at j0 ⊢
                by_cases cj : j = x5
                · rw [cj, ← e'] at e0
                  have en := (rank_Cd n7).2.1 _ _ h0 p' e0
                  have : tens (fun i => Y 10 (32 + r0 i)) n = tens (fun i => Y 10 (32 + r' i)) n := tens_eq n (fun k hk => by rw [en (k : Int) (by omega) (by omega)])
                  omega
                · have := q3 j (by omega) j1 r0 h0 e0; omega
              · dsimp only
                rw [jmin_le]
                by_cases cl : x4 < tens (fun i => Y 10 (32 + r' i)) n
                · rw [if_pos cl]
                  rcases q4 with ⟨z1, z2⟩ | z
                  · have t1 := tens_in n7 cp n (by omega)
                    have t2 := tp_le n7
                    omega
                  · exact z
                · rw [if_neg cl]; exact ⟨r', p', by rw [e']; exact cF, rfl⟩
            · rw [if_neg cF]
              have fi := fin (Or.inr ⟨by omega, cF⟩)
              exact wp_some ⟨fi.1, fi.2, q2⟩
        obtain ⟨⟨ox, X4⟩, o1, ⟨ρ, ρ1, ρ2, ρ3⟩, o3, o4⟩ := HX
        dsimp only at ρ3 o3 o4
        obtain ⟨R, T⟩ := RR X4 Y4 o4 rf
        have same : ox = oy := by
          have a1 := o3 _ (comp_Pm w1 rp) (by rw [wm r rp]; exact rF)
          have e1 : tens (fun i => Y 10 (32 + w (r i))) n = tens r n := tens_eq n (fun k hk => by
            have := rp.1 (k : Int) (by omega) (by omega)
            exact w2 _ this.1 this.2)
          rw [e1] at a1
          have cp := comp_Pm hh ρ1
          have a2 := rmin _ cp (by rw [vm ρ ρ1]; exact ρ2)
          rcases lex n7 rp cp with z | z | z
          · have e2 : tens r n = tens (fun i => Y 10 (32 + ρ i)) n := tens_eq n (fun k hk => z (k : Int) (by omega) (by omega))
            omega
          · omega
          · omega
        subst same
        refine ⟨ox, X4, Y4, ?_, rfl, R, T⟩
        unfold Li_leastOfFarthest jb1 jlt
        rw [most, Option.bind_some]
        dsimp only
        rw [w32_id (by omega), o1, Option.bind_some]
