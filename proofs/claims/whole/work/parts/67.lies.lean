/-! FEWEST, LIES, FARTHEST -/
theorem aim_ok {N : Nat} (hN : 6000 ≤ N) {X Y : jMem} {n : Nat} {a : Int} (h : Rel X Y) (ht : TB X) (h2 : 2 ≤ n) (h7 : n ≤ 7) (hn : Y 10 1 = (n : Int)) (kx : KX X (fun a => Y 10 (53 + a)) n) :
    ∃ r q X' Y', Li_aimAt N a X = some (r, X') ∧ m_rankTold N a Y = some (q, Y') ∧ ((r = 0 ∧ q = -1) ∨ (r = 1 ∧ ∃ t, q = rank n t ∧ Pm n t ∧ (∀ j, 0 ≤ j → j < (n : Int) → (0 ≤ X' 176 j ∧ X' 176 j < (n : Int)) ∧ Y 10 (32 + X' 176 j) = t j))) ∧ (∀ p, p < 171 ∨ 176 < p → X' p = X p) ∧ (∀ p, p ≠ 13 → Y' p = Y p) ∧ X' 171 7 = (n : Int) ∧ Tbl X' n (fun a => Y 10 (53 + a)) ∧ TB X' := by
  obtain ⟨s, w, -⟩ := Rel_s h
  obtain ⟨X1, f1, f2, f3, f4, f5⟩ := fill_ok hN h2 h7 kx ht
  have H : wp2 (jfix N (Li_aimAt_L21 N) (a, 0, (n : Int) - 1, X1)) (jfix N (m_rankTold_L23 N) (a, 0, (n : Int) - 1, Y)) (fun o o' => ((o.1 = 0 ∧ o'.1 = -1) ∨ (o.1 = 1 ∧ o'.1 = rank n (o'.2 13) ∧ Pm n (o'.2 13) ∧ (∀ j, 0 ≤ j → j < (n : Int) → (0 ≤ o.2 176 j ∧ o.2 176 j < (n : Int)) ∧ Y 10 (32 + o.2 176 j) = o'.2 13 j))) ∧ (∀ p, p ≠ 176 → o.2 p = X1 p) ∧ (∀ p, p ≠ 13 → o'.2 p = Y p)) := by
    refine wp2_fix (fun t => (t.2.2.1 + 1).toNat) (fun (t t' : Int × Int × Int × jMem) => (t.1 = t'.1 ∧ t.2.1 = t'.2.1 ∧ t.2.2.1 = t'.2.2.1) ∧ (-1 ≤ t.2.2.1 ∧ t.2.2.1 < (n : Int)) ∧ (0 ≤ t.2.1 ∧ t.2.1 < 128) ∧ (∀ p, p ≠ 176 → t.2.2.2 p = X1 p) ∧ (∀ p, p ≠ 13 → t'.2.2.2 p = Y p) ∧ (∀ j, t.2.2.1 < j → j < (n : Int) → (0 ≤ t'.2.2.2 13 j ∧ t'.2.2.2 13 j < (n : Int)) ∧ t.2.1 / p2 (t'.2.2.2 13 j) % 2 = 1 ∧ (0 ≤ t.2.2.2 176 j ∧ t.2.2.2 176 j < (n : Int)) ∧ Y 10 (32 + t.2.2.2 176 j) = t'.2.2.2 13 j) ∧ (∀ i j, t.2.2.1 < i → i < (n : Int) → t.2.2.1 < j → j < (n : Int) → t'.2.2.2 13 i = t'.2.2.2 13 j → i = j)) ?_ N N _ _ ⟨⟨rfl, rfl, rfl⟩, ⟨by dsimp only; omega, by dsimp only; omega⟩, ⟨by dsimp only; omega, by dsimp only; omega⟩, fun _ _ => rfl, fun _ _ => rfl, fun j j0 j1 => by dsimp only at j0; omega, fun i j i0 i1 => by dsimp only at i0; omega⟩ (by dsimp only; omega) (by dsimp only; omega)
    rintro h1 h2' ⟨x3, x4, x5, Xc⟩ ⟨y3, y4, y5, Yc⟩ ⟨⟨j1, j2, j3⟩, hx, hb, gx, gy', hv, hi⟩ ih
    dsimp only at j1 j2 j3 hx hb gx gy' hv hi
    subst j1; subst j2; subst j3
    unfold Li_aimAt_L21 m_rankTold_L23 m_isOne m_isOf jlt
    dsimp only
    have y10 : Yc 10 = Y 10 := gy' 10 (by omega)
    have x171 : Xc 171 7 = (n : Int) := by rw [gx 171 (by omega)]; exact f3
    simp only [x171, y10, hn]
    by_cases c5 : x5 < 0
    · rw [if_pos c5, if_pos c5]
      by_cases c3 : x3 = 0
      · have pm : Pm n (Yc 13) := ⟨fun i i0 i1 => (hv i (by omega) i1).1, fun i j i0 i1 q0 q1 e => hi i j (by omega) i1 (by omega) q1 e⟩
        rw [if_pos c3, if_pos c3, rankOf_ok (by omega) h7 pm (by rw [y10]; exact hn) (fun _ _ _ => rfl), Option.bind_some]
        exact wp2_some ⟨Or.inr ⟨rfl, rfl, pm, fun j q0 q1 => ⟨(hv j (by omega) q1).2.2.1, (hv j (by omega) q1).2.2.2⟩⟩, gx, gy'⟩
      · rw [if_neg c3, if_neg c3]; exact wp2_some ⟨Or.inl ⟨rfl, rfl⟩, gx, gy'⟩
    · rw [if_neg c5, if_neg c5]
      generalize w32 (x3.tmod 10 - 1) = v
      generalize w32 (x3.tdiv 10) = x3'
      by_cases v0 : v < 0
      · rw [if_pos v0, if_pos v0, Option.bind_some, if_pos rfl]; exact wp2_some ⟨Or.inl ⟨rfl, rfl⟩, gx, gy'⟩
      · rw [if_neg v0, if_neg v0]
        by_cases v1 : v < (n : Int)
        · rw [if_pos v1, if_pos v1, Option.bind_some, if_neg (show ¬ (1 : Int) = 0 by decide), shr_ok hb.1 hb.2 (by omega) (by omega)]
          rcases b01 (s := x4) (k := v) with z | z
          · rw [if_pos z, if_neg (show ¬ x4 / p2 v % 2 = 1 by omega), Option.bind_some, if_pos rfl, shl_ok (by omega) (by omega), w32_id (x := x5 + -1) (by omega)]
            obtain ⟨f, q1, -, q2, q3, q4⟩ := farmOf_ok (N := N) (by omega) (SR_congr (X' := Xc) s (fun p a b => by rw [gx p (by omega)]; exact f2 p (by omega))) w (w := v) (by rw [hn]; omega)
            rw [q1, Option.bind_some, jchk_pos (by omega), jchk_pos (by omega)]
            refine ih _ _ ⟨⟨rfl, rfl, rfl⟩, ⟨by dsimp only; omega, by dsimp only; omega⟩, or_p2_in hb (by omega) (by omega), fun p hp => by dsimp only; rw [up_ne hp]; exact gx p hp, fun p hp => by dsimp only; rw [up_ne hp]; exact gy' p hp, fun j j0 j1 => ?_, fun i j i0 i1 q0 q1' e => ?_⟩ (by dsimp only; omega)
            · dsimp only at j0 ⊢
              by_cases cj : j = x5
              · rw [up_hit rfl cj, up_hit rfl cj]
                exact ⟨⟨by omega, v1⟩, (or_p2 hb (by omega) (by omega) (by omega) (by omega)).mpr (Or.inr rfl), ⟨q2, by omega⟩, q4⟩
              · rw [up_col cj, up_col cj]
                obtain ⟨z1, z2, z3, z4⟩ := hv j (by omega) j1
                exact ⟨z1, (or_p2 hb (by omega) (by omega) (by omega) (by omega)).mpr (Or.inl z2), z3, z4⟩
            · dsimp only at i0 q0 e
              by_cases ci : i = x5
              · by_cases cj : j = x5
                · omega
                · rw [up_hit rfl ci, up_col cj] at e
                  have := (hv j (by omega) q1').2.1
                  rw [← e] at this; omega
              · by_cases cj : j = x5
                · rw [up_col ci, up_hit rfl cj] at e
                  have := (hv i (by omega) i1).2.1
                  rw [e] at this; omega
                · rw [up_col ci, up_col cj] at e
                  exact hi i j (by omega) i1 (by omega) q1' e
          · rw [if_neg (show ¬ x4 / p2 v % 2 = 0 by omega), if_pos z, Option.bind_some, if_neg (show ¬ (1 : Int) = 0 by decide)]
            exact wp2_some ⟨Or.inl ⟨rfl, rfl⟩, gx, gy'⟩
        · rw [if_neg v1, if_neg v1, Option.bind_some, if_pos rfl]; exact wp2_some ⟨Or.inl ⟨rfl, rfl⟩, gx, gy'⟩
  obtain ⟨⟨r, X'⟩, ⟨q, Y'⟩, e1, e2, q1, q2, q3⟩ := H
  dsimp only at q1 q2 q3
  have fr : TF X1 X' := ⟨q2 171 (by omega), q2 172 (by omega), q2 173 (by omega)⟩
  refine ⟨r, q, X', Y', ?_, ?_, ?_, fun p hp => by rw [q2 p (by omega)]; exact f2 p (by omega), q3, by rw [q2 171 (by omega)]; exact f3, ?_, TB_TF f5 fr⟩
  · unfold Li_aimAt jbv jlt
    rw [f1, Option.bind_some]
    dsimp only
    rw [f3, w32_id (by omega)]
    exact e1
  · obtain ⟨r3, e3, g3, i3⟩ := hasParish_ok N h
    unfold m_rankTold jlt
    rw [g3, Option.bind_some, if_neg (by omega), hn, w32_id (by omega)]
    exact e2
  · rcases q1 with z | ⟨z1, z2, z3, z4⟩
    · exact Or.inl z
    · exact Or.inr ⟨z1, Y' 13, z2, z3, z4⟩
  · unfold Tbl; rw [q2 172 (by omega), q2 173 (by omega), q2 171 (by omega)]; exact f4
theorem told_Pm {n : Nat} {h t α : Int → Int} (ht : Pm n t) (hj : ∀ j, 0 ≤ j → j < (n : Int) → (0 ≤ α j ∧ α j < (n : Int)) ∧ h (α j) = t j) : Pm n α :=
  ⟨fun i i0 i1 => (hj i i0 i1).1, fun i j i0 i1 j0 j1 e => ht.2 i j i0 i1 j0 j1 (by rw [← (hj i i0 i1).2, ← (hj j j0 j1).2, e])⟩
theorem left_ok {N : Nat} (hN : 1000 ≤ N) {X : jMem} {n : Nat} (hn : n ≤ 7) {α : Int → Int} (ha : Pm n α) (h7 : X 171 7 = (n : Int)) (hα : ∀ j, 0 ≤ j → j < (n : Int) → X 176 j = α j) : Li_fewestLeft N X = some (if X 172 (rank n α) = -1 then -2 else X 172 (rank n α)) := by
  have rr := rank_in hn ha
  unfold Li_fewestLeft jlt
  rw [placeOf_ok hN hn ha h7 hα, Option.bind_some, jchk_pos rr]
  dsimp only
  by_cases c : X 172 (rank n α) = -1
  · rw [if_pos c, if_pos c]
  · rw [if_neg c, if_neg c]
theorem noParish_told {N : Nat} {Y : jMem} {a : Int} (h : m_isParish N Y = some 0) : m_rankTold N a Y = some (-1, Y) := by
  unfold m_rankTold; rw [h, Option.bind_some, if_pos rfl]
theorem fewest_ok {N : Nat} (hN : 6000 ≤ N) (a : Int) : OKT (x_fewest N a) (m_fewest N a) := by
  intro X Y h tb
  obtain ⟨r3, e3, f3, g3⟩ := hasParish_ok N h
  unfold x_fewest m_fewest
  rw [e3, Option.bind_some]
  by_cases c3 : r3 = 0
  · subst c3
    rw [if_pos rfl, noParish_told f3]
    unfold jb1
    rw [Option.bind_some]
    dsimp only
    rw [if_pos (by decide)]
    exact ⟨_, _, _, rfl, rfl, h, tb⟩
  · rw [if_neg c3]
    obtain ⟨n, n2, n7, hn, kx, ky, hh, x25⟩ := Rel_K h (by omega)
    obtain ⟨r, q, X', Y', a1, a2, a3, a4, a5, a6, ⟨D, a7⟩, a8⟩ := aim_ok hN (a := a) h tb n2 n7 hn kx
    unfold jb1 jbv
    rw [a1, a2, Option.bind_some, Option.bind_some]
    dsimp only
    rcases a3 with ⟨z1, z2⟩ | ⟨z1, t, z2, z3, z4⟩
    · rw [if_pos z1, if_pos (by omega)]
      exact ⟨_, _, _, rfl, rfl, Rel_lie h a4 (fun p p0 p1 => a5 p (by omega)) (fun j _ _ => by rw [a5 0 (by omega)]), a8⟩
    · have rq := rank_in n7 z3
      have kyY' : KY Y' n := by unfold KY; rw [a5 10 (by omega)]; exact ky
      obtain ⟨Y2, s1, s2, D', s3⟩ := seeks_ok hN n7 z3 kyY'
      rw [a5 10 (by omega)] at s3
      have y210 : Y2 10 = Y 10 := by rw [s2.1 10 (by omega) (by omega), a5 10 (by omega)]
      obtain ⟨Y3, k1, k2⟩ := rankNow_ok (N := N) (by omega) (Y := Y2) n7 (by rw [y210]; exact hn) (by rw [y210]; exact hh)
      rw [y210] at k1
      have ha := told_Pm (h := fun f => Y 10 (32 + f)) z3 z4
      have left := left_ok (N := N) (by omega) n7 ha a6 (fun _ _ _ => rfl)
      have nX := BI_end (rank_Cd n7) id_Pm a7 ha
      have nY := BI_end (rank_Cd n7) z3 s3 hh
      have ev := Nr_one nX (Nr_tr z3 hh ha (fun i i0 i1 => (z4 i i0 i1).2) nY)
      have rh := rank_in n7 hh
      have vr : Y2 15 (rank n fun f => Y 10 (32 + f)) = -1 ∨ 0 ≤ Y2 15 (rank n fun f => Y 10 (32 + f)) := by
        rcases nY with q | q
        · exact Or.inl q.1
        · exact Or.inr q.1
      rw [if_neg (show ¬ r = 0 by omega), if_neg (show ¬ q < 0 by omega), left, z2, s1, Option.bind_some, Option.bind_some]
      dsimp only
      rw [k1, Option.bind_some]
      unfold jlt
      dsimp only
      rw [jchk_pos rh, k2 15 (by omega), ev]
      have RR : Rel X' Y3 := Rel_lie h a4 (fun p p0 p1 => by rw [k2 p (by omega), s2.1 p p0 p1, a5 p (by omega)]) (fun j j0 _ => by rw [k2 0 (by omega), s2.2 j j0, a5 0 (by omega)])
      by_cases cv : Y2 15 (rank n fun f => Y 10 (32 + f)) = -1
      · rw [if_pos cv, if_pos (by omega)]; exact ⟨_, _, _, rfl, rfl, RR, a8⟩
      · rw [if_neg cv, if_neg (by omega)]; exact ⟨_, _, _, rfl, rfl, RR, a8⟩
theorem seekNow_ok {N : Nat} (hN : 6000 ≤ N) {Y : jMem} {n : Nat} (h7 : n ≤ 7) (hn : Y 10 1 = (n : Int)) (ky : KY Y n) (hh : Pm n (fun f => Y 10 (32 + f))) : ∃ Y1 Y2, m_rankNow N Y = some (rank n (fun f => Y 10 (32 + f)), Y1) ∧ m_seeks N (rank n (fun f => Y 10 (32 + f))) Y1 = some (0, Y2) ∧ LY Y Y2 ∧ ∃ D, BI (fun a => Y 10 (53 + a)) n (fun f => Y 10 (32 + f)) (rank n) (Y2 15) (Y2 16) (Y2 0 31) (Y2 0 31) D := by
  obtain ⟨Y1, k1, k2⟩ := rankNow_ok (N := N) (by omega) h7 hn hh
  obtain ⟨Y2, s1, s2, s3⟩ := seeks_ok hN h7 hh (by unfold KY; rw [k2 10 (by omega)]; exact ky : KY Y1 n)
  rw [k2 10 (by omega)] at s3
  exact ⟨Y1, Y2, k1, s1, ⟨fun p p0 p1 => by rw [s2.1 p p0 p1, k2 p (by omega)], fun j hj => by rw [s2.2 j hj, k2 0 (by omega)]⟩, s3⟩
theorem lies_ok {N : Nat} (hN : 6000 ≤ N) (a : Int) : OKT (x_lies N a) (m_lies N a) := by
  intro X Y h tb
  obtain ⟨r1, e1, f1, g1⟩ := within_ok N a 0 30 X Y
  obtain ⟨r3, e3, f3, g3⟩ := hasParish_ok N h
  unfold x_lies m_lies
  rw [e1, e3, f1, f3]
  simp only [Option.bind_some]
  by_cases c3 : r3 = 0
  · rw [if_pos c3, if_pos c3]
    by_cases c1 : r1 = 0
    · rw [if_pos c1]; exact ⟨_, _, _, rfl, rfl, h, tb⟩
    · rw [if_neg c1]; exact ⟨_, _, _, rfl, rfl, h, tb⟩
  · rw [if_neg c3, if_neg c3]
    by_cases c1 : r1 = 0
    · rw [if_pos c1, if_pos c1]; exact ⟨_, _, _, rfl, rfl, h, tb⟩
    · rw [if_neg c1, if_neg c1]
      obtain ⟨n, n2, n7, hn, kx, ky, hh, x25⟩ := Rel_K h (by omega)
      obtain ⟨X1, p1, p2', p3, ⟨D, p4⟩, p5⟩ := fill_ok hN n2 n7 kx tb
      obtain ⟨Y1, Y2, k1, k2, k3, D', k4⟩ := seekNow_ok hN n7 hn ky hh
      have RR : Rel X1 Y2 := Rel_lie h (fun p hp => p2' p (by omega)) k3.1 (fun j j0 _ => k3.2 j j0)
      obtain ⟨w, w1, w2, w3⟩ := back_row hh
      have HX : wp (jfix N (Li_reachedWithin_L7 N a X1) 0) (fun o => o = (cq (fun c => if 0 ≤ X1 172 (c : Int) ∧ X1 172 (c : Int) ≤ a then (1 : Int) else 0) 5040, X1)) := by
        obtain ⟨ρ, h1, h2, h3, h4, h5, h6, h7, h8, h9⟩ := p4
        refine wp_fix (fun t => (5041 - t).toNat) (fun t => 0 ≤ t ∧ t ≤ X1 171 2 ∧ ∀ j, 0 ≤ j → j < t → X1 172 (X1 173 j) ≤ a) ?_ N _ ⟨by omega, by omega, fun j j0 j1 => by omega⟩ (by omega)
        rintro hh' x ⟨x0, x1, x2⟩ ih
        have fin : (x = X1 171 2 ∨ (x < X1 171 2 ∧ a < X1 172 (X1 173 x))) → x = cq (fun c => if 0 ≤ X1 172 (c : Int) ∧ X1 172 (c : Int) ≤ a then (1 : Int) else 0) 5040 := fun q => by
          rw [h9 a]
          have A : cq (fun j => if X1 172 (X1 173 (j : Int)) ≤ a then (1 : Int) else 0) x.toNat = x := by
            have : ∀ m : Nat, (m : Int) ≤ x → cq (fun j => if X1 172 (X1 173 (j : Int)) ≤ a then (1 : Int) else 0) m = (m : Int) := by
              intro m; induction m with
              | zero => intro _; rfl
              | succ m im =>
                intro hm
                show cq (fun j => if X1 172 (X1 173 (j : Int)) ≤ a then (1 : Int) else 0) m + (if X1 172 (X1 173 (m : Int)) ≤ a then (1 : Int) else 0) = _
                rw [im (by omega), if_pos (x2 (m : Int) (by omega) (by omega))]; omega
            rw [this x.toNat (by omega)]; omega
          have B : ∀ d : Nat, x.toNat + d ≤ (X1 171 2).toNat → cq (fun j => if X1 172 (X1 173 (j : Int)) ≤ a then (1 : Int) else 0) (x.toNat + d) = x := by
            intro d; induction d with
            | zero => intro _; exact A
            | succ d id' =>
              intro hd
              show cq (fun j => if X1 172 (X1 173 (j : Int)) ≤ a then (1 : Int) else 0) (x.toNat + d) + (if X1 172 (X1 173 ((x.toNat + d : Nat) : Int)) ≤ a then (1 : Int) else 0) = x
              rcases q with q | ⟨q1, q2⟩
              · omega
              · have := h5 x ((x.toNat + d : Nat) : Int) x0 (by omega) (by omega)
                rw [id' (by omega), if_neg (by omega)]; omega
          have := B ((X1 171 2).toNat - x.toNat) (by omega)
          rw [show x.toNat + ((X1 171 2).toNat - x.toNat) = (X1 171 2).toNat by omega] at this
          exact this.symm
        unfold Li_reachedWithin_L7
        dsimp only
        by_cases cx : x < X1 171 2
        · obtain ⟨q1, q2, q3, -⟩ := h2 x x0 cx
          have rr := rank_in n7 q1
          rw [if_pos cx, jchk_pos (by omega), jchk_pos (by rw [q2]; exact rr)]
          by_cases ca : a < X1 172 (X1 173 x)
          · rw [if_pos ca]; exact wp_some (by rw [← fin (Or.inr ⟨cx, ca⟩)])
          · rw [if_neg ca, w32_id (by omega)]
            exact ih _ ⟨by omega, by omega, fun j j0 j1 => by
              by_cases cj : j = x
              · rw [cj]; omega
              · exact x2 j j0 (by omega)⟩ (by omega)
        · rw [if_neg cx]; exact wp_some (by rw [← fin (Or.inl (by omega))])
      have HY : wp (jfix N (m_lies_L33 N a Y2) (0, 0)) (fun o => o = (cq (fun c => if 0 ≤ Y2 15 (c : Int) ∧ Y2 15 (c : Int) ≤ a then (1 : Int) else 0) 5040, Y2)) := by
        refine wp_fix (fun t => (5040 - t.2).toNat) (fun (t : Int × Int) => ∃ k : Nat, k ≤ 5040 ∧ t = (cq (fun c => if 0 ≤ Y2 15 (c : Int) ∧ Y2 15 (c : Int) ≤ a then (1 : Int) else 0) k, (k : Int))) ?_ N _ ⟨0, by omega, rfl⟩ (by dsimp only; omega)
        rintro hh' t ⟨k, q0, e⟩ ih
        subst e
        unfold m_lies_L33 jlt
        dsimp only
        have mu : (k : Int) < 5040 → (5040 - ((k : Int) + 1)).toNat < (5040 - (k : Int)).toNat := fun z => by omega
        have ci := cq_le (f := fun c => if 0 ≤ Y2 15 (c : Int) ∧ Y2 15 (c : Int) ≤ a then (1 : Int) else 0) (fun _ => ind_in) k
        by_cases ck : (k : Int) < 5040
        · obtain ⟨r, -, m1, m2⟩ := within_ok N (Y2 15 (k : Int)) 0 a X Y2
          rw [if_pos ck, jchk_pos (by omega), m1, Option.bind_some, w32_id (x := (k : Int) + 1) (by omega)]
          have es : cq (fun c => if 0 ≤ Y2 15 (c : Int) ∧ Y2 15 (c : Int) ≤ a then (1 : Int) else 0) (k + 1) = cq (fun c => if 0 ≤ Y2 15 (c : Int) ∧ Y2 15 (c : Int) ≤ a then (1 : Int) else 0) k + (if 0 ≤ Y2 15 (k : Int) ∧ Y2 15 (k : Int) ≤ a then (1 : Int) else 0) := rfl
          rcases m2 with ⟨z1, z2⟩ | ⟨z1, z2⟩
          · rw [if_neg (by omega), w32_id (by omega)]
            rw [if_pos z2] at es
            exact ih _ ⟨k + 1, by omega, by rw [es, show ((k + 1 : Nat) : Int) = (k : Int) + 1 by omega]⟩ (mu ck)
          · rw [if_pos z1, w32_id (by omega)]
            rw [if_neg z2] at es
            exact ih _ ⟨k + 1, by omega, by rw [es, show ((k + 1 : Nat) : Int) = (k : Int) + 1 by omega]⟩ (mu ck)
        · rw [if_neg ck]; exact wp_some (by rw [show k = 5040 by omega])
      have c1' := count_le n7 id_Pm hh (fun i _ _ => rfl) p4 k4 a
      have c2' := count_le n7 hh w1 (fun i i0 i1 => w3 i i0 i1) k4 p4 a
      obtain ⟨o, o1, o2⟩ := HX
      obtain ⟨o', o1', o2'⟩ := HY
      unfold jb1 jbv Li_reachedWithin
      rw [k1, Option.bind_some]
      dsimp only
      rw [k2, Option.bind_some]
      dsimp only
      rw [o1', o2']
      unfold jbv
      rw [p1, Option.bind_some]
      dsimp only
      rw [o1, o2, Option.bind_some]
      refine ⟨_, _, _, rfl, ?_, RR, p5⟩
      dsimp only
      rw [show cq (fun c => if 0 ≤ Y2 15 (c : Int) ∧ Y2 15 (c : Int) ≤ a then (1 : Int) else 0) 5040 = cq (fun c => if 0 ≤ X1 172 (c : Int) ∧ X1 172 (c : Int) ≤ a then (1 : Int) else 0) 5040 from Int.le_antisymm c2' c1']
