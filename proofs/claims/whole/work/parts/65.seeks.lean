/-! the reference seeks -/
def LY (M M' : jMem) : Prop := (∀ p, p ≠ 0 → p < 13 ∨ 16 < p → M' p = M p) ∧ (∀ j, j ≠ 31 → M' 0 j = M 0 j)
theorem LY_refl {M : jMem} : LY M M := ⟨fun _ _ _ => rfl, fun _ _ => rfl⟩
theorem LY_trans {M M' M'' : jMem} (h : LY M M') (h' : LY M' M'') : LY M M'' := ⟨fun p a b => by rw [h'.1 p a b, h.1 p a b], fun j a => by rw [h'.2 j a, h.2 j a]⟩
def KY (M : jMem) (n : Int) : Prop := M 10 1 = n ∧ ∀ i, 0 ≤ i → i < 7 → 0 ≤ M 10 (53 + i) ∧ M 10 (53 + i) < 128
theorem isKin_ok {N : Nat} {M : jMem} {n a b : Int} (hk : KY M n) (ha : 0 ≤ a ∧ a < 7) (hb : 0 ≤ b ∧ b < 7) : m_isKin N a b M = some (M 10 (53 + a) / p2 b % 2) := by
  have k := hk.2 a ha.1 ha.2
  unfold m_isKin m_isOf
  rw [w32_id (by omega), jchk_pos (by omega), shr_ok k.1 k.2 hb.1 hb.2]
  rcases b01 (s := M 10 (53 + a)) (k := b) with z | z
  · rw [if_neg (by omega), Option.bind_some, jchk_pos (Or.inl rfl), z]
  · rw [if_pos z, Option.bind_some, jchk_pos (Or.inr rfl), z]
theorem rankBy_ok {N : Nat} (hN : 1000 ≤ N) {M : jMem} {n : Nat} (hn : n ≤ 7) {r : Int → Int} {a b : Int} (hr : Pm n r) (h1 : M 10 1 = (n : Int)) (hq : ∀ i, 0 ≤ i → i < (n : Int) → M 13 i = r i) (ha : 0 ≤ a ∧ a < (n : Int)) (hb : 0 ≤ b ∧ b < (n : Int)) (hab : a ≠ b) : ∃ M', m_rankBy N a b M = some (rank n (sw r a b), M') ∧ (∀ p, p ≠ 14 → M' p = M p) := by
  have H : wp (m_rankBy N a b M) (fun o => o.1 = rank n (sw r a b) ∧ (∀ p, p ≠ 14 → o.2 p = M p)) := by
    unfold m_rankBy
    refine wp_fix (fun t => (7 - t.1).toNat) (fun (t : Int × jMem) => (0 ≤ t.1 ∧ t.1 ≤ (n : Int)) ∧ (∀ p, p ≠ 14 → t.2 p = M p) ∧ (∀ i, 0 ≤ i → i < t.1 → t.2 14 i = r i)) ?_ N _ ⟨⟨by dsimp only; omega, by dsimp only; omega⟩, fun _ _ => rfl, fun i i0 i1 => by dsimp only at i1; omega⟩ (by dsimp only; omega)
    rintro h ⟨x, Z⟩ ⟨hx, f, g⟩ ih
    dsimp only at hx f g
    unfold m_rankBy_L2 jlt
    dsimp only
    rw [f 10 (by omega), f 13 (by omega), h1]
    by_cases c : x < (n : Int)
    · rw [if_pos c, jchk_pos (by omega), jchk_pos (by omega), w32_id (by omega)]
      exact ih _ ⟨⟨by dsimp only; omega, by dsimp only; omega⟩, fun p hp => by dsimp only; rw [up_ne hp]; exact f p hp, fun i i0 i1 => by
        dsimp only at i1 ⊢
        by_cases ci : i = x
        · rw [up_hit rfl ci, hq x (by omega) c, ci]
        · rw [up_col ci]; exact g i i0 (by omega)⟩ (by dsimp only; omega)
    · rw [if_neg c, jchk_pos (by omega), jchk_pos (by omega), jchk_pos (by omega), jchk_pos (by omega), up_row (q' := 13) (by omega), f 13 (by omega), hq a ha.1 ha.2, hq b hb.1 hb.2]
      have rk := rankOf_ok hN (M := up (up Z 14 a (r b)) 14 b (r a)) (q := 14) hn (sw_Pm hr ha hb hab) (by rw [up_row (by omega), up_row (by omega), f 10 (by omega)]; exact h1) (fun i i0 i1 => by
        by_cases ci : i = b
        · rw [up_hit rfl ci, ci, sw_b hab]
        · rw [up_col ci]
          by_cases cj : i = a
          · rw [up_hit rfl cj, cj, sw_a]
          · rw [up_col cj, sw_n cj ci]; exact g i i0 (by omega))
      rw [rk, Option.bind_some]
      exact wp_some ⟨rfl, fun p hp => by dsimp only; rw [up_ne hp, up_ne hp]; exact f p hp⟩
  obtain ⟨⟨v, M'⟩, e, q1, q2⟩ := H
  dsimp only at q1 q2
  subst q1
  exact ⟨M', e, q2⟩
theorem seeks_ok {N : Nat} (hN : 6000 ≤ N) {Y : jMem} {n : Nat} (hn : n ≤ 7) {g : Int → Int} (hg : Pm n g) (hk : KY Y n) :
    ∃ Y', m_seeks N (rank n g) Y = some (0, Y') ∧ LY Y Y' ∧ ∃ D, BI (fun a => Y 10 (53 + a)) n g (rank n) (Y' 15) (Y' 16) (Y' 0 31) (Y' 0 31) D := by
  have hc := rank_Cd hn
  have gr := rank_in hn hg
  generalize hκ : (fun a => Y 10 (53 + a)) = κ
  have kκ : ∀ a, Y 10 (53 + a) = κ a := fun a => by rw [← hκ]
  have P2 : ∀ Z : jMem, LY Y Z → BI κ n g (rank n) (Z 15) (Z 16) (Z 0 31) 0 (fun _ _ => False) → wp (jfix N (m_seeks_L35 N) (0, Z)) (fun o => o.1 = 0 ∧ LY Y o.2 ∧ ∃ D, BI κ n g (rank n) (o.2 15) (o.2 16) (o.2 0 31) (o.2 0 31) D) := by
    intro Z zl zb
    refine wp_fix (fun t => (5041 - t.1).toNat) (fun (t : Int × jMem) => LY Y t.2 ∧ BI κ n g (rank n) (t.2 15) (t.2 16) (t.2 0 31) t.1 (fun _ _ => False)) ?_ N _ ⟨zl, zb⟩ (by dsimp only; omega)
    rintro h35 ⟨i, Zc⟩ ⟨fl, b⟩ ih
    dsimp only at fl b
    have b' := b
    obtain ⟨ρ, h1, h2, -⟩ := b'
    unfold m_seeks_L35 jlt
    dsimp only
    by_cases ci : i < Zc 0 31
    · obtain ⟨pm, qi, p3, -⟩ := h2 i (by omega) ci
      generalize hr : ρ i = r at pm qi
      have fr := rank_in hn pm
      have zc1 : Zc 10 1 = (n : Int) := by rw [fl.1 10 (by omega) (by omega)]; exact hk.1
      obtain ⟨M1, s1, s2, s3⟩ := rowOf_ok (N := N) (by omega) hn pm zc1
      rw [if_pos ci, jchk_pos (by omega), jchk_pos (by rw [qi]; exact fr), jchk_pos (by omega)]
      unfold jbv
      rw [qi, s1, Option.bind_some]
      dsimp only
      have sh0 := BI_short hn hc hg b ci
      rw [qi] at sh0 p3
      generalize hd : Zc 15 (rank n r) = d at sh0 p3 ⊢
      refine wp_fix (fun t => (7 - t.1).toNat) (fun (t : Int × jMem) => (0 ≤ t.1 ∧ t.1 ≤ (n : Int)) ∧ BI κ n g (rank n) (t.2 15) (t.2 16) (t.2 0 31) i (fun a b => a < t.1) ∧ i < t.2 0 31 ∧ t.2 16 i = rank n r ∧ t.2 15 (rank n r) = d ∧ (∀ j, 0 ≤ j → j < (n : Int) → t.2 13 j = r j) ∧ LY Y t.2) ?_ N _ ⟨⟨by dsimp only; omega, by dsimp only; omega⟩, by dsimp only; rw [s2 15 (by omega), s2 16 (by omega), s2 0 (by omega)]; exact BI_weak b (fun a b kp q => by have := kp.1; omega), by dsimp only; rw [s2 0 (by omega)]; exact ci, by dsimp only; rw [s2 16 (by omega)]; exact qi, by dsimp only; rw [s2 15 (by omega)]; exact hd, s3, ⟨fun p p0 p1 => by dsimp only; rw [s2 p (by omega)]; exact fl.1 p p0 p1, fun j hj => by dsimp only; rw [s2 0 (by omega)]; exact fl.2 j hj⟩⟩ (by dsimp only; omega)
      rintro h68 ⟨x2, Mo⟩ ⟨hx, bo, io, qo, vo, ro, fo⟩ ih68
      dsimp only at hx bo io qo vo ro fo
      unfold m_seeks_L68 jlt
      dsimp only
      rw [fo.1 10 (by omega) (by omega), hk.1]
      by_cases c : x2 < (n : Int)
      · rw [if_pos c, w32_id (by omega)]
        refine wp_fix (fun t => (7 - t.1).toNat) (fun (t : Int × jMem) => (x2 < t.1 ∧ t.1 ≤ (n : Int)) ∧ BI κ n g (rank n) (t.2 15) (t.2 16) (t.2 0 31) i (fun a b => a < x2 ∨ (a = x2 ∧ b < t.1)) ∧ i < t.2 0 31 ∧ t.2 16 i = rank n r ∧ t.2 15 (rank n r) = d ∧ (∀ j, 0 ≤ j → j < (n : Int) → t.2 13 j = r j) ∧ LY Y t.2) ?_ N _ ⟨⟨by dsimp only; omega, by dsimp only; omega⟩, BI_weak bo (fun a b kp q => by
          have := kp.2.1
          rcases q with q | ⟨q1, q2⟩
          · exact q
          · dsimp only at q2; omega), io, qo, vo, ro, fo⟩ (by dsimp only; omega)
        rintro h85 ⟨x5, Mi⟩ ⟨hx5, bi, ii, qi', vi, ri, fi⟩ ih5
        dsimp only at hx5 bi ii qi' vi ri fi
        unfold m_seeks_L85
        dsimp only
        have m10 : Mi 10 = Y 10 := fi.1 10 (by omega) (by omega)
        rw [m10, hk.1]
        by_cases c5 : x5 < (n : Int)
        · have ky : KY Mi n := by unfold KY; rw [m10]; exact hk
          rw [if_pos c5, isKin_ok ky (by omega) (by omega), Option.bind_some, w32_id (x := x5 + 1) (by omega), m10, kκ]
          rcases b01 (s := κ x2) (k := x5) with z | z
          · rw [if_pos z]
            refine ih5 _ ⟨⟨by dsimp only; omega, by dsimp only; omega⟩, BI_weak bi (fun a b kp q => ?_), ii, qi', vi, ri, fi⟩ (by dsimp only; omega)
            rcases q with q | ⟨q1, q2⟩
            · exact Or.inl q
            · refine Or.inr ⟨q1, ?_⟩
              have := kp.2.2.2
              rw [q1] at this
              by_cases cb : b = x5
              · rw [cb] at this; omega
              · dsimp only at q2; omega
          · have kp : Kp κ n x2 x5 := ⟨by omega, by omega, c5, z⟩
            have spm := sw_Pm pm (a := x2) (b := x5) (by omega) (by omega) (by omega)
            obtain ⟨M8, w1, w2⟩ := rankBy_ok (N := N) (by omega) (M := Mi) hn pm (a := x2) (b := x5) (by rw [m10]; exact hk.1) ri (by omega) (by omega) (by omega)
            have rr := rank_in hn spm
            have bv := BI_vis (r := r) (a := x2) (b := x5) (D' := fun a b => a < x2 ∨ (a = x2 ∧ b < x5 + 1)) hn hc hg bi ii kp pm (by rw [qi']) (fun a' b' q => by
              rcases q with q | ⟨q1, q2⟩
              · exact Or.inl (Or.inl q)
              · by_cases cb : b' = x5
                · exact Or.inr ⟨q1, cb⟩
                · exact Or.inl (Or.inr ⟨q1, by omega⟩))
            obtain ⟨-, hs1, -⟩ := id bi
            generalize hC : rank n (sw r x2 x5) = C at w1 rr bv
            rw [if_neg (show ¬ κ x2 / p2 x5 % 2 = 0 by omega)]
            unfold jb1 jbv
            rw [w1, Option.bind_some]
            dsimp only
            unfold m_comesTo jlt
            rw [jchk_pos (by omega), w32_id (x := d + 1) (by omega), w2 15 (by omega)]
            have LYm : ∀ W : jMem, (∀ p, p ≠ 0 → p < 14 ∨ 16 < p → W p = M8 p) → (∀ j, j ≠ 31 → W 0 j = M8 0 j) → LY Y W := fun W z1 z2 => ⟨fun p p0 p1 => by rw [z1 p p0 (by omega), w2 p (by omega)]; exact fi.1 p p0 p1, fun j hj => by rw [z2 j hj, w2 0 (by omega)]; exact fi.2 j hj⟩
            by_cases cF : Mi 15 C = -1
            · obtain ⟨s5, bn⟩ := bv.2 cF
              have nC : C ≠ rank n r := fun zz => by rw [zz, vi] at cF; omega
              rw [if_pos (by omega), jchk_pos (by omega)]
              dsimp only
              rw [up_row (q' := 0) (by omega), w2 0 (by omega), jchk_pos (by omega), up_row (q' := 0) (by omega), up_row (q' := 0) (by omega), w2 0 (by omega), w32_id (x := Mi 0 31 + 1) (by omega), Option.bind_some]
              dsimp only
              have f15 : up (up (up M8 15 C (d + 1)) 16 (Mi 0 31) C) 0 31 (Mi 0 31 + 1) 15 = fun x => if x = C then Mi 15 (Mi 16 i) + 1 else Mi 15 x := by
                rw [up_ne (by omega), up_ne (by omega), up_eq, w2 15 (by omega), qi', vi]
              have f16 : up (up (up M8 15 C (d + 1)) 16 (Mi 0 31) C) 0 31 (Mi 0 31 + 1) 16 = fun x => if x = Mi 0 31 then C else Mi 16 x := by
                rw [up_ne (by omega), up_eq, up_ne (by omega), w2 16 (by omega)]
              have f31 : up (up (up M8 15 C (d + 1)) 16 (Mi 0 31) C) 0 31 (Mi 0 31 + 1) 0 31 = Mi 0 31 + 1 := up_hit rfl rfl
              refine ih5 _ ⟨⟨by dsimp only; omega, by dsimp only; omega⟩, by dsimp only; rw [f15, f16, f31]; exact bn, by dsimp only; rw [f31]; omega, by dsimp only; rw [f16]; dsimp only; rw [if_neg (by omega)]; exact qi', by dsimp only; rw [f15]; dsimp only; rw [if_neg (fun zz => nC zz.symm)]; exact vi, fun j j0 j1 => by dsimp only; rw [up_row (by omega), up_row (by omega), up_row (by omega), w2 13 (by omega)]; exact ri j j0 j1, LYm _ (fun p p0 p1 => by dsimp only; rw [up_ne (by omega), up_ne (by omega), up_ne (by omega)]) (fun j hj => by dsimp only; rw [up_col hj, up_row (by omega), up_row (by omega)])⟩ (by dsimp only; omega)
            · have bv1 := bv.1 cF
              rw [if_neg (by omega), Option.bind_some]
              exact ih5 _ ⟨⟨by dsimp only; omega, by dsimp only; omega⟩, by dsimp only; rw [w2 15 (by omega), w2 16 (by omega), w2 0 (by omega)]; exact bv1.2, by dsimp only; rw [w2 0 (by omega)]; exact ii, by dsimp only; rw [w2 16 (by omega)]; exact qi', by dsimp only; rw [w2 15 (by omega)]; exact vi, fun j j0 j1 => by dsimp only; rw [w2 13 (by omega)]; exact ri j j0 j1, LYm M8 (fun _ _ _ => rfl) (fun _ _ => rfl)⟩ (by dsimp only; omega)
        · rw [if_neg c5, w32_id (by omega)]
          refine ih68 _ ⟨⟨by dsimp only; omega, by dsimp only; omega⟩, BI_weak bi (fun a b kp q => ?_), ii, qi', vi, ri, fi⟩ (by dsimp only; omega)
          have := kp.2.2.1
          dsimp only at q
          by_cases ca : a = x2
          · exact Or.inr ⟨ca, by omega⟩
          · exact Or.inl (by omega)
      · rw [if_neg c, w32_id (by omega)]
        refine ih _ ⟨fo, BI_next bo io (fun a b kp => ?_) (fun _ _ _ z => z)⟩ (by dsimp only; omega)
        have := kp.2.1
        have := kp.2.2.1
        omega
    · rw [if_neg ci]
      refine wp_some ⟨rfl, fl, fun _ _ => False, ?_⟩
      dsimp only
      rw [show i = Zc 0 31 by omega] at b
      exact b
  have H : wp (m_seeks N (rank n g) Y) (fun o => o.1 = 0 ∧ LY Y o.2 ∧ ∃ D, BI κ n g (rank n) (o.2 15) (o.2 16) (o.2 0 31) (o.2 0 31) D) := by
    unfold m_seeks
    refine wp_fix (fun t => (5040 - t.1).toNat) (fun (t : Int × jMem) => (0 ≤ t.1 ∧ t.1 ≤ 5040) ∧ (∀ p, p ≠ 15 → t.2 p = Y p) ∧ (∀ x, 0 ≤ x → x < t.1 → t.2 15 x = -1)) ?_ N _ ⟨⟨by dsimp only; omega, by dsimp only; omega⟩, fun _ _ => rfl, fun x x0 x1 => by dsimp only at x1; omega⟩ (by dsimp only; omega)
    rintro h ⟨x, Z⟩ ⟨hx, f, fF⟩ ih
    dsimp only at hx f fF
    unfold m_seeks_L2 jlt
    dsimp only
    by_cases cx : x < 5040
    · rw [if_pos cx, jchk_pos (by omega), w32_id (by omega)]
      exact ih _ ⟨⟨by dsimp only; omega, by dsimp only; omega⟩, fun p hp => by dsimp only; rw [up_ne hp]; exact f p hp, fun y y0 y1 => by
        dsimp only at y1 ⊢
        by_cases cy : y = x
        · rw [up_hit rfl cy]
        · rw [up_col cy]; exact fF y y0 (by omega)⟩ (by dsimp only; omega)
    · rw [if_neg cx]
      unfold m_comesTo jlt jbv
      rw [jchk_pos (by omega), up_row (q' := 15) (by omega), fF _ gr.1 (by omega), if_pos (by decide), jchk_pos (by omega)]
      dsimp only
      rw [up_row (q' := 0) (by omega), up_hit rfl rfl, jchk_pos (by omega), up_row (q' := 0) (by omega), up_row (q' := 0) (by omega), up_hit rfl rfl, Option.bind_some, show w32 (0 + 1) = 1 from by decide]
      refine P2 _ ⟨fun p p0 p1 => ?_, fun j hj => ?_⟩ ?_
      · dsimp only; rw [up_ne p0, up_ne (by omega), up_ne (by omega), up_ne p0]; exact f p (by omega)
      · dsimp only; rw [up_col hj, up_row (by omega), up_row (by omega), up_col hj, f 0 (by omega)]
      · dsimp only
        rw [up_hit rfl rfl]
        refine BI_init hc hg (fun y y0 y1 => ?_) ?_ (fun _ _ z => z)
        · rw [up_row (by omega), up_row (by omega)]
          by_cases cy : y = rank n g
          · rw [up_hit rfl cy, if_pos cy]
          · rw [up_col cy, if_neg cy, up_row (by omega)]; exact fF y y0 (by omega)
        · rw [up_row (by omega), up_hit rfl rfl]
  obtain ⟨⟨v, Y'⟩, e, q1, q2, q3⟩ := H
  dsimp only at q1 q2 q3
  subst q1
  exact ⟨Y', e, q2, q3⟩
