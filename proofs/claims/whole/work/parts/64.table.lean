/-! the class fills its table -/
theorem swap_ok {N : Nat} {M : jMem} {q a b : Int} (ha : 0 ≤ a ∧ a < 7) (hb : 0 ≤ b ∧ b < 7) (hab : a ≠ b) : ∃ M', Li_swap N q a b M = some (0, M') ∧ (∀ p, p ≠ q → M' p = M p) ∧ (∀ i, M' q i = sw (M q) a b i) := by
  refine ⟨up (up M q a (M q b)) q b (M q a), ?_, fun p hp => by rw [up_ne hp, up_ne hp], fun i => ?_⟩
  · unfold Li_swap jlt
    simp only [jchk_pos ha, jchk_pos hb]
  · by_cases c : i = b
    · subst c; rw [up_hit rfl rfl, sw_b hab]
    · rw [up_col c]
      by_cases d : i = a
      · subst d; rw [up_hit rfl rfl, sw_a]
      · rw [up_col d, sw_n d c]
/-- of X alone the table's rows have changed -/
def LF (M M' : jMem) : Prop := (∀ p, p < 171 ∨ 175 < p → M' p = M p) ∧ (∀ j, j ≠ 2 → M' 171 j = M 171 j)
def KX (M : jMem) (κ : Int → Int) (n : Int) : Prop := M 15 0 = n ∧ ∀ i, 0 ≤ i → i < 7 → M 20 i = κ i ∧ 0 ≤ κ i ∧ κ i < 128
theorem KX_LF {M M' : jMem} {κ : Int → Int} {n : Int} (h : KX M κ n) (f : ∀ p, p < 171 ∨ 175 < p → M' p = M p) : KX M' κ n := ⟨by rw [f 15 (by omega)]; exact h.1, fun i i0 i1 => by rw [f 20 (by omega)]; exact h.2 i i0 i1⟩
theorem reach_ok {N : Nat} (hN : 1000 ≤ N) {M : jMem} {κ : Int → Int} {n : Nat} (hn : n ≤ 7) {i : Int} (hk : KX M κ n) (h7 : M 171 7 = (n : Int)) (h : BI κ n (fun i => i) (rank n) (M 172) (M 173) (M 171 2) i (fun _ _ => False)) (hi : i < M 171 2) :
    ∃ M', Li_reachFrom N (M 173 i) M = some (0, M') ∧ BI κ n (fun i => i) (rank n) (M' 172) (M' 173) (M' 171 2) (i + 1) (fun _ _ => False) ∧ LF M M' := by
  have hc := rank_Cd hn
  have h' := h
  obtain ⟨ρ, h1, h2, -⟩ := h
  obtain ⟨pm, qi, -, -⟩ := h2 i (by omega) hi
  generalize hr : ρ i = r at pm qi
  obtain ⟨M1, s1, s2, s3⟩ := spread_ok hN hn pm h7
  have fr := rank_in hn pm
  have H : wp (jfix N (Li_reachFrom_L7 N (M 173 i)) (0, M1)) (fun o => o.1 = 0 ∧ BI κ n (fun i => i) (rank n) (o.2 172) (o.2 173) (o.2 171 2) (i + 1) (fun _ _ => False) ∧ LF M o.2) := by
    refine wp_fix (fun t => (7 - t.1).toNat) (fun (t : Int × jMem) => (0 ≤ t.1 ∧ t.1 ≤ (n : Int)) ∧ BI κ n (fun i => i) (rank n) (t.2 172) (t.2 173) (t.2 171 2) i (fun a b => a < t.1) ∧ i < t.2 171 2 ∧ t.2 173 i = M 173 i ∧ (∀ j, 0 ≤ j → j < (n : Int) → t.2 174 j = r j) ∧ LF M t.2) ?_ N _ ⟨⟨by dsimp only; omega, by dsimp only; omega⟩, ?_, ?_, ?_, s3, ⟨fun p hp => s2 p (by omega) (by omega), fun j _ => by dsimp only; rw [s2 171 (by omega) (by omega)]⟩⟩ (by dsimp only; omega)
    · rintro h7' ⟨x2, Mo⟩ ⟨hx, bo, io, qo, ro, fo⟩ ih
      dsimp only at hx bo io qo ro fo
      unfold Li_reachFrom_L7 jlt
      dsimp only
      rw [fo.2 7 (by omega), h7]
      by_cases c : x2 < (n : Int)
      · rw [if_pos c, w32_id (by omega)]
        refine wp_fix (fun t => (7 - t.1).toNat) (fun (t : Int × jMem) => (x2 < t.1 ∧ t.1 ≤ (n : Int)) ∧ BI κ n (fun i => i) (rank n) (t.2 172) (t.2 173) (t.2 171 2) i (fun a b => a < x2 ∨ (a = x2 ∧ b < t.1)) ∧ i < t.2 171 2 ∧ t.2 173 i = M 173 i ∧ (∀ j, 0 ≤ j → j < (n : Int) → t.2 174 j = r j) ∧ LF M t.2) ?_ N _ ⟨⟨by dsimp only; omega, by dsimp only; omega⟩, BI_weak bo (fun a b kp q => by
          have := kp.2.1
          rcases q with q | ⟨q1, q2⟩
          · exact q
          · dsimp only at q2; omega), io, qo, ro, fo⟩ (by dsimp only; omega)
        rintro h20 ⟨x5, Mi⟩ ⟨hx5, bi, ii, qi', ri, fi⟩ ih5
        dsimp only at hx5 bi ii qi' ri fi
        unfold Li_reachFrom_L20 jlt
        dsimp only
        rw [fi.2 7 (by omega), h7]
        by_cases c5 : x5 < (n : Int)
        · have kx := KX_LF hk fi.1
          rw [if_pos c5, areKin_ok kx.2 (by omega) (by omega), Option.bind_some, w32_id (x := x5 + 1) (by omega)]
          rcases b01 (s := κ x2) (k := x5) with z | z
          · rw [if_pos z]
            refine ih5 _ ⟨⟨by dsimp only; omega, by dsimp only; omega⟩, BI_weak bi (fun a b kp q => ?_), ii, qi', ri, fi⟩ (by dsimp only; omega)
            rcases q with q | ⟨q1, q2⟩
            · exact Or.inl q
            · refine Or.inr ⟨q1, ?_⟩
              have := kp.2.2.2
              rw [q1] at this
              by_cases cb : b = x5
              · rw [cb] at this; omega
              · dsimp only at q2; omega
          · have kp : Kp κ n x2 x5 := ⟨by omega, by omega, c5, z⟩
            obtain ⟨M8, w1, w2, w3⟩ := swap_ok (N := N) (M := Mi) (q := 174) (a := x2) (b := x5) (by omega) (by omega) (by omega)
            have spm := sw_Pm pm (a := x2) (b := x5) (by omega) (by omega) (by omega)
            have pl := placeOf_ok hN (M := M8) (q := 174) hn spm (by rw [w2 171 (by omega), fi.2 7 (by omega)]; exact h7) (fun j j0 j1 => by rw [w3 j]; exact sw_En ri ⟨by omega, by omega⟩ ⟨by omega, by omega⟩ j j0 j1)
            obtain ⟨M10, v1, v2, v3⟩ := swap_ok (N := N) (M := M8) (q := 174) (a := x2) (b := x5) (by omega) (by omega) (by omega)
            have rr := rank_in hn spm
            have e : ∀ p, p ≠ 174 → M10 p = Mi p := fun p hp => by rw [v2 p hp, w2 p hp]
            have r10 : ∀ j, 0 ≤ j → j < (n : Int) → M10 174 j = r j := fun j j0 j1 => by
              rw [v3 j]
              have : sw (M8 174) x2 x5 j = sw (sw (Mi 174) x2 x5) x2 x5 j := by unfold sw; rw [w3 x5, w3 x2, w3 j]; rfl
              rw [this, sw_sw (by omega)]; exact ri j j0 j1
            have bv := BI_vis (r := r) (a := x2) (b := x5) (D' := fun a b => a < x2 ∨ (a = x2 ∧ b < x5 + 1)) hn hc id_Pm bi ii kp pm (by rw [qi', ← qi]) (fun a' b' q => by
              rcases q with q | ⟨q1, q2⟩
              · exact Or.inl (Or.inl q)
              · by_cases cb : b' = x5
                · exact Or.inr ⟨q1, cb⟩
                · exact Or.inl (Or.inr ⟨q1, by omega⟩))
            have sh := BI_short hn hc id_Pm bi ii
            have h1' := bi
            obtain ⟨-, hs1, -⟩ := h1'
            generalize hC : rank n (sw r x2 x5) = C at pl rr bv
            rw [if_neg (show ¬ κ x2 / p2 x5 % 2 = 0 by omega)]
            unfold jbv
            rw [w1, Option.bind_some]
            dsimp only
            rw [pl, Option.bind_some, v1, Option.bind_some]
            dsimp only
            rw [jchk_pos (by omega)]
            simp only [e 172 (by omega), e 171 (by omega)]
            have LFm : ∀ Z : jMem, (∀ p, p < 171 ∨ 173 < p → Z p = M10 p) → (∀ j, j ≠ 2 → Z 171 j = M10 171 j) → LF M Z := fun Z z1 z2 => ⟨fun p hp => by rw [z1 p (by omega), e p (by omega)]; exact fi.1 p hp, fun j hj => by rw [z2 j hj, e 171 (by omega)]; exact fi.2 j hj⟩
            by_cases cF : Mi 172 C = -1
            · obtain ⟨s5, bn⟩ := bv.2 cF
              rw [if_pos cF, if_pos s5, jchk_pos (by rw [qi]; exact fr), jchk_pos (by omega)]
              have d0 : 0 ≤ Mi 172 (M 173 i) ∧ Mi 172 (M 173 i) ≤ 77 := by rw [← qi']; exact sh
              have hw : w8 (w8 (w32 (Mi 172 (M 173 i) + 1))) = Mi 172 (M 173 i) + 1 := by unfold w8 w32; omega
              have hC : w16 (w16 C) = C := by unfold w16; omega
              rw [hw, hC, up_row (q' := 171) (by omega), e 171 (by omega), jchk_pos (by omega), up_row (q' := 171) (by omega), up_row (q' := 171) (by omega), e 171 (by omega), w32_id (by omega)]
              have f172 : up (up (up M10 172 C (Mi 172 (M 173 i) + 1)) 173 (Mi 171 2) C) 171 2 (Mi 171 2 + 1) 172 = fun x => if x = C then Mi 172 (Mi 173 i) + 1 else Mi 172 x := by
                rw [up_ne (by omega), up_ne (by omega), up_eq, e 172 (by omega), qi']
              have f173 : up (up (up M10 172 C (Mi 172 (M 173 i) + 1)) 173 (Mi 171 2) C) 171 2 (Mi 171 2 + 1) 173 = fun x => if x = Mi 171 2 then C else Mi 173 x := by
                rw [up_ne (by omega), up_eq, up_ne (by omega), e 173 (by omega)]
              have f171 : up (up (up M10 172 C (Mi 172 (M 173 i) + 1)) 173 (Mi 171 2) C) 171 2 (Mi 171 2 + 1) 171 2 = Mi 171 2 + 1 := up_hit rfl rfl
              refine ih5 _ ⟨⟨by dsimp only; omega, by dsimp only; omega⟩, by dsimp only; rw [f172, f173, f171]; exact bn, by dsimp only; rw [f171]; omega, by dsimp only; rw [f173]; dsimp only; rw [if_neg (by omega)]; exact qi', fun j j0 j1 => by dsimp only; rw [up_row (by omega), up_row (by omega), up_row (by omega)]; exact r10 j j0 j1, LFm _ (fun p hp => by dsimp only; rw [up_ne (by omega), up_ne (by omega), up_ne (by omega)]) (fun j hj => by dsimp only; rw [up_col hj, up_row (by omega), up_row (by omega)])⟩ (by dsimp only; omega)
            · rw [if_neg cF]
              exact ih5 _ ⟨⟨by dsimp only; omega, by dsimp only; omega⟩, by dsimp only; rw [e 172 (by omega), e 173 (by omega), e 171 (by omega)]; exact (bv.1 cF).2, by dsimp only; rw [e 171 (by omega)]; exact ii, by dsimp only; rw [e 173 (by omega)]; exact qi', r10, LFm M10 (fun _ _ => rfl) (fun _ _ => rfl)⟩ (by dsimp only; omega)
        · rw [if_neg c5, w32_id (by omega)]
          refine ih _ ⟨⟨by dsimp only; omega, by dsimp only; omega⟩, BI_weak bi (fun a b kp q => ?_), ii, qi', ri, fi⟩ (by dsimp only; omega)
          have := kp.2.2.1
          dsimp only at q
          by_cases ca : a = x2
          · exact Or.inr ⟨ca, by omega⟩
          · exact Or.inl (by omega)
      · rw [if_neg c]
        refine wp_some ⟨rfl, BI_next bo io (fun a b kp => ?_) (fun _ _ _ z => z), fo⟩
        have := kp.2.1
        have := kp.2.2.1
        omega
    · dsimp only
      rw [s2 172 (by omega) (by omega), s2 173 (by omega) (by omega), s2 171 (by omega) (by omega)]
      exact BI_weak h' (fun a b kp q => by have := kp.1; omega)
    · dsimp only; rw [s2 171 (by omega) (by omega)]; exact hi
    · dsimp only; rw [s2 173 (by omega) (by omega)]
  obtain ⟨⟨v, M'⟩, e, q1, q2, q3⟩ := H
  dsimp only at q1 q2 q3
  subst q1
  refine ⟨M', ?_, q2, q3⟩
  unfold Li_reachFrom jbv
  rw [qi, s1, Option.bind_some]
  rw [qi] at e
  exact e
def Tbl (M : jMem) (n : Nat) (κ : Int → Int) : Prop := ∃ D, BI κ n (fun i => i) (rank n) (M 172) (M 173) (M 171 2) (M 171 2) D
/-- the table is for what it says that it is for -/
def TB (M : jMem) : Prop := M 171 3 = 0 ∨ ∃ (n : Nat) (κ : Int → Int), 2 ≤ n ∧ n ≤ 7 ∧ M 171 3 = enc n κ ∧ Tbl M n κ
theorem TB_TF {X X' : jMem} (h : TB X) (f : TF X X') : TB X' := by
  unfold TB Tbl
  rw [f.1, f.2.1, f.2.2]
  exact h
theorem fill_ok {N : Nat} (hN : 6000 ≤ N) {M : jMem} {κ : Int → Int} {n : Nat} (h2 : 2 ≤ n) (h7 : n ≤ 7) (hk : KX M κ n) (ht : TB M) : ∃ M', Li_fillFor N M = some (0, M') ∧ (∀ p, p < 171 ∨ 175 < p → M' p = M p) ∧ M' 171 7 = (n : Int) ∧ Tbl M' n κ ∧ TB M' := by
  have hc := rank_Cd h7
  have hb := bitsOf_ok (N := N) (by omega) h2 h7 hk.1 hk.2
  have er := enc_rng h2 h7 κ
  unfold Li_fillFor jlt
  rw [hb, Option.bind_some]
  dsimp only
  rw [hk.1, up_col (by omega)]
  by_cases c : M 171 3 = enc n κ
  · rw [if_pos c]
    have T : Tbl (up M 171 7 (n : Int)) n κ := by
      rcases ht with z | ⟨n', κ', a2, a7, e, t⟩
      · omega
      · obtain ⟨en, ek⟩ := enc_inj h2 h7 a2 a7 (c.symm.trans e)
        subst en
        obtain ⟨D, b⟩ := t
        refine ⟨D, ?_⟩
        rw [up_ne (by omega), up_ne (by omega), up_col (by omega)]
        exact BI_congr (fun a b => (ek a b).symm) b
    exact ⟨_, rfl, fun p hp => up_ne (by omega), up_hit rfl rfl, T, Or.inr ⟨n, κ, h2, h7, by rw [up_col (by omega)]; exact c, T⟩⟩
  · rw [if_neg c]
    have kx : ∀ Z : jMem, (∀ p, p < 171 ∨ 175 < p → Z p = M p) → KX Z κ n := fun Z f => KX_LF hk f
    have P2 : ∀ Z : jMem, (∀ p, p < 171 ∨ 175 < p → Z p = M p) → Z 171 7 = (n : Int) → Z 171 3 = enc n κ → (∀ x, 0 ≤ x → x < 5040 → Z 172 x = if x = 0 then 0 else -1) → Z 173 0 = 0 → Z 171 2 = 1 → wp (jfix N (Li_fillFor_L70 N) (0, Z)) (fun o => o.1 = 0 ∧ (∀ p, p < 171 ∨ 175 < p → o.2 p = M p) ∧ o.2 171 7 = (n : Int) ∧ o.2 171 3 = enc n κ ∧ Tbl o.2 n κ) := by
      intro Z z0 z7 z3 zF zQ zs
      refine wp_fix (fun t => (5041 - t.1).toNat) (fun (t : Int × jMem) => (∀ p, p < 171 ∨ 175 < p → t.2 p = M p) ∧ t.2 171 7 = (n : Int) ∧ t.2 171 3 = enc n κ ∧ BI κ n (fun i => i) (rank n) (t.2 172) (t.2 173) (t.2 171 2) t.1 (fun _ _ => False)) ?_ N _ ⟨z0, z7, z3, ?_⟩ (by dsimp only; omega)
      · rintro h ⟨x, Zc⟩ ⟨f0, f7, f3, b⟩ ih
        dsimp only at f0 f7 f3 b
        have b' := b
        obtain ⟨ρ, h1, -⟩ := b'
        unfold Li_fillFor_L70
        dsimp only
        by_cases cx : x < Zc 171 2
        · obtain ⟨M', r1, r2, r3⟩ := reach_ok (N := N) (by omega) h7 (kx Zc f0) f7 b cx
          unfold jbv
          rw [if_pos cx, if_pos (by omega), jchk_pos (by omega), r1, Option.bind_some, w32_id (by omega)]
          exact ih _ ⟨fun p hp => by dsimp only; rw [r3.1 p hp]; exact f0 p hp, by dsimp only; rw [r3.2 7 (by omega)]; exact f7, by dsimp only; rw [r3.2 3 (by omega)]; exact f3, r2⟩ (by dsimp only; omega)
        · rw [if_neg cx]
          refine wp_some ⟨rfl, f0, f7, f3, fun _ _ => False, ?_⟩
          rw [show x = Zc 171 2 by omega] at b
          exact b
      · dsimp only
        rw [zs]
        exact BI_init hc id_Pm (fun x x0 x1 => by rw [rank_id h7]; exact zF x x0 x1) (by rw [rank_id h7]; exact zQ) (fun _ _ z => z)
    have H : wp (jfix N (Li_fillFor_L29 N) (0, up (up M 171 7 (n : Int)) 171 3 (enc n κ))) (fun o => o.1 = 0 ∧ (∀ p, p < 171 ∨ 175 < p → o.2 p = M p) ∧ o.2 171 7 = (n : Int) ∧ o.2 171 3 = enc n κ ∧ Tbl o.2 n κ) := by
      refine wp_fix (fun t => (5040 - t.1).toNat) (fun (t : Int × jMem) => (0 ≤ t.1 ∧ t.1 ≤ 5040) ∧ (∀ p, p < 171 ∨ 175 < p → t.2 p = M p) ∧ t.2 171 7 = (n : Int) ∧ t.2 171 3 = enc n κ ∧ (∀ x, 0 ≤ x → x < t.1 → t.2 172 x = -1)) ?_ N _ ⟨⟨by dsimp only; omega, by dsimp only; omega⟩, fun p hp => by dsimp only; rw [up_ne (by omega), up_ne (by omega)], by dsimp only; rw [up_col (by omega), up_hit rfl rfl], by dsimp only; rw [up_hit rfl rfl], fun x x0 x1 => by dsimp only at x1; omega⟩ (by dsimp only; omega)
      rintro h ⟨x, Zc⟩ ⟨hx, f0, f7, f3, fF⟩ ih
      dsimp only at hx f0 f7 f3 fF
      unfold Li_fillFor_L29 jlt
      dsimp only
      by_cases cx : x < 5040
      · rw [if_pos cx, jchk_pos (by omega), w32_id (by omega), show w8 (-1) = -1 from by decide]
        exact ih _ ⟨⟨by dsimp only; omega, by dsimp only; omega⟩, fun p hp => by dsimp only; rw [up_ne (by omega)]; exact f0 p hp, by dsimp only; rw [up_row (by omega)]; exact f7, by dsimp only; rw [up_row (by omega)]; exact f3, fun y y0 y1 => by
          dsimp only at y1 ⊢
          by_cases cy : y = x
          · rw [up_hit rfl cy]
          · rw [up_col cy]; exact fF y y0 (by omega)⟩ (by dsimp only; omega)
      · rw [if_neg cx, show w8 0 = 0 from by decide, show w16 0 = 0 from by decide]
        refine P2 _ (fun p hp => by rw [up_ne (by omega), up_ne (by omega), up_ne (by omega)]; exact f0 p hp) (by rw [up_col (by omega), up_row (by omega), up_row (by omega)]; exact f7) (by rw [up_col (by omega), up_row (by omega), up_row (by omega)]; exact f3) (fun y y0 y1 => ?_) (by rw [up_row (by omega), up_hit rfl rfl]) (up_hit rfl rfl)
        rw [up_row (by omega), up_row (by omega)]
        by_cases cy : y = 0
        · rw [up_hit rfl cy, if_pos cy]
        · rw [up_col cy, if_neg cy]; exact fF y y0 (by omega)
    obtain ⟨⟨v, M'⟩, e, q1, q2, q3, q4, q5⟩ := H
    dsimp only at q1 q2 q3 q4 q5
    subst q1
    exact ⟨M', e, q2, q3, q5, Or.inr ⟨n, κ, h2, h7, q4, q5⟩⟩
