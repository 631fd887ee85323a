/-! a sum of a RULE on both sides -/
theorem RR_see {X Y : jMem} {m j q t n v a : Int} {ts : List Bool} (h : RR X Y m j q t n v a ts) : RR X (up Y 0 8 (X 4 j)) m j q t n v a ts :=
  RR_w h (RD_see h.1) (fun _ _ _ => rfl) rfl rfl h.2.2.1.1 (up_ne (by omega)) (up_ne (by omega)) (up_col (by omega)) (by rw [up_col (by omega)]; exact h.2.2.1.2.1) h.2.2.1.2.2
theorem sgn1 {X Y : jMem} {m j c K u : Int} (h : At X Y m j) (hs : (j = m ∧ c = -1) ∨ (j < m ∧ c = jand (Y 1 (X 4 j)) 255)) (hp : (K = 4 ∧ u = 59) ∨ (K = 5 ∧ u = 91) ∨ (K = 6 ∧ u = 93) ∨ (K = 7 ∧ u = 43) ∨ (K = 8 ∧ u = 45) ∨ (K = 9 ∧ u = 42) ∨ (K = 10 ∧ u = 47) ∨ (K = 11 ∧ u = 37)) : (c = u ↔ X 3 j = K) ∧ (X 3 j = K → j < m ∧ ∃ q, q = X 4 j + 1 ∧ TkS (Y 1) (Y 0 1) (X 4 j) (X 3 j) (X 5 j) q ∧ Sk (Y 1) (Y 0 1) q (X 4 (j + 1))) := by
  rcases hp with ⟨hK, hu⟩ | ⟨hK, hu⟩ | ⟨hK, hu⟩ | ⟨hK, hu⟩ | ⟨hK, hu⟩ | ⟨hK, hu⟩ | ⟨hK, hu⟩ | ⟨hK, hu⟩
  · subst hK hu
    have sg := sgk_inj (K := 4) (t := 59) (by decide) (by decide)
    exact sign_at h hs ⟨by decide, by decide, by unfold Dg; decide, by unfold Lt; decide, by decide, by decide⟩ sg.1 (by decide) sg.2
  · subst hK hu
    have sg := sgk_inj (K := 5) (t := 91) (by decide) (by decide)
    exact sign_at h hs ⟨by decide, by decide, by unfold Dg; decide, by unfold Lt; decide, by decide, by decide⟩ sg.1 (by decide) sg.2
  · subst hK hu
    have sg := sgk_inj (K := 6) (t := 93) (by decide) (by decide)
    exact sign_at h hs ⟨by decide, by decide, by unfold Dg; decide, by unfold Lt; decide, by decide, by decide⟩ sg.1 (by decide) sg.2
  · subst hK hu
    have sg := sgk_inj (K := 7) (t := 43) (by decide) (by decide)
    exact sign_at h hs ⟨by decide, by decide, by unfold Dg; decide, by unfold Lt; decide, by decide, by decide⟩ sg.1 (by decide) sg.2
  · subst hK hu
    have sg := sgk_inj (K := 8) (t := 45) (by decide) (by decide)
    exact sign_at h hs ⟨by decide, by decide, by unfold Dg; decide, by unfold Lt; decide, by decide, by decide⟩ sg.1 (by decide) sg.2
  · subst hK hu
    have sg := sgk_inj (K := 9) (t := 42) (by decide) (by decide)
    exact sign_at h hs ⟨by decide, by decide, by unfold Dg; decide, by unfold Lt; decide, by decide, by decide⟩ sg.1 (by decide) sg.2
  · subst hK hu
    have sg := sgk_inj (K := 10) (t := 47) (by decide) (by decide)
    exact sign_at h hs ⟨by decide, by decide, by unfold Dg; decide, by unfold Lt; decide, by decide, by decide⟩ sg.1 (by decide) sg.2
  · subst hK hu
    have sg := sgk_inj (K := 11) (t := 37) (by decide) (by decide)
    exact sign_at h hs ⟨by decide, by decide, by unfold Dg; decide, by unfold Lt; decide, by decide, by decide⟩ sg.1 (by decide) sg.2
/-- the sign that both see -/
def SG (N : Nat) (X Y Y2 : jMem) (m j c : Int) : Prop := m_see N Y = some (c, Y2) ∧ m_see N Y2 = some (c, Y2) ∧ Y2 = up Y 0 8 (X 4 j) ∧ RD X Y2 m j ∧ RF Y Y2 ∧ Y2 0 8 = X 4 j ∧ ((c = 59 ↔ X 3 j = 4) ∧ (c = 91 ↔ X 3 j = 5) ∧ (c = 93 ↔ X 3 j = 6) ∧ (c = 43 ↔ X 3 j = 7) ∧ (c = 45 ↔ X 3 j = 8) ∧ (c = 42 ↔ X 3 j = 9) ∧ (c = 47 ↔ X 3 j = 10) ∧ (c = 37 ↔ X 3 j = 11)) ∧ (j < m → (c = jand (Y 1 (X 4 j)) 255 ∧ ∀ u, 0 ≤ u → u < 128 → (Y2 1 (X 4 j) = u ↔ c = u))) ∧ (4 ≤ X 3 j → X 3 j ≤ 11 → j < m ∧ RD (up X 2 3 (j + 1)) (up Y2 0 8 (X 4 j + 1)) m (j + 1))
theorem k411 {K : Int} (h0 : 4 ≤ K) (h1 : K ≤ 11) : K = 4 ∨ K = 5 ∨ K = 6 ∨ K = 7 ∨ K = 8 ∨ K = 9 ∨ K = 10 ∨ K = 11 := by omega
theorem sgn {N : Nat} (hN : 1000 ≤ N) {X Y : jMem} {m j : Int} (h : RD X Y m j) : ∃ c Y2, SG N X Y Y2 m j c := by
  obtain ⟨c, s1, s2⟩ := see_ok hN h.1
  have rd2 := RD_see h
  generalize hY2 : up Y 0 8 (X 4 j) = Y2 at s1 rd2
  have f2 : RF Y Y2 := by rw [← hY2]; exact RF_up8
  have y8 : Y2 0 8 = X 4 j := by rw [← hY2, up_hit rfl rfl]
  obtain ⟨c', t1, t2⟩ := see_ok hN rd2.1
  rw [up_same y8] at t1
  have y1 : Y2 1 = Y 1 := f2.1 1 (by omega)
  rw [y1] at t2
  have ec : c' = c := by
    rcases s2 with a | a
    · rcases t2 with b | b
      · rw [a.2, b.2]
      · omega
    · rcases t2 with b | b
      · omega
      · rw [a.2, b.2]
  rw [ec] at t1
  have i4 := sgn1 (K := 4) (u := 59) h.1 s2 (Or.inl ⟨rfl, rfl⟩)
  have i5 := sgn1 (K := 5) (u := 91) h.1 s2 (Or.inr (Or.inl ⟨rfl, rfl⟩))
  have i6 := sgn1 (K := 6) (u := 93) h.1 s2 (Or.inr (Or.inr (Or.inl ⟨rfl, rfl⟩)))
  have i7 := sgn1 (K := 7) (u := 43) h.1 s2 (Or.inr (Or.inr (Or.inr (Or.inl ⟨rfl, rfl⟩))))
  have i8 := sgn1 (K := 8) (u := 45) h.1 s2 (Or.inr (Or.inr (Or.inr (Or.inr (Or.inl ⟨rfl, rfl⟩)))))
  have i9 := sgn1 (K := 9) (u := 42) h.1 s2 (Or.inr (Or.inr (Or.inr (Or.inr (Or.inr (Or.inl ⟨rfl, rfl⟩))))))
  have i10 := sgn1 (K := 10) (u := 47) h.1 s2 (Or.inr (Or.inr (Or.inr (Or.inr (Or.inr (Or.inr (Or.inl ⟨rfl, rfl⟩)))))))
  have i11 := sgn1 (K := 11) (u := 37) h.1 s2 (Or.inr (Or.inr (Or.inr (Or.inr (Or.inr (Or.inr (Or.inr (⟨rfl, rfl⟩))))))))
  refine ⟨c, Y2, s1, t1, hY2.symm, rd2, f2, y8, ⟨i4.1, i5.1, i6.1, i7.1, i8.1, i9.1, i10.1, i11.1⟩, fun jm => ?_, fun k0 k1 => ?_⟩
  · clear i4 i5 i6 i7 i8 i9 i10 i11
    have ce : c = jand (Y 1 (X 4 j)) 255 := by
      rcases s2 with a | a
      · omega
      · exact a.2
    refine ⟨ce, fun u u0 u1 => ?_⟩
    have pl := At_pl h.1
    have hb := h.1.2.2.1 (X 4 j) (by omega) (by have := h.1.2.1; omega)
    rw [y1, ce, and255 hb]
    by_cases cc : Y 1 (X 4 j) < 0
    · rw [if_pos cc]; omega
    · rw [if_neg cc]
  · have key : j < m ∧ ∃ q, q = X 4 j + 1 ∧ TkS (Y 1) (Y 0 1) (X 4 j) (X 3 j) (X 5 j) q ∧ Sk (Y 1) (Y 0 1) q (X 4 (j + 1)) := by
      rcases k411 k0 k1 with w | w | w | w | w | w | w | w
      · exact i4.2 w
      · exact i5.2 w
      · exact i6.2 w
      · exact i7.2 w
      · exact i8.2 w
      · exact i9.2 w
      · exact i10.2 w
      · exact i11.2 w
    clear i4 i5 i6 i7 i8 i9 i10 i11
    obtain ⟨jm, q, e1, tk, sk⟩ := key
    exact ⟨jm, RD_next h (At_next h.1 (RF_trans f2 RF_up8) jm tk sk (by rw [up_hit rfl rfl]; exact e1.symm)) (by rw [up_col (by omega)]; exact rd2.2.2.2)⟩
/-- behind a sign of one byte -/
theorem RR_pass {N : Nat} {X Y Y2 : jMem} {m j q t n v a c : Int} {ts : List Bool} (h : RR X Y m j q t n v a ts) (g : SG N X Y Y2 m j c) (k0 : 4 ≤ X 3 j) (k1 : X 3 j ≤ 11) : RR (up X 2 3 (j + 1)) (up Y2 0 8 (X 4 j + 1)) m (j + 1) q t n v a ts := by
  obtain ⟨-, -, -, -, f2, -, -, -, g9⟩ := g
  refine RR_w h (g9 k0 k1).2 (fun p b1 _ => up_ne b1) (up_row (by omega)) (up_row (by omega)) (by rw [up_row (by omega)]; exact h.2.2.1.1) (by rw [up_ne (by omega), f2.1 2 (by omega)]) (by rw [up_ne (by omega), f2.1 3 (by omega)]) (by rw [up_col (by omega), f2.2 11 (by omega) (by omega) (by omega)]) (by rw [up_col (by omega), f2.2 12 (by omega) (by omega) (by omega)]; exact h.2.2.1.2.1) h.2.2.1.2.2
theorem ty_num {K : Int} {r : List Bool} (h : 7 ≤ K ∧ K ≤ 11) : tyS (-K) (false :: false :: r) = some (false :: r) := by
  unfold tyS; rw [if_neg (by omega), if_neg (by omega)]; exact if_pos (by omega)
theorem ty_cmp {K : Int} {r : List Bool} (h : 12 ≤ K ∧ K ≤ 16) : tyS (-K) (false :: false :: r) = some (true :: r) := by
  unfold tyS; rw [if_neg (by omega), if_neg (by omega), if_neg (by omega)]; exact if_pos (by omega)
theorem ty_log {K : Int} {r : List Bool} (h : K = 23 ∨ K = 24) : tyS (-K) (true :: true :: r) = some (true :: r) := by
  unfold tyS; rw [if_neg (by omega), if_neg (by omega), if_neg (by omega)]; exact if_neg (by omega)
theorem ty_not {r : List Bool} : tyS (-25) (true :: r) = some (true :: r) := by
  unfold tyS; rw [if_neg (by omega)]; exact if_pos rfl
theorem applyR {N : Nat} {X Y : jMem} {m j q t n v a K s : Int} {ts ts' : List Bool} (h : RR X Y m j q t n v a ts) (hn : n < 400) (hK : 0 ≤ K ∧ K ≤ 100) (hs : 0 ≤ s ∧ s < 16) (hc : CR (-K) s) (ht : tyS (-K) ts = some ts') :
    ∃ X' Y', Ru_apply N q K X = some (0, X') ∧ m_puts N s 0 Y = some (0, Y') ∧ RR X' Y' m j q t (n + 1) v a ts' ∧ XG q n X X' ∧ YG t n Y Y' ∧ (∀ p, p ≠ q → p ≠ q + 1 → X' p = X p) ∧ Y' 0 = Y 0 := by
  obtain ⟨X', Y', e1, e2⟩ := emitR (N := N) (c := -K) (s := s) (w := 0) h hn hs (by omega) (by rw [Int.mul_zero, Int.add_zero]; exact hc) ht
  refine ⟨X', Y', ?_, e2⟩
  unfold Ru_apply jbv
  rw [w32_id (by omega), e1, Option.bind_some]
def sE (N : Nat) (hb : Int) (T G : Nat) (Y : jMem) : Option (Int × jMem) := jb1 (jfix T (m_term_L9 N) Y) fun r10 M11 => (if r10 = 0 then some (0, M11) else (if hb = 0 then jfix G (m_sum_L9 N) M11 else jbv (m_puts N (hb - 5) 0 M11) fun M12 => jfix G (m_sum_L9 N) M12))
theorem term_exit {N T : Nat} {X Y Y2 : jMem} {m j c : Int} (g : SG N X Y Y2 m j c) (hK : X 3 j < 9 ∨ 11 < X 3 j) (hT : 1 ≤ T) : jfix T (m_term_L9 N) Y = some (1, Y2) := by
  obtain ⟨T', rfl⟩ : ∃ T', T = T' + 1 := ⟨T - 1, by omega⟩
  obtain ⟨s1, s2, -, -, -, -, ⟨-, -, -, -, -, k9, k10, k11⟩, -, -⟩ := g
  rw [jfix_s]
  generalize jfix T' (m_term_L9 N) = kk
  unfold m_term_L9 jlt jb1
  dsimp only
  rw [s1, Option.bind_some]
  dsimp only
  rw [if_neg (show ¬ c = 42 by omega), s2, Option.bind_some]
  dsimp only
  rw [if_neg (show ¬ c = 47 by omega), s2, Option.bind_some]
  dsimp only
  rw [if_neg (show ¬ c = 37 by omega)]
theorem sum_exit {N G : Nat} {X Y Y2 : jMem} {m j c : Int} (g : SG N X Y Y2 m j c) (hK : X 3 j < 7 ∨ 8 < X 3 j) (hG : 1 ≤ G) : jfix G (m_sum_L9 N) Y = some (1, Y2) := by
  obtain ⟨G', rfl⟩ : ∃ G', G = G' + 1 := ⟨G - 1, by omega⟩
  obtain ⟨s1, s2, -, -, -, -, ⟨-, -, -, k7, k8, -⟩, -, -⟩ := g
  rw [jfix_s]
  generalize jfix G' (m_sum_L9 N) = kk
  unfold m_sum_L9 jlt jb1
  dsimp only
  rw [s1, Option.bind_some]
  dsimp only
  rw [if_neg (show ¬ c = 43 by omega), s2, Option.bind_some]
  dsimp only
  rw [if_neg (show ¬ c = 45 by omega)]
theorem term_step {N T : Nat} {X Y Y2 Yv Yw : jMem} {m j c r : Int} (g : SG N X Y Y2 m j c) (hK : 9 ≤ X 3 j ∧ X 3 j ≤ 11) (hp : 0 ≤ X 4 j ∧ X 4 j < 400) (hv : m_value N (up Y2 0 8 (X 4 j + 1)) = some (r, Yv)) (hw : r ≠ 0 → ∀ s, (X 3 j = 9 ∧ s = 4) ∨ (X 3 j = 10 ∧ s = 5) ∨ (X 3 j = 11 ∧ s = 14) → m_puts N s 0 Yv = some (0, Yw)) : jfix (T + 1) (m_term_L9 N) Y = if r = 0 then some (0, Yv) else jfix T (m_term_L9 N) Yw := by
  obtain ⟨s1, s2, -, -, -, y8, ⟨-, -, -, -, -, k9, k10, k11⟩, by1, nx⟩ := g
  have jm := (nx (by omega) (by omega)).1
  have b42 := (by1 jm).2 42 (by omega) (by omega)
  have b47 := (by1 jm).2 47 (by omega) (by omega)
  have hp' : 0 ≤ X 4 j ∧ X 4 j < 400 := hp
  rw [jfix_s]
  generalize jfix T (m_term_L9 N) = kk
  unfold m_term_L9 jlt jb1 jbv
  dsimp only
  rw [s1, Option.bind_some]
  dsimp only
  by_cases c9 : X 3 j = 9
  · rw [if_pos (k9.mpr c9), jchk_pos (show 0 ≤ Y2 0 8 ∧ Y2 0 8 < 400 by rw [y8]; exact hp), if_pos (show Y2 1 (Y2 0 8) = 42 by rw [y8]; exact b42.mpr (k9.mpr c9)), y8, w32_id (by omega), hv, Option.bind_some]
    dsimp only
    by_cases c0 : r = 0
    · rw [if_pos c0, if_pos c0]
    · rw [if_neg c0, if_neg c0, hw c0 4 (by omega), Option.bind_some]
  · rw [if_neg (fun z => c9 (k9.mp z)), s2, Option.bind_some]
    dsimp only
    by_cases c10 : X 3 j = 10
    · rw [if_pos (k10.mpr c10), jchk_pos (show 0 ≤ Y2 0 8 ∧ Y2 0 8 < 400 by rw [y8]; exact hp), if_neg (show ¬ Y2 1 (Y2 0 8) = 42 by rw [y8]; exact fun z => c9 (k9.mp (b42.mp z))), jchk_pos (show 0 ≤ Y2 0 8 ∧ Y2 0 8 < 400 by rw [y8]; exact hp), if_pos (show Y2 1 (Y2 0 8) = 47 by rw [y8]; exact b47.mpr (k10.mpr c10)), y8, w32_id (by omega), hv, Option.bind_some]
      dsimp only
      by_cases c0 : r = 0
      · rw [if_pos c0, if_pos c0]
      · rw [if_neg c0, if_neg c0, hw c0 5 (by omega), Option.bind_some]
    · rw [if_neg (fun z => c10 (k10.mp z)), s2, Option.bind_some]
      dsimp only
      rw [if_pos (k11.mpr (show X 3 j = 11 by omega)), jchk_pos (show 0 ≤ Y2 0 8 ∧ Y2 0 8 < 400 by rw [y8]; exact hp), if_neg (show ¬ Y2 1 (Y2 0 8) = 42 by rw [y8]; exact fun z => c9 (k9.mp (b42.mp z))), jchk_pos (show 0 ≤ Y2 0 8 ∧ Y2 0 8 < 400 by rw [y8]; exact hp), if_neg (show ¬ Y2 1 (Y2 0 8) = 47 by rw [y8]; exact fun z => c10 (k10.mp (b47.mp z))), y8, w32_id (by omega), hv, Option.bind_some]
      dsimp only
      by_cases c0 : r = 0
      · rw [if_pos c0, if_pos c0]
      · rw [if_neg c0, if_neg c0, hw c0 14 (by omega), Option.bind_some]
theorem sum_step {N G : Nat} {X Y Y2 : jMem} {m j c : Int} (g : SG N X Y Y2 m j c) (hK : X 3 j = 7 ∨ X 3 j = 8) (hp : 0 ≤ X 4 j ∧ X 4 j < 400) : jfix (G + 1) (m_sum_L9 N) Y = jb1 (m_value N (up Y2 0 8 (X 4 j + 1))) fun r M2 => if r = 0 then some (0, M2) else sE N (X 3 j) N G M2 := by
  obtain ⟨s1, s2, -, -, -, y8, ⟨-, -, -, k7, k8, -⟩, by1, nx⟩ := g
  have jm := (nx (by omega) (by omega)).1
  have b43 := (by1 jm).2 43 (by omega) (by omega)
  have hp' : 0 ≤ X 4 j ∧ X 4 j < 400 := hp
  have tl : ∀ s, s = X 3 j - 5 → ((m_term N (up Y2 0 8 (X 4 j + 1))).bind fun o => if o.1 = 0 then some ((0 : Int), o.2) else (m_puts N s 0 o.2).bind fun o => jfix G (m_sum_L9 N) o.2) = jb1 (m_value N (up Y2 0 8 (X 4 j + 1))) fun r M2 => if r = 0 then some (0, M2) else sE N (X 3 j) N G M2 := fun s hs => by
    subst hs
    unfold m_term jb1
    cases m_value N (up Y2 0 8 (X 4 j + 1)) with
    | none => rfl
    | some o =>
      rw [Option.bind_some, Option.bind_some]
      dsimp only
      by_cases c0 : o.1 = 0
      · rw [if_pos c0, if_pos c0, Option.bind_some]
        dsimp only
        rw [if_pos rfl]
      · rw [if_neg c0, if_neg c0]
        unfold sE jb1 jbv
        have n0 : (X 3 j = 0) = False := eq_false (by omega)
        simp only [n0, reduceIte]
  rw [jfix_s]
  unfold m_sum_L9 jlt jb1 jbv
  dsimp only
  rw [s1, Option.bind_some]
  dsimp only
  by_cases c7 : X 3 j = 7
  · rw [if_pos (k7.mpr c7), jchk_pos (show 0 ≤ Y2 0 8 ∧ Y2 0 8 < 400 by rw [y8]; exact hp), if_pos (show Y2 1 (Y2 0 8) = 43 by rw [y8]; exact b43.mpr (k7.mpr c7)), y8, w32_id (by omega)]
    exact tl 2 (by omega)
  · rw [if_neg (fun z => c7 (k7.mp z)), s2, Option.bind_some]
    dsimp only
    rw [if_pos (k8.mpr (show X 3 j = 8 by omega)), jchk_pos (show 0 ≤ Y2 0 8 ∧ Y2 0 8 < 400 by rw [y8]; exact hp), if_neg (show ¬ Y2 1 (Y2 0 8) = 43 by rw [y8]; exact fun z => c7 (k7.mp (b43.mp z))), y8, w32_id (by omega)]
    exact tl 3 (by omega)
/-- what is held back is laid down -/
theorem held_ok {N : Nat} {X Y : jMem} {m j q t n v a hb e : Int} {ts tx : List Bool} (h : RR X Y m j q t n v a (false :: tx)) (H : (hb = 0 ∧ e = 0 ∧ tx = ts) ∨ ((hb = 7 ∨ hb = 8) ∧ e = 1 ∧ tx = false :: ts)) (hn : n + e ≤ 400) :
    ∃ X' Y', (if hb = 0 then some ((0 : Int), X) else Ru_apply N q hb X) = some (0, X') ∧ (if hb = 0 then some ((0 : Int), Y) else m_puts N (hb - 5) 0 Y) = some (0, Y') ∧ RR X' Y' m j q t (n + e) v a (false :: ts) ∧ XG q n X X' ∧ YG t n Y Y' ∧ (∀ p, p ≠ q → p ≠ q + 1 → X' p = X p) ∧ Y' 0 = Y 0 := by
  rcases H with ⟨a1, a2, a3⟩ | ⟨a1, a2, a3⟩
  · subst a2 a3
    rw [if_pos a1, if_pos a1]
    exact ⟨X, Y, rfl, rfl, by rw [Int.add_zero]; exact h, XG_refl, YG_refl, fun _ _ _ => rfl, rfl⟩
  · subst a2 a3
    rw [if_neg (by omega), if_neg (by omega)]
    refine applyR h (by omega) (by omega) (by omega) ?_ (ty_num (by omega))
    rcases a1 with b | b
    · subst b; unfold CR; decide
    · subst b; unfold CR; decide
