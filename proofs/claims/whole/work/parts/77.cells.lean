/-! what a PARISH is told -/
def DW (σ : Int → Int) : Prop := σ 0 = 1 ∧ (2 ≤ σ 1 ∧ σ 1 ≤ 7) ∧ (0 ≤ σ 2 ∧ σ 2 ≤ 9) ∧ ∀ i, 0 ≤ i → i < 7 → (0 ≤ σ (60 + i) ∧ σ (60 + i) ≤ 30) ∧ (0 ≤ σ (67 + i) ∧ σ (67 + i) ≤ 60) ∧ (0 ≤ σ (46 + i) ∧ σ (46 + i) ≤ 5) ∧ (0 ≤ σ (74 + i) ∧ σ (74 + i) ≤ 9) ∧ (0 ≤ σ (53 + i) ∧ σ (53 + i) < 128) ∧ σ (53 + i) / p2 i % 2 = 0
def DR (X Y : jMem) : Prop := PR X 6 (Y 6) ∧ DW (Y 6)
def D0 (X Y : jMem) : Prop := (∀ k, 0 ≤ k → k < 81 → Y 6 k = 0) ∧ ∀ i, 0 ≤ i → i < 7 → X 7 i = 9 ∧ X 8 i = 0 ∧ X 9 i = 1 ∧ X 10 i = 2 ∧ X 11 i = 0
def XD (X X' : jMem) : Prop := ∀ p, p ≠ 2 → p < 6 ∨ 11 < p → X' p = X p
def YD (Y Y' : jMem) : Prop := (∀ p, p ≠ 0 → p ≠ 6 → Y' p = Y p) ∧ (∀ k, k ≠ 8 → k ≠ 9 → k ≠ 10 → k ≠ 14 → Y' 0 k = Y 0 k)
theorem XD_refl {X : jMem} : XD X X := fun _ _ _ => rfl
theorem YD_refl {Y : jMem} : YD Y Y := ⟨fun _ _ _ => rfl, fun _ _ _ _ _ => rfl⟩
theorem XD_trans {X X' X'' : jMem} (h : XD X X') (h' : XD X' X'') : XD X X'' := fun p a b => by rw [h' p a b, h p a b]
theorem YD_trans {Y Y' Y'' : jMem} (h : YD Y Y') (h' : YD Y' Y'') : YD Y Y'' := ⟨fun p a b => by rw [h'.1 p a b, h.1 p a b], fun k a b c d => by rw [h'.2 k a b c d, h.2 k a b c d]⟩
theorem XD_XF {X X' : jMem} (h : XF X X') : XD X X' := fun p a _ => h p a
theorem YD_RF {Y Y' : jMem} (h : RF Y Y') : YD Y Y' := ⟨fun p a _ => h.1 p a, fun k a b c _ => h.2 k a b c⟩
theorem XD_up {X : jMem} {q i v : Int} (h : 6 ≤ q ∧ q ≤ 11) : XD X (up X q i v) := fun p a b => up_ne (by omega)
theorem YD_up {Y : jMem} {i v : Int} : YD Y (up Y 6 i v) := ⟨fun p a b => up_ne b, fun k _ _ _ _ => up_row (by omega)⟩
theorem RD_up {X Y : jMem} {m j q i v i' v' : Int} (h : RD X Y m j) (hq : 6 ≤ q ∧ q ≤ 11) : RD (up X q i v) (up Y 6 i' v') m j :=
  RD_w h (fun p a b => up_ne (by omega)) (up_ne (by omega)) (fun k _ => up_row (by omega))
/-- a number is taken, and laid into a cell of what is read -/
theorem cell_ok {N : Nat} (hN : 1000 ≤ N) {X Y : jMem} {m j c lo hi : Int} (h : RD X Y m j) (hc : 0 ≤ c ∧ c < 81) :
    ∃ v r X' Y', To_takeNumber N lo hi X = some (v, X') ∧ m_cellHere N c lo hi Y = some (r, Y') ∧ XF X X' ∧ YD Y Y' ∧ Y' 0 14 = Y 0 14 ∧ ((r = 1 ∧ RD X' Y' m (j + 1) ∧ lo ≤ v ∧ v ≤ hi ∧ Y' 6 = (up Y 6 c v) 6) ∨ (r = 0 ∧ v = lo ∧ FD X' Y')) := by
  obtain ⟨v, r, X', Y', a1, a2, a3, a4, a5⟩ := num_ok hN (lo := lo) (hi := hi) h
  unfold m_cellHere jb1 jlt
  rw [a1, a2, Option.bind_some]
  dsimp only
  rcases a5 with ⟨z1, z2, z3, z4, z5, z6, z7⟩ | ⟨z1, z2, z3, -⟩
  · rw [if_neg (by omega), jchk_pos hc, z5]
    refine ⟨v, 1, X', up Y' 6 c v, rfl, rfl, a3, YD_trans (YD_RF a4) YD_up, by rw [up_row (by omega)]; exact a4.2 14 (by omega) (by omega) (by omega), Or.inl ⟨rfl, RD_w z2 (fun _ _ _ => rfl) (up_ne (by omega)) (fun k _ => up_row (by omega)), z6, z7, ?_⟩⟩
    rw [up_eq, up_eq, a4.1 6 (by omega)]
  · rw [if_pos z1]
    exact ⟨v, 0, X', Y', rfl, rfl, a3, YD_RF a4, a4.2 14 (by omega) (by omega) (by omega), Or.inr ⟨rfl, z2, z3⟩⟩
/-- two cells of a WELL or of a FARM -/
theorem pair_ok {N : Nat} (hN : 1000 ≤ N) {X Y : jMem} {m j f q1 q2 c1 c2 lo1 hi1 lo2 hi2 : Int} (h : RD X Y m j) (hf : 0 ≤ f ∧ f < 7) (hq1 : 6 ≤ q1 ∧ q1 ≤ 11) (hq2 : 6 ≤ q2 ∧ q2 ≤ 11) (hc1 : 0 ≤ c1 ∧ c1 + 7 ≤ 81) (hc2 : 0 ≤ c2 ∧ c2 + 7 ≤ 81) :
    ∃ (r : Int) (X' Y' : jMem), (jb1 (To_takeNumber N lo1 hi1 X) fun r20 M21 => jchk (0 ≤ f ∧ f < 7) <| jlt (up M21 q1 f r20) fun M23 => jb1 (To_takeNumber N lo2 hi2 M23) fun r24 M25 => jchk (0 ≤ f ∧ f < 7) <| jlt (up M25 q2 f r24) fun M27 => some ((0 : Int), M27)) = some (0, X') ∧ (jb1 (m_cellHere N (w32 (c1 + f)) lo1 hi1 Y) fun r5 M6 => (if r5 = 0 then some ((0 : Int), M6) else jb1 (m_cellHere N (w32 (c2 + f)) lo2 hi2 M6) fun r7 M8 => (if r7 = 0 then some ((0 : Int), M8) else some (1, M8)))) = some (r, Y') ∧ XD X X' ∧ YD Y Y' ∧ Y' 0 14 = Y 0 14 ∧ ((r = 1 ∧ RD X' Y' m (j + 2) ∧ ∃ v1 v2, lo1 ≤ v1 ∧ v1 ≤ hi1 ∧ lo2 ≤ v2 ∧ v2 ≤ hi2 ∧ (∀ p, p ≠ 2 → X' p = up (up X q1 f v1) q2 f v2 p) ∧ Y' 6 = up (up Y 6 (c1 + f) v1) 6 (c2 + f) v2 6) ∨ (r = 0 ∧ FD X' Y')) := by
  rw [w32_id (x := c1 + f) (by omega), w32_id (x := c2 + f) (by omega)]
  obtain ⟨v1, r1, X1, Y1, a1, a2, a3, a4, a5, a6⟩ := cell_ok hN (lo := lo1) (hi := hi1) (c := c1 + f) h (by omega)
  unfold jb1 jlt
  rw [a1, a2, Option.bind_some, Option.bind_some]
  dsimp only
  rw [jchk_pos hf]
  rcases a6 with ⟨z1, z2, z3, z4, z5⟩ | ⟨z1, z2, z3⟩
  · rw [if_neg (show ¬ r1 = 0 by omega)]
    have rd1 : RD (up X1 q1 f v1) Y1 m (j + 1) := RD_w z2 (fun p a b => up_ne (by omega)) rfl (fun _ _ => rfl)
    obtain ⟨v2, r2, X2, Y2, b1, b2, b3, b4, b5, b6⟩ := cell_ok hN (lo := lo2) (hi := hi2) (c := c2 + f) rd1 (by omega)
    rw [b1, b2, Option.bind_some, Option.bind_some]
    dsimp only
    rw [jchk_pos hf]
    have xd : XD X (up X2 q2 f v2) := XD_trans (XD_trans (XD_XF a3) (XD_up hq1)) (XD_trans (XD_XF b3) (XD_up hq2))
    rcases b6 with ⟨w1, w2, w3, w4, w5⟩ | ⟨w1, w2, w3⟩
    · rw [if_neg (show ¬ r2 = 0 by omega)]
      refine ⟨1, _, _, rfl, rfl, xd, YD_trans a4 b4, by rw [b5, a5], Or.inl ⟨rfl, ?_, v1, v2, z3, z4, w3, w4, fun p hp => ?_, ?_⟩⟩
      · rw [show j + 2 = j + 1 + 1 by omega]
        exact RD_w w2 (fun p a b => up_ne (by omega)) rfl (fun _ _ => rfl)
      · funext k
        rw [up_all, up_all (M := up X q1 f v1)]
        by_cases c : p = q2 ∧ k = f
        · rw [if_pos c, if_pos c]
        · rw [if_neg c, if_neg c, b3 p hp, up_all, up_all, a3 p hp]
      · rw [w5, up_eq, up_eq, z5]
    · rw [if_pos w1]
      exact ⟨0, _, _, rfl, rfl, xd, YD_trans a4 b4, by rw [b5, a5], Or.inr ⟨rfl, FD_w w3 (up_ne (by omega)) rfl⟩⟩
  · rw [if_pos z1]
    have nz : up X1 q1 f v1 2 4 ≠ 0 := by rw [up_row (by omega)]; exact z3.1
    rw [num_F nz, Option.bind_some]
    dsimp only
    rw [jchk_pos hf]
    exact ⟨0, _, _, rfl, rfl, XD_trans (XD_trans (XD_XF a3) (XD_up hq1)) (XD_up hq2), a4, a5, Or.inr ⟨rfl, FD_w z3 (by rw [up_ne (by omega), up_ne (by omega)]) rfl⟩⟩
