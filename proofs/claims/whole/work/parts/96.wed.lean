/-! a clause of a RULE on both sides -/
theorem tested_ok {N : Nat} (hN : 1000 ≤ N) {X Y : jMem} {m j q t n v a : Int} (h : RR X Y m j q t n v a []) (hn : n ≤ j) :
    ∃ (r : Int) (X' Y' : jMem), Rr_readTest N 30 0 X = some (0, X') ∧ m_tested N Y = some (r, Y') ∧ ((r = 1 ∧ ∃ j' n' v', RR X' Y' m j' q t n' v' a [true] ∧ j < j' ∧ n < n' ∧ n' ≤ j' ∧ XG q n X X' ∧ YT t n Y Y') ∨ (r = 0 ∧ FO q t X Y X' Y')) := by
  have nn := RR_nums h
  obtain ⟨g, hg⟩ : ∃ g, N = g + 1 := ⟨N - 1, by omega⟩
  generalize hY2 : up (up Y 0 16 0) 0 13 0 = Y2
  have rr2 : RR X Y2 m j q t n v a [] := RR_y h (fun p b1 _ => by rw [← hY2, up_ne b1, up_ne b1]) (fun u b1 b2 => by rw [← hY2, up_col b1, up_col b2])
  have yt2 : YT t n Y Y2 := ⟨fun p b1 _ _ _ => by rw [← hY2, up_ne b1, up_ne b1], fun u _ _ _ _ b1 b2 => by rw [← hY2, up_col b1, up_col b2], fun u _ => by rw [← hY2, up_row (by omega), up_row (by omega)]⟩
  have EY : m_tested N Y = tA N N (jfix g (m_tested_L12 N)) Y2 := by
    unfold m_tested jlt
    dsimp only
    rw [hY2, show jfix N (m_tested_L12 N) (1, Y2) = jfix (g + 1) (m_tested_L12 N) (1, Y2) by rw [← hg], jfix_s, tested_1]
  obtain ⟨X', q1, q2'⟩ := (rr_ok hN 30).2 0 (by omega) (by omega) X Y2 m j q t n v a 0 0 [] N g rr2 (by omega) (by omega) (by simp) (by rw [← hY2, up_hit rfl rfl]) (by rw [← hY2, up_col (by omega), up_hit rfl rfl]) (by omega) (by omega) (Or.inl rfl) (by omega) (by omega)
  have EX : Rr_readTest N 30 0 X = some (0, X') := q1
  rcases q2' with ⟨Y5, Z, j5, n5, v5, fC5, fG5, b1, b2, b3, b4, b5, b6, b7, b8, b9, b10, b11, b12, b13, b14⟩ | ⟨Y5, b1, b2⟩
  · have n5' := RR_nums b6
    obtain ⟨c5, Y5', g5⟩ := sgn hN b2
    have e5 : Y5' = Y5 := by rw [g5.2.2.1, up_same b3]
    rw [e5] at g5
    have i5 : m_isInside N Y5 = some 0 := by
      obtain ⟨r, r1, r2⟩ := inside_ok hN (Y := Y5) (by omega)
      rcases r2 with ⟨-, i, i0, i1, i2⟩ | ⟨z, -⟩
      · exact absurd i2 (b10.2.2.2 i i0 i1)
      · rw [r1, z]
    obtain ⟨fG', rfl⟩ : ∃ fG', fG5 = fG' + 1 := ⟨fG5 - 1, by omega⟩
    refine ⟨1, X', Z, EX, ?_, Or.inl ⟨rfl, j5, n5, v5, b6, by omega, by omega, by omega, b12, YT_trans yt2 b13 (Int.le_refl n)⟩⟩
    rw [EY, b1, tQ_out g5 (by omega) (Or.inr i5), tR_no hN b2.1 b3 b4.1 b4.2, jfix_s]
    generalize jfix fG' (m_tested_L12 N) = kk
    unfold m_tested_L12 jbv
    dsimp only
    rw [if_pos rfl, i5, Option.bind_some, if_pos rfl, b5, Option.bind_some]
  · exact ⟨0, X', Y5, EX, by rw [EY, b1], Or.inr ⟨rfl, FO_ahead XG_refl (YT_le yt2 nn.2.1.1) b2⟩⟩
def RC (X Y : jMem) (q t c n : Int) : Prop := X q 5 = c ∧ Y 5 t = c ∧ (0 ≤ c ∧ c ≤ 12) ∧ ∀ i, 0 ≤ i → i < c → ∃ a b e : Int, X (q + 2) i = a ∧ X (q + 3) i = b ∧ X (q + 4) i = e ∧ Y 4 (48 * t + 4 * i) = a ∧ Y 4 (48 * t + 4 * i + 1) = b ∧ 0 ≤ a ∧ a ≤ b ∧ b ≤ e ∧ e ≤ n ∧ tyF (X (q + 1)) (b - a).toNat a [] = some [false] ∧ ((Y 4 (48 * t + 4 * i + 2) = -1 ∧ e = b) ∨ (Y 4 (48 * t + 4 * i + 2) = b ∧ Y 4 (48 * t + 4 * i + 3) = e ∧ b < e ∧ tyF (X (q + 1)) (e - b).toNat b [] = some [true]))
theorem RC_w {X X' Y Y' : jMem} {q t c n n' : Int} (h : RC X Y q t c n) (h5 : X' q 5 = X q 5) (hr : ∀ p i, p = q + 2 ∨ p = q + 3 ∨ p = q + 4 → 0 ≤ i → i < c → X' p i = X p i) (hc : ∀ i, 0 ≤ i → i < n → X' (q + 1) i = X (q + 1) i) (h4 : ∀ i, 48 * t ≤ i → i < 48 * t + 4 * c → Y' 4 i = Y 4 i) (y5 : Y' 5 t = Y 5 t) (hn : n ≤ n') : RC X' Y' q t c n' := by
  obtain ⟨a1, a2, a3, a4⟩ := h
  refine ⟨by rw [h5]; exact a1, by rw [y5]; exact a2, a3, fun i i0 i1 => ?_⟩
  obtain ⟨a, b, e, b1, b2, b3, b4, b5, b6, b7, b8, b9, b10, b11⟩ := a4 i i0 i1
  refine ⟨a, b, e, by rw [hr _ i (by omega) i0 i1]; exact b1, by rw [hr _ i (by omega) i0 i1]; exact b2, by rw [hr _ i (by omega) i0 i1]; exact b3, by rw [h4 _ (by omega) (by omega)]; exact b4, by rw [h4 _ (by omega) (by omega)]; exact b5, b6, b7, b8, by omega, ?_, ?_⟩
  · rw [tyF_congr (code := X (q + 1)) (b - a).toNat a [] (fun x x0 x1 => hc x (by omega) (by omega))]; exact b10
  · rw [h4 (48 * t + 4 * i + 2) (by omega) (by omega), h4 (48 * t + 4 * i + 3) (by omega) (by omega), tyF_congr (code := X (q + 1)) (e - b).toNat b [] (fun x x0 x1 => hc x (by omega) (by omega))]
    exact b11
theorem RC_keep {X X' Y Y' : jMem} {q t c n n' : Int} (h : RC X Y q t c n) (hx : XG q n X X') (hy : YT t n Y Y') (hq : 177 ≤ q) (hn : n ≤ n') : RC X' Y' q t c n' :=
  RC_w h hx.2.1 (fun p i hp _ _ => by rw [hx.1 p (by omega) (by omega) (by omega) (by omega)]) (fun i _ i1 => hx.2.2 i i1) (fun i _ _ => by rw [hy.1 4 (by omega) (by omega) (by omega) (by omega)]) (by rw [hy.1 5 (by omega) (by omega) (by omega) (by omega)]) hn
theorem RR_v {X X' Y Y' : jMem} {m j q t n v a : Int} {ts : List Bool} (h : RR X Y m j q t n v a ts) (hx : ∀ p, p < q ∨ p = q + 1 → X' p = X p) (h1 : X' q 1 = X q 1) (hy : ∀ p, p = 1 ∨ p = 2 ∨ p = 3 → Y' p = Y p) (h0 : ∀ k, k = 1 ∨ k = 8 ∨ k = 9 ∨ k = 11 ∨ k = 12 → Y' 0 k = Y 0 k) : RR X' Y' m j q t n v a ts := by
  have nn := RR_nums h
  obtain ⟨r, ⟨a1, a2, a3, a4, a5, a6⟩, ⟨b1, b2, b3⟩, ⟨c1, c2, c3, c4⟩, d, e⟩ := h
  have x12 := hx 12 (by omega)
  have xq1 := hx (q + 1) (by omega)
  exact ⟨RD_w r (fun p w1 w2 => hx p (by omega)) (hy 1 (by omega)) (fun k hk => h0 k (by omega)), ⟨by rw [x12]; exact a1, by rw [x12]; exact a2, a3, a4, a5, by rw [h0 11 (by omega)]; exact a6⟩, ⟨by rw [x12]; exact b1, by rw [h0 12 (by omega)]; exact b2, b3⟩, ⟨by rw [h1]; exact c1, by rw [hy 3 (by omega)]; exact c2, c3, by rw [xq1, hy 2 (by omega)]; exact c4⟩, d, by rw [xq1]; exact e⟩
theorem RR_new {X Y : jMem} {m j q t n v a : Int} {ts : List Bool} (h : RR X Y m j q t n v a ts) : RR X Y m j q t n v n [] := by
  have nn := RR_nums h
  obtain ⟨r, a, b, c, d, e⟩ := h
  exact ⟨r, a, b, c, by omega, by rw [Int.sub_self]; rfl⟩
def XC (q : Int) (X X' : jMem) : Prop := ∀ p, p ≠ 2 → p ≠ 12 → p < q ∨ q + 5 ≤ p → X' p = X p
def YC (t : Int) (Y Y' : jMem) : Prop := (∀ p, p ≠ 0 → p ≠ 2 → p ≠ 3 → p ≠ 4 → p ≠ 5 → p ≠ 7 → Y' p = Y p) ∧ (∀ k, k ≠ 8 → k ≠ 9 → k ≠ 10 → k ≠ 12 → k ≠ 13 → k ≠ 14 → k ≠ 16 → Y' 0 k = Y 0 k) ∧ (∀ i, i < 400 * t ∨ 400 * t + 400 ≤ i → Y' 2 i = Y 2 i) ∧ (∀ i, i < 48 * t ∨ 48 * t + 48 ≤ i → Y' 4 i = Y 4 i) ∧ (∀ i, i ≠ t → Y' 5 i = Y 5 i)
theorem XC_refl {q : Int} {X : jMem} : XC q X X := fun _ _ _ _ => rfl
theorem XC_trans {q : Int} {X X' X'' : jMem} (h : XC q X X') (h' : XC q X' X'') : XC q X X'' := fun p a b c => by rw [h' p a b c, h p a b c]
theorem YC_trans {t : Int} {Y Y' Y'' : jMem} (h : YC t Y Y') (h' : YC t Y' Y'') : YC t Y Y'' := ⟨fun p a b c d e f => by rw [h'.1 p a b c d e f, h.1 p a b c d e f], fun k a b c d e f g => by rw [h'.2.1 k a b c d e f g, h.2.1 k a b c d e f g], fun i hi => by rw [h'.2.2.1 i hi, h.2.2.1 i hi], fun i hi => by rw [h'.2.2.2.1 i hi, h.2.2.2.1 i hi], fun i hi => by rw [h'.2.2.2.2 i hi, h.2.2.2.2 i hi]⟩
theorem YC_refl {t : Int} {Y : jMem} : YC t Y Y := ⟨fun _ _ _ _ _ _ _ => rfl, fun _ _ _ _ _ _ _ _ => rfl, fun _ _ => rfl, fun _ _ => rfl, fun _ _ => rfl⟩
theorem XC_XG {q n : Int} {X X' : jMem} (h : XG q n X X') : XC q X X' := fun p a b c => h.1 p a b (by omega) (by omega)
theorem YC_YT {t n : Int} {Y Y' : jMem} (h : YT t n Y Y') (hn : 0 ≤ n) : YC t Y Y' := ⟨fun p a b c _ _ d => h.1 p a b c d, fun k a b c d e _ f => h.2.1 k a b c d e f, fun i hi => h.2.2 i (by omega), fun i _ => by rw [h.1 4 (by omega) (by omega) (by omega) (by omega)], fun i _ => by rw [h.1 5 (by omega) (by omega) (by omega) (by omega)]⟩
theorem XC_up {q p i v : Int} {X : jMem} (h : p = 2 ∨ p = 12 ∨ (q ≤ p ∧ p < q + 5)) : XC q X (up X p i v) := fun p' a b c => up_ne (by omega)
theorem YC_0 {t k v : Int} {Y : jMem} (h : k = 8 ∨ k = 9 ∨ k = 10 ∨ k = 12 ∨ k = 13 ∨ k = 14 ∨ k = 16) : YC t Y (up Y 0 k v) := ⟨fun p a _ _ _ _ _ => up_ne a, fun k' _ _ _ _ _ _ _ => up_col (by omega), fun i _ => up_row (by omega), fun i _ => up_row (by omega), fun i _ => up_row (by omega)⟩
theorem YC_4 {t k v : Int} {Y : jMem} (h : 48 * t ≤ k ∧ k < 48 * t + 48) : YC t Y (up Y 4 k v) := ⟨fun p _ _ _ a _ _ => up_ne a, fun k' _ _ _ _ _ _ _ => up_row (by omega), fun i _ => up_row (by omega), fun i hi => up_col (by omega), fun i _ => up_row (by omega)⟩
theorem YC_5 {t v : Int} {Y : jMem} : YC t Y (up Y 5 t v) := ⟨fun p _ _ _ _ a _ => up_ne a, fun k' _ _ _ _ _ _ _ => up_row (by omega), fun i _ => up_row (by omega), fun i _ => up_row (by omega), fun i hi => up_col hi⟩
theorem YC_RF {t : Int} {Y Y' : jMem} (h : RF Y Y') : YC t Y Y' := YC_YT (n := 0) (YT_G (YG_RF h)) (by omega)
/-- the class's own lines of a clause -/
def cB (N : Nat) (x6 : Int) (M7 : jMem) (kk : jMem → Option (Int × jMem)) : Option (Int × jMem) := jbv (Rr_takeWed N x6 M7) fun M8 => jchk (jkb jTX (M8 12 1) 5 = true) <| jbv (Ru_openClause N ((M8 12 1)) M8) fun M10 => jbv (Rr_readSum N M10) fun M11 => jchk (jkb jTX (M11 12 1) 5 = true) <| jbv (Ru_openTest N ((M11 12 1)) M11) fun M13 => jchk (M13 12 0 = 2) <| jb1 (To_takes N 22 M13) fun r15 M16 => jlt (fun (M17 : jMem) => jchk (jkb jTX (M17 12 1) 5 = true) <| jbv (Ru_closeClause N ((M17 12 1)) M17) fun M19 => kk M19) fun j64 => (if r15 = 0 then j64 M16 else jbv (Rr_readTest N 30 0 M16) fun M27 => j64 M27)
theorem read_cB {N : Nat} {h24 : Int × jMem → Option (Int × jMem)} {x6 : Int} {M7 : jMem} : Rr_read_L24 N h24 (x6, M7) = cB N x6 M7 (fun M19 => jlt (fun (M20 : jMem) => jchk (M20 12 0 = 2) <| jbv (To_takeEnd N M20) fun M22 => jchk (M22 12 0 = 2) <| some ((M22 2 4), M22)) fun j91 => (if 12 < (w32 (x6 + 1)) then j91 M19 else jchk (M19 12 0 = 2) <| jb1 (To_takes N 4 M19) fun r25 M26 => (if r25 = 0 then j91 M26 else h24 ((w32 (x6 + 1)), M26)))) := rfl
theorem cB_eq {N : Nat} {c q r15 : Int} {X M8 M10 M11 M13 M16 M17 M19 : jMem} {kk : jMem → Option (Int × jMem)} (hk : jkb jTX q 5 = true) (h1 : Rr_takeWed N c X = some (0, M8)) (q8 : M8 12 1 = q) (h2 : Ru_openClause N q M8 = some (0, M10)) (h3 : Rr_readSum N M10 = some (0, M11)) (q11 : M11 12 1 = q) (h4 : Ru_openTest N q M11 = some (0, M13)) (q13 : M13 12 0 = 2) (h5 : To_takes N 22 M13 = some (r15, M16)) (h6 : (if r15 = 0 then some (0, M16) else Rr_readTest N 30 0 M16) = some (0, M17)) (q17 : M17 12 1 = q) (h7 : Ru_closeClause N q M17 = some (0, M19)) : cB N c X kk = kk M19 := by
  unfold cB jlt jbv jb1
  rw [h1, Option.bind_some]
  dsimp only
  rw [jchk_pos (show jkb jTX (M8 12 1) 5 = true by rw [q8]; exact hk), q8, h2, Option.bind_some]
  dsimp only
  rw [h3, Option.bind_some]
  dsimp only
  rw [jchk_pos (show jkb jTX (M11 12 1) 5 = true by rw [q11]; exact hk), q11, h4, Option.bind_some]
  dsimp only
  rw [jchk_pos q13, h5, Option.bind_some]
  dsimp only
  have T : (jchk (jkb jTX (M17 12 1) 5 = true) <| (Ru_closeClause N (M17 12 1) M17).bind fun o => kk o.2) = kk M19 := by
    rw [jchk_pos (show jkb jTX (M17 12 1) 5 = true by rw [q17]; exact hk), q17, h7, Option.bind_some]
  by_cases c0 : r15 = 0
  · rw [if_pos c0] at h6 ⊢
    rw [Option.some.injEq, Prod.mk.injEq] at h6
    rw [h6.2]; exact T
  · rw [if_neg c0] at h6 ⊢
    rw [h6, Option.bind_some]; exact T
/-- behind a fault a clause still ends -/
theorem openC_t {N : Nat} {q : Int} {X : jMem} (h : 0 ≤ X q 5) : ∃ X', Ru_openClause N q X = some (0, X') ∧ ∀ p, p ≠ q + 2 → X' p = X p := by
  unfold Ru_openClause jlt
  by_cases c : X q 5 < 12
  · rw [if_pos c, jchk_pos ⟨h, c⟩]; exact ⟨_, rfl, fun p hp => up_ne hp⟩
  · rw [if_neg c]; exact ⟨_, rfl, fun _ _ => rfl⟩
theorem openT_t {N : Nat} {q : Int} {X : jMem} (h : 0 ≤ X q 5) : ∃ X', Ru_openTest N q X = some (0, X') ∧ ∀ p, p ≠ q + 3 → X' p = X p := by
  unfold Ru_openTest jlt
  by_cases c : X q 5 < 12
  · rw [if_pos c, jchk_pos ⟨h, c⟩]; exact ⟨_, rfl, fun p hp => up_ne hp⟩
  · rw [if_neg c]; exact ⟨_, rfl, fun _ _ => rfl⟩
theorem closeC_t {N : Nat} {q : Int} {X : jMem} (h : 0 ≤ X q 5) : ∃ X', Ru_closeClause N q X = some (0, X') ∧ (∀ p, p ≠ q → p ≠ q + 4 → X' p = X p) ∧ X' q 1 = X q 1 ∧ 0 ≤ X' q 5 := by
  unfold Ru_closeClause jlt
  by_cases c : X q 5 < 12
  · rw [if_pos c, jchk_pos ⟨h, c⟩]
    dsimp only
    refine ⟨_, rfl, fun p h1 h2 => by rw [up_ne h1, up_ne h2], by rw [up_col (by omega), up_row (by omega)], ?_⟩
    rw [up_hit rfl rfl, up_row (by omega), w32_id (by omega)]; omega
  · rw [if_neg c]; exact ⟨_, rfl, fun _ _ _ => rfl, rfl, h⟩
theorem FZ_w {q : Int} {X X' : jMem} (h : FZ q X) (h2 : X' 2 = X 2) (h12 : X' 12 = X 12) (h1 : X' q 1 = X q 1) : FZ q X' := by
  unfold FZ; rw [h2, h12, h1]; exact h
