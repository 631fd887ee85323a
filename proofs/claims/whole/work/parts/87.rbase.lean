/-! reading a RULE: what both sides hold -/
def RR (X Y : jMem) (m j q t n v a : Int) (ts : List Bool) : Prop := RD X Y m j ∧ (X 12 0 = 2 ∧ X 12 1 = q ∧ q = 177 + 6 * t ∧ 0 ≤ t ∧ t < 6 ∧ Y 0 11 = t) ∧ (X 12 2 = v ∧ Y 0 12 = v ∧ 0 ≤ v ∧ v ≤ 60) ∧ CS X Y q t n ∧ (0 ≤ a ∧ a ≤ n) ∧ tyF (X (q + 1)) (n - a).toNat a [] = some ts
def XG (q n : Int) (X X' : jMem) : Prop := (∀ p, p ≠ 2 → p ≠ 12 → p ≠ q → p ≠ q + 1 → X' p = X p) ∧ X' q 5 = X q 5 ∧ ∀ i, i < n → X' (q + 1) i = X (q + 1) i
def YG (t n : Int) (Y Y' : jMem) : Prop := (∀ p, p ≠ 0 → p ≠ 2 → p ≠ 3 → Y' p = Y p) ∧ (∀ k, k ≠ 8 → k ≠ 9 → k ≠ 10 → k ≠ 12 → Y' 0 k = Y 0 k) ∧ ∀ i, i < 400 * t + n ∨ 400 * t + 400 ≤ i → Y' 2 i = Y 2 i
def YT (t n : Int) (Y Y' : jMem) : Prop := (∀ p, p ≠ 0 → p ≠ 2 → p ≠ 3 → p ≠ 7 → Y' p = Y p) ∧ (∀ k, k ≠ 8 → k ≠ 9 → k ≠ 10 → k ≠ 12 → k ≠ 13 → k ≠ 16 → Y' 0 k = Y 0 k) ∧ ∀ i, i < 400 * t + n ∨ 400 * t + 400 ≤ i → Y' 2 i = Y 2 i
/-- the class goes on behind a fault -/
def FZ (q : Int) (X : jMem) : Prop := X 2 4 ≠ 0 ∧ X 12 0 = 2 ∧ X 12 1 = q ∧ 0 ≤ X q 1 ∧ X q 1 ≤ 400
def FO (q t : Int) (X Y X' Y' : jMem) : Prop := FD X' Y' ∧ FZ q X' ∧ XG q 0 X X' ∧ YT t 0 Y Y'
theorem XG_refl {q n : Int} {X : jMem} : XG q n X X := ⟨fun _ _ _ _ _ => rfl, rfl, fun _ _ => rfl⟩
theorem XG_trans {q n n' : Int} {X X' X'' : jMem} (h : XG q n X X') (h' : XG q n' X' X'') (hn : n ≤ n') : XG q n X X'' := ⟨fun p a b c d => by rw [h'.1 p a b c d, h.1 p a b c d], by rw [h'.2.1, h.2.1], fun i hi => by rw [h'.2.2 i (by omega), h.2.2 i hi]⟩
theorem XG_le {q n n' : Int} {X X' : jMem} (h : XG q n X X') (hn : n' ≤ n) : XG q n' X X' := ⟨h.1, h.2.1, fun i hi => h.2.2 i (by omega)⟩
theorem YG_refl {t n : Int} {Y : jMem} : YG t n Y Y := ⟨fun _ _ _ _ => rfl, fun _ _ _ _ _ => rfl, fun _ _ => rfl⟩
theorem YG_trans {t n n' : Int} {Y Y' Y'' : jMem} (h : YG t n Y Y') (h' : YG t n' Y' Y'') (hn : n ≤ n') : YG t n Y Y'' := ⟨fun p a b c => by rw [h'.1 p a b c, h.1 p a b c], fun k a b c d => by rw [h'.2.1 k a b c d, h.2.1 k a b c d], fun i hi => by rw [h'.2.2 i (by omega), h.2.2 i hi]⟩
theorem YG_le {t n n' : Int} {Y Y' : jMem} (h : YG t n Y Y') (hn : n' ≤ n) : YG t n' Y Y' := ⟨h.1, h.2.1, fun i hi => h.2.2 i (by omega)⟩
theorem YT_refl {t n : Int} {Y : jMem} : YT t n Y Y := ⟨fun _ _ _ _ _ => rfl, fun _ _ _ _ _ _ _ => rfl, fun _ _ => rfl⟩
theorem YT_trans {t n n' : Int} {Y Y' Y'' : jMem} (h : YT t n Y Y') (h' : YT t n' Y' Y'') (hn : n ≤ n') : YT t n Y Y'' := ⟨fun p a b c d => by rw [h'.1 p a b c d, h.1 p a b c d], fun k a b c d e f => by rw [h'.2.1 k a b c d e f, h.2.1 k a b c d e f], fun i hi => by rw [h'.2.2 i (by omega), h.2.2 i hi]⟩
theorem YT_le {t n n' : Int} {Y Y' : jMem} (h : YT t n Y Y') (hn : n' ≤ n) : YT t n' Y Y' := ⟨h.1, h.2.1, fun i hi => h.2.2 i (by omega)⟩
theorem YT_G {t n : Int} {Y Y' : jMem} (h : YG t n Y Y') : YT t n Y Y' := ⟨fun p a b c _ => h.1 p a b c, fun k a b c d _ _ => h.2.1 k a b c d, h.2.2⟩
theorem YG_RF {t n : Int} {Y Y' : jMem} (h : RF Y Y') : YG t n Y Y' := ⟨fun p a _ _ => h.1 p a, fun k a b c _ => h.2 k a b c, fun i _ => by rw [h.1 2 (by omega)]⟩
theorem XG_2 {q n i v : Int} {X : jMem} (hq : 177 ≤ q) : XG q n X (up X 2 i v) := ⟨fun p a _ _ _ => up_ne a, by rw [up_ne (by omega)], fun k _ => by rw [up_ne (by omega)]⟩
theorem XG_12 {q n i v : Int} {X : jMem} (hq : 177 ≤ q) : XG q n X (up X 12 i v) := ⟨fun p _ a _ _ => up_ne a, by rw [up_ne (by omega)], fun k _ => by rw [up_ne (by omega)]⟩
theorem YG_12 {t n v : Int} {Y : jMem} : YG t n Y (up Y 0 12 v) := ⟨fun p a _ _ => up_ne a, fun k _ _ _ a => up_col a, fun i _ => by rw [up_ne (by omega)]⟩
theorem up_comm {M : jMem} {q j v q' j' v' : Int} (h : q ≠ q') : up (up M q j v) q' j' v' = up (up M q' j' v') q j v := by
  funext p k
  rw [up_all, up_all, up_all, up_all]
  by_cases c : p = q ∧ k = j
  · rw [if_pos c, if_pos c, if_neg (fun z => h (c.1.symm.trans z.1))]
  · rw [if_neg c, if_neg c]
theorem tyF_snoc {code : Int → Int} : ∀ (k : Nat) (i : Int) (ts : List Bool), tyF code (k + 1) i ts = (tyF code k i ts).bind (tyS (code (i + (k : Int))))
  | 0, i, ts => by
    show (tyS (code i) ts).bind (tyF code 0 (i + 1)) = (some ts).bind (tyS (code (i + 0)))
    rw [Int.add_zero, Option.bind_some]
    cases tyS (code i) ts <;> rfl
  | k + 1, i, ts => by
    show (tyS (code i) ts).bind (tyF code (k + 1) (i + 1)) = ((tyS (code i) ts).bind (tyF code k (i + 1))).bind (tyS (code (i + ((k + 1 : Nat) : Int))))
    have e : i + ((k + 1 : Nat) : Int) = i + 1 + (k : Int) := by omega
    rw [e]
    cases tyS (code i) ts with
    | none => rfl
    | some z => exact tyF_snoc k (i + 1) z
theorem tyF_congr {code code' : Int → Int} : ∀ (k : Nat) (i : Int) (ts : List Bool), (∀ x, i ≤ x → x < i + (k : Int) → code' x = code x) → tyF code' k i ts = tyF code k i ts
  | 0, _, _, _ => rfl
  | k + 1, i, ts, h => by
    show (tyS (code' i) ts).bind (tyF code' k (i + 1)) = (tyS (code i) ts).bind (tyF code k (i + 1))
    rw [h i (by omega) (by omega)]
    cases tyS (code i) ts with
    | none => rfl
    | some z => exact tyF_congr k (i + 1) z (fun x h0 h1 => h x (by omega) (by omega))
theorem jkb_rule : ∀ r : Fin 6, jkb jTX (177 + 6 * (r.val : Int)) 5 = true := by decide +kernel
theorem jkb_q {q t : Int} (h : q = 177 + 6 * t) (h0 : 0 ≤ t) (h1 : t < 6) : jkb jTX q 5 = true := by
  obtain ⟨k, hk⟩ := fin_of (n := 6) (x := t) h0 (by omega)
  have := jkb_rule k
  rw [hk, ← h] at this
  exact this
theorem RR_nums {X Y : jMem} {m j q t n v a : Int} {ts : List Bool} (h : RR X Y m j q t n v a ts) : (0 ≤ j ∧ j ≤ m ∧ m ≤ 400) ∧ (0 ≤ n ∧ n ≤ 400) ∧ (177 ≤ q ∧ q ≤ 207) ∧ jkb jTX q 5 = true ∧ (0 ≤ X 4 j ∧ X 4 j ≤ 400) := by
  obtain ⟨h1, ⟨-, -, h2, h3, h4, -⟩, -, h5, -⟩ := h
  have a := h1.1.2.2.2.1
  have b := h1.1.1.1
  have c := h5.2.2.1
  have pl := At_pl h1.1
  have d := h1.1.2.1
  exact ⟨by omega, c, by omega, jkb_q h2 h3 h4, by omega⟩
/-- only what no side holds of a RULE has changed, and where both stand -/
theorem RR_w {X X' Y Y' : jMem} {m j j' q t n v v' a : Int} {ts : List Bool} (h : RR X Y m j q t n v a ts) (r : RD X' Y' m j') (hx : ∀ p, p ≠ 2 → p ≠ 12 → X' p = X p) (h0 : X' 12 0 = X 12 0) (h1 : X' 12 1 = X 12 1) (h2 : X' 12 2 = v') (hy : Y' 2 = Y 2) (hy3 : Y' 3 = Y 3) (g11 : Y' 0 11 = Y 0 11) (g12 : Y' 0 12 = v') (hv : 0 ≤ v' ∧ v' ≤ 60) : RR X' Y' m j' q t n v' a ts := by
  have nn := RR_nums h
  obtain ⟨-, ⟨a1, a2, a3, a4, a5, a6⟩, -, ⟨c1, c2, c3, c4⟩, d, e⟩ := h
  have xq : X' q = X q := hx q (by omega) (by omega)
  have xq1 : X' (q + 1) = X (q + 1) := hx (q + 1) (by omega) (by omega)
  refine ⟨r, ⟨by rw [h0]; exact a1, by rw [h1]; exact a2, a3, a4, a5, by rw [g11]; exact a6⟩, ⟨h2, g12, hv⟩, ⟨by rw [xq]; exact c1, by rw [hy3]; exact c2, c3, by rw [xq1, hy]; exact c4⟩, d, by rw [xq1]; exact e⟩
theorem emitR {N : Nat} {X Y : jMem} {m j q t n v a c s w : Int} {ts ts' : List Bool} (h : RR X Y m j q t n v a ts) (hn : n < 400) (hs : 0 ≤ s ∧ s < 16) (hw : 0 ≤ w ∧ w ≤ 99999) (hc : CR c (s + 16 * w)) (ht : tyS c ts = some ts') :
    ∃ X' Y', Ru_push N q c X = some (0, X') ∧ m_puts N s w Y = some (0, Y') ∧ RR X' Y' m j q t (n + 1) v a ts' ∧ XG q n X X' ∧ YG t n Y Y' ∧ (∀ p, p ≠ q → p ≠ q + 1 → X' p = X p) ∧ Y' 0 = Y 0 := by
  have nn := RR_nums h
  obtain ⟨r, ⟨a1, a2, a3, a4, a5, a6⟩, b, c1, d, e⟩ := h
  obtain ⟨e1, e2, e3⟩ := emit_ok (N := N) (c := c) (s := s) (w := w) c1 hn ⟨a4, a5⟩ a6 (by omega) hs hw hc
  generalize hX' : up (up X (q + 1) n c) q 1 (n + 1) = X' at e1 e3
  generalize hY' : up (up Y 2 (400 * t + n) (s + 16 * w)) 3 t (n + 1) = Y' at e2 e3
  have fx : ∀ p, p ≠ q → p ≠ q + 1 → X' p = X p := fun p b1 b2 => by rw [← hX', up_ne b1, up_ne b2]
  have fq : X' (q + 1) = up X (q + 1) n c (q + 1) := by rw [← hX', up_ne (by omega)]
  have y0 : Y' 0 = Y 0 := by rw [← hY', up_ne (by omega), up_ne (by omega)]
  refine ⟨X', Y', e1, e2, ⟨RD_w r (fun p b1 b2 => fx p (by omega) (by omega)) (by rw [← hY', up_ne (by omega), up_ne (by omega)]) (fun k _ => by rw [y0]), ⟨by rw [fx 12 (by omega) (by omega)]; exact a1, by rw [fx 12 (by omega) (by omega)]; exact a2, a3, a4, a5, by rw [y0]; exact a6⟩, ⟨by rw [fx 12 (by omega) (by omega)]; exact b.1, by rw [y0]; exact b.2.1, b.2.2⟩, e3, by omega, ?_⟩, ⟨fun p _ _ b1 b2 => fx p b1 b2, by rw [← hX', up_col (by omega), up_row (by omega)], fun i hi => by rw [fq, up_col (by omega)]⟩, ⟨fun p b1 b2 b3 => by rw [← hY', up_ne b3, up_ne b2], fun k _ _ _ _ => by rw [y0], fun i hi => by rw [← hY', up_row (by omega), up_col (by omega)]⟩, fx, y0⟩
  have en : (n + 1 - a).toNat = (n - a).toNat + 1 := by omega
  have ea : a + (((n - a).toNat : Nat) : Int) = n := by omega
  rw [en, tyF_snoc, ea, fq, tyF_congr (code := X (q + 1)) (n - a).toNat a [] (fun x _ h1 => up_col (by omega)), e, Option.bind_some, up_hit rfl rfl]
  exact ht
/-- a code that is pushed while the reader goes on to another token -/
theorem push_mv {N : Nat} {q c x y z : Int} {M M' : jMem} (h : Ru_push N q c M = some (0, M')) (h1 : q ≠ x) (h2 : q + 1 ≠ x) : Ru_push N q c (up M x y z) = some (0, up M' x y z) := by
  unfold Ru_push jlt at h ⊢
  rw [up_row h1]
  by_cases c0 : M q 1 < 400
  · rw [if_pos c0] at h ⊢
    by_cases c1 : 0 ≤ M q 1 ∧ M q 1 < 400
    · rw [jchk_pos c1] at h ⊢
      dsimp only at h ⊢
      rw [Option.some.injEq, Prod.mk.injEq] at h
      have h' := h.2
      rw [up_row (q' := q) (by omega)] at h' ⊢
      rw [up_row h1, ← h', up_comm (q := x) (fun z => h2 z.symm), up_comm (q := x) (fun z => h1 z.symm)]
    · unfold jchk at h
      rw [if_neg c1] at h
      cases h
  · rw [if_neg c0] at h ⊢
    cases h
    rfl
/-! behind a fault the class only pushes -/
theorem push_F {N : Nat} {q c : Int} {X : jMem} (h : FZ q X) (hq : 177 ≤ q) : ∃ X', Ru_push N q c X = some (0, X') ∧ FZ q X' ∧ XG q 0 X X' ∧ X' 2 = X 2 := by
  obtain ⟨a, b, d, e, f⟩ := h
  unfold Ru_push jlt
  by_cases c0 : X q 1 < 400
  · rw [if_pos c0, jchk_pos ⟨e, c0⟩]
    dsimp only
    rw [up_row (by omega), w32_id (by omega)]
    refine ⟨_, rfl, ⟨?_, ?_, ?_, ?_, ?_⟩, ⟨fun p _ _ b1 b2 => by rw [up_ne b1, up_ne b2], by rw [up_col (by omega), up_row (by omega)], fun i hi => by rw [up_row (by omega), up_col (by omega)]⟩, by rw [up_ne (by omega), up_ne (by omega)]⟩
    · rw [up_row (by omega), up_row (by omega)]; exact a
    · rw [up_row (by omega), up_row (by omega)]; exact b
    · rw [up_row (by omega), up_row (by omega)]; exact d
    · rw [up_hit rfl rfl]; omega
    · rw [up_hit rfl rfl]; omega
  · rw [if_neg c0]; exact ⟨X, rfl, ⟨a, b, d, e, f⟩, XG_refl, rfl⟩
theorem apply_F {N : Nat} {q c : Int} {X : jMem} (h : FZ q X) (hq : 177 ≤ q) : ∃ X', Ru_apply N q c X = some (0, X') ∧ FZ q X' ∧ XG q 0 X X' ∧ X' 2 = X 2 := by
  obtain ⟨X', a, b⟩ := push_F (N := N) (c := w32 (-c)) h hq
  refine ⟨X', ?_, b⟩
  unfold Ru_apply jbv
  rw [a, Option.bind_some]
theorem value_F {N : Nat} {q : Int} {X : jMem} (h : FZ q X) : Rr_readValue N X = some (0, X) := by
  obtain ⟨a, b, d, e, f⟩ := h
  unfold Rr_readValue jbv
  rw [jchk_pos b, looked_F a, Option.bind_some, if_neg (by decide), if_neg (by decide), if_pos (by decide), jchk_pos b, fail_F a, Option.bind_some]
theorem sloop_F {N G : Nat} {q x4 i : Int} {X : jMem} (h : FZ q X) (hq : 177 ≤ q) (hk : jkb jTX q 5 = true) (hG : 1 ≤ G) : ∃ X', jfix G (Rr_readSum_L16 N) (x4, 0, i, X) = some (0, X') ∧ FZ q X' ∧ XG q 0 X X' ∧ X' 2 = X 2 := by
  obtain ⟨g, rfl⟩ : ∃ g, G = g + 1 := ⟨G - 1, by omega⟩
  obtain ⟨X', p1, p2'⟩ := apply_F (N := N) (c := x4) h hq
  rw [jfix_s]
  generalize jfix g (Rr_readSum_L16 N) = kk
  have H : ∃ X', (if x4 = 0 then some ((0 : Int), X) else jchk (jkb jTX (X 12 1) 5 = true) <| jbv (Ru_apply N (X 12 1) x4 X) fun M9 => some ((0 : Int), M9)) = some (0, X') ∧ FZ q X' ∧ XG q 0 X X' ∧ X' 2 = X 2 := by
    by_cases c : x4 = 0
    · rw [if_pos c]; exact ⟨X, rfl, h, XG_refl, rfl⟩
    · rw [if_neg c, h.2.2.1, jchk_pos hk]
      unfold jbv
      rw [p1, Option.bind_some]
      exact ⟨X', rfl, p2'⟩
  unfold Rr_readSum_L16 jlt
  dsimp only
  rw [if_pos (show (0 : Int) < 7 by decide)]
  by_cases c : i < 400
  · rw [if_pos c]; exact H
  · rw [if_neg c]; exact H
theorem sum_F {N : Nat} {q : Int} {X : jMem} (hN : 1000 ≤ N) (h : FZ q X) : Rr_readSum N X = some (0, X) := by
  unfold Rr_readSum jbv
  rw [value_F h, Option.bind_some]
  dsimp only
  rw [jchk_pos h.2.1, looked_F h.1, Option.bind_some]
  obtain ⟨g, rfl⟩ : ∃ g, N = g + 1 := ⟨N - 1, by omega⟩
  rw [jfix_s]
  unfold Rr_readSum_L16 jlt
  dsimp only
  rw [if_pos (show (0 : Int) < 400 by decide), if_pos (show (0 : Int) < 7 by decide), if_pos rfl]
theorem sign_F {N : Nat} {q : Int} {X : jMem} (h : FZ q X) : Rr_takeSign N X = some (0, X) := by
  unfold Rr_takeSign jbv jlt
  rw [jchk_pos h.2.1, looked_F h.1, Option.bind_some]
  dsimp only
  rw [if_pos (show (0 : Int) < 12 by decide), jchk_pos h.2.1, fail_F h.1, Option.bind_some]
