/-! what the reference holds open, and where it goes on -/
theorem jbv_jbv {α : Type} {u : Option (Int × jMem)} {f : jMem → Option (Int × jMem)} {g : jMem → Option α} : jbv (jbv u f) g = jbv u (fun M => jbv (f M) g) := by
  unfold jbv; cases u <;> rfl
def stg (w : Int) : Int := if w = 13 then 1 else if w = 12 then 2 else if w = 11 then 3 else 0
theorem strength_ok {N : Nat} {w : Int} {M : jMem} : m_strength N w M = some (stg w) := by
  unfold m_strength stg
  by_cases a : w = 13
  · rw [if_pos a, if_pos a]
  · rw [if_neg a, if_neg a]
    by_cases b : w = 12
    · rw [if_pos b, if_pos b]
    · rw [if_neg b, if_neg b]
      by_cases c : w = 11
      · rw [if_pos c, if_pos c]
      · rw [if_neg c, if_neg c]
theorem lay_stop {N f : Nat} {Y : jMem} {least : Int} (h0 : 0 ≤ Y 0 16 ∧ Y 0 16 ≤ 400) (h : Y 0 16 = 0 ∨ stg (Y 7 (Y 0 16 - 1)) < least) (hf : 1 ≤ f) : jfix f (m_layDown_L0 N least) Y = some (0, Y) := by
  obtain ⟨g, rfl⟩ : ∃ g, f = g + 1 := ⟨f - 1, by omega⟩
  rw [jfix_s]
  generalize jfix g (m_layDown_L0 N least) = kk
  unfold m_layDown_L0
  by_cases c : 0 < Y 0 16
  · have l : stg (Y 7 (Y 0 16 - 1)) < least := by
      rcases h with w | w
      · omega
      · exact w
    rw [if_pos c, w32_id (by omega), jchk_pos (by omega), strength_ok, Option.bind_some, if_pos l]
  · rw [if_neg c]
theorem lay_pop {N f : Nat} {X Y : jMem} {m j q t n v a s w K least : Int} {ts ts' : List Bool} (h : RR X Y m j q t n v a ts) (hn : n < 400) (ho : Y 0 16 = s + 1) (hs : 0 ≤ s ∧ s < 400) (hw : Y 7 s = w) (hK : (K = 25 ∧ w = 11) ∨ (K = 24 ∧ w = 12) ∨ (K = 23 ∧ w = 13)) (hl : least ≤ stg w) (hd : 0 ≤ Y 0 13 ∧ Y 0 13 ≤ 10) (ht : tyS (-K) ts = some ts') :
    ∃ X' Y', Ru_apply N q K X = some (0, X') ∧ jfix (f + 1) (m_layDown_L0 N least) Y = jfix f (m_layDown_L0 N least) Y' ∧ RR X' Y' m j q t (n + 1) v a ts' ∧ Y' 0 16 = s ∧ Y' 7 = Y 7 ∧ Y' 0 13 = (if w = 11 then Y 0 13 - 1 else Y 0 13) ∧ Y' 0 8 = Y 0 8 ∧ XG q n X X' ∧ YT t n Y Y' ∧ (∀ p, p ≠ q → p ≠ q + 1 → X' p = X p) := by
  have nn := RR_nums h
  have rr4 : RR X (up Y 0 16 s) m j q t n v a ts := RR_w h (RD_w h.1 (fun _ _ _ => rfl) (up_ne (by omega)) (fun k hk => up_col (by omega))) (fun _ _ _ => rfl) rfl rfl h.2.2.1.1 (up_ne (by omega)) (up_ne (by omega)) (up_col (by omega)) (by rw [up_col (by omega)]; exact h.2.2.1.2.1) h.2.2.1.2.2
  have hcr : CR (-K) w := by
    rcases hK with ⟨k1, k2⟩ | ⟨k1, k2⟩ | ⟨k1, k2⟩ <;> subst k1 <;> subst k2 <;> (unfold CR; decide)
  obtain ⟨X', Y6, e1, e2, e3, e4, e5, e6, e7⟩ := applyR (N := N) (K := K) (s := w) rr4 hn (by omega) (by omega) hcr ht
  have y7 : Y6 7 = Y 7 := by rw [e5.1 7 (by omega) (by omega) (by omega), up_ne (by omega)]
  have y16 : Y6 0 16 = s := by rw [e7, up_hit rfl rfl]
  have y13 : Y6 0 13 = Y 0 13 := by rw [e7, up_col (by omega)]
  have y8 : Y6 0 8 = Y 0 8 := by rw [e7, up_col (by omega)]
  have yt : YT t n Y Y6 := YT_trans (n' := n) ⟨fun p a _ _ _ => up_ne a, fun k _ _ _ _ _ a => up_col a, fun i _ => by rw [up_ne (by omega)]⟩ (YT_G e5) (Int.le_refl n)
  have B : jfix (f + 1) (m_layDown_L0 N least) Y = if w = 11 then jfix f (m_layDown_L0 N least) (up Y6 0 13 (Y 0 13 - 1)) else jfix f (m_layDown_L0 N least) Y6 := by
    rw [jfix_s]
    generalize jfix f (m_layDown_L0 N least) = kk
    have j1 : 0 ≤ (up Y 0 16 s) 0 16 ∧ (up Y 0 16 s) 0 16 < 400 := by rw [up_hit rfl rfl]; exact hs
    have j2 : 0 ≤ Y6 0 16 ∧ Y6 0 16 < 400 := by rw [y16]; exact hs
    unfold m_layDown_L0 jlt jbv
    dsimp only
    rw [if_pos (show 0 < Y 0 16 by omega), w32_id (x := Y 0 16 - 1) (by omega), show Y 0 16 - 1 = s by omega, jchk_pos hs, strength_ok, hw, Option.bind_some, if_neg (show ¬ stg w < least by omega), jchk_pos j1, up_hit rfl rfl, up_row (show (7 : Int) ≠ 0 by omega), hw, e2, Option.bind_some]
    dsimp only
    rw [jchk_pos j2]
    by_cases c : w = 11
    · rw [if_pos (show Y6 7 (Y6 0 16) = 11 by rw [y16, y7, hw]; exact c), if_pos c, y13, w32_id (by omega)]
    · rw [if_neg (show ¬ Y6 7 (Y6 0 16) = 11 by rw [y16, y7, hw]; exact c), if_neg c]
  refine ⟨X', if w = 11 then up Y6 0 13 (Y 0 13 - 1) else Y6, e1, ?_, ?_⟩
  · rw [B]
    by_cases c : w = 11
    · rw [if_pos c, if_pos c]
    · rw [if_neg c, if_neg c]
  · by_cases c : w = 11
    · rw [if_pos c, if_pos c]
      have rr5 : RR X' (up Y6 0 13 (Y 0 13 - 1)) m j q t (n + 1) v a ts' := RR_w e3 (RD_w e3.1 (fun _ _ _ => rfl) (up_ne (by omega)) (fun k hk => up_col (by omega))) (fun _ _ _ => rfl) rfl rfl e3.2.2.1.1 (up_ne (by omega)) (up_ne (by omega)) (up_col (by omega)) (by rw [up_col (by omega)]; exact e3.2.2.1.2.1) e3.2.2.1.2.2
      exact ⟨rr5, by rw [up_col (by omega)]; exact y16, by rw [up_ne (by omega)]; exact y7, up_hit rfl rfl, by rw [up_col (by omega)]; exact y8, e4, YT_trans yt (n' := n) ⟨fun p a _ _ _ => up_ne a, fun k _ _ _ _ a _ => up_col a, fun i _ => by rw [up_ne (by omega)]⟩ (Int.le_refl n), e6⟩
    · rw [if_neg c, if_neg c]
      exact ⟨e3, y16, y7, y13, y8, e4, yt, e6⟩
/-- an AND or an OR that is held open, or none -/
theorem pop_op {N : Nat} {X X' Y : jMem} {m j q t n v a s w K least b : Int} {tb tw : List Bool} (hK : (K = 24 ∧ w = 12 ∧ least ≤ 2) ∨ (K = 23 ∧ w = 13 ∧ least ≤ 1)) (h : RR X Y m j q t n v a tb) (hb : (b = 0 ∧ X' = X ∧ tb = tw) ∨ (b = 1 ∧ Ru_apply N q K X = some (0, X') ∧ ∃ r, tb = true :: true :: r ∧ tw = true :: r)) (ho : Y 0 16 = s + b) (hs : 0 ≤ s ∧ s < 400) (hw : b = 1 → Y 7 s = w) (hn : n + b ≤ 400) (hd : 0 ≤ Y 0 13 ∧ Y 0 13 ≤ 10) (f : Nat) :
    ∃ Z f', f ≤ f' ∧ jfix (f + 1) (m_layDown_L0 N least) Y = jfix f' (m_layDown_L0 N least) Z ∧ RR X' Z m j q t (n + b) v a tw ∧ Z 0 16 = s ∧ Z 7 = Y 7 ∧ Z 0 13 = Y 0 13 ∧ Z 0 8 = Y 0 8 ∧ XG q n X X' ∧ YT t n Y Z ∧ (∀ p, p ≠ q → p ≠ q + 1 → X' p = X p) := by
  rcases hb with ⟨b1, b2, b3⟩ | ⟨b1, b2, r, b3, b4⟩
  · subst b1 b2 b3
    exact ⟨Y, f + 1, by omega, rfl, by rw [Int.add_zero]; exact h, by omega, rfl, rfl, rfl, XG_refl, YT_refl, fun _ _ _ => rfl⟩
  · subst b1 b3 b4
    have l : least ≤ stg w := by
      rcases hK with ⟨-, z, z'⟩ | ⟨-, z, z'⟩
      · subst z; exact z'
      · subst z; exact z'
    have w11 : ¬ w = 11 := by omega
    obtain ⟨X1, Y1, e1, e2, e3, e4, e5, e6, e7, e8, e9, e10⟩ := lay_pop (N := N) (f := f) (K := K) (least := least) h (by omega) ho hs (hw rfl) (by omega) l hd (ty_log (by omega))
    rw [b2, Option.some.injEq, Prod.mk.injEq] at e1
    rw [← e1.2] at e3 e8 e10
    rw [if_neg w11] at e6
    exact ⟨Y1, f, by omega, e2, e3, e4, e5, e6, e7, e8, e9, e10⟩
theorem inside_ok {N : Nat} (hN : 1000 ≤ N) {Y : jMem} (h : 0 ≤ Y 0 16 ∧ Y 0 16 ≤ 400) : ∃ r, m_isInside N Y = some r ∧ ((r = 1 ∧ ∃ i, 0 ≤ i ∧ i < Y 0 16 ∧ Y 7 i = 91) ∨ (r = 0 ∧ ∀ i, 0 ≤ i → i < Y 0 16 → Y 7 i ≠ 91)) := by
  have H : wp (m_isInside N Y) (fun r => (r = 1 ∧ ∃ i, 0 ≤ i ∧ i < Y 0 16 ∧ Y 7 i = 91) ∨ (r = 0 ∧ ∀ i, 0 ≤ i → i < Y 0 16 → Y 7 i ≠ 91)) := by
    unfold m_isInside
    refine wp_fix (fun x => (400 - x).toNat) (fun (x : Int) => (0 ≤ x ∧ x ≤ Y 0 16) ∧ ∀ i, 0 ≤ i → i < x → Y 7 i ≠ 91) ?_ N _ ⟨by omega, fun i i0 i1 => by omega⟩ (by omega)
    rintro hh x ⟨x0, x1⟩ ih
    unfold m_isInside_L2
    dsimp only
    by_cases c : x < Y 0 16
    · rw [if_pos c, jchk_pos (by omega)]
      by_cases d : Y 7 x = 91
      · rw [if_pos d]; exact wp_some (Or.inl ⟨rfl, x, x0.1, c, d⟩)
      · rw [if_neg d, w32_id (by omega)]
        refine ih _ ⟨by omega, fun i i0 i1 => ?_⟩ (by omega)
        by_cases ci : i = x
        · rw [ci]; exact d
        · exact x1 i i0 (by omega)
    · rw [if_neg c]; exact wp_some (Or.inr ⟨rfl, fun i i0 i1 => x1 i i0 (by omega)⟩)
  obtain ⟨r, e, z⟩ := H
  exact ⟨r, e, z⟩
def tR (N : Nat) (h12 : Int × jMem → Option (Int × jMem)) (M14 : jMem) : Option (Int × jMem) := jb1 (m_isWord N 6385252 M14) fun r15 M16 => jlt (fun (u17 : Int) (M18 : jMem) => (if u17 = 0 then h12 (u17, M18) else jb1 (m_isWord N 6385252 M18) fun r19 M20 => jlt (fun (u21 : Int) => jbv (m_passWord N M20) fun M22 => (m_strength N u21 M22).bind fun r23 => jbv (m_layDown N r23 M22) fun M24 => jchk (0 ≤ (M24 0 16) ∧ (M24 0 16) < 400) <| jlt (up M24 7 ((M24 0 16)) u21) fun M26 => jlt (up M26 0 16 ((w32 (((M26 0 16)) + 1)))) fun M27 => h12 (u17, M27)) fun j76 => (if r19 = 0 then j76 13 else j76 12))) fun j54 => (if r15 = 0 then jb1 (m_isWord N 28530 M16) fun r28 M29 => (if r28 = 0 then j54 0 M29 else j54 1 M29) else j54 1 M16)
def tQ (N fC : Nat) (h12 : Int × jMem → Option (Int × jMem)) (M : jMem) : Option (Int × jMem) := jbv (jfix fC (m_closes_L5 N) M) fun M14 => tR N h12 M14
def tP (N fL fC : Nat) (h12 : Int × jMem → Option (Int × jMem)) (M : jMem) : Option (Int × jMem) := jbv (jfix fL (m_layDown_L0 N 3) M) fun M1 => tQ N fC h12 M1
def tA (N fF : Nat) (h12 : Int × jMem → Option (Int × jMem)) (M : jMem) : Option (Int × jMem) := jb1 (jfix fF (m_fact_L2 N) (1, M)) fun r12 M13 => (if r12 = 0 then some (0, M13) else tP N N N h12 M13)
theorem tested_1 {N : Nat} {h12 : Int × jMem → Option (Int × jMem)} {M : jMem} : m_tested_L12 N h12 (1, M) = tA N N h12 M := by
  unfold m_tested_L12
  dsimp only
  rw [if_neg (show ¬ (1 : Int) = 0 by decide)]
  unfold tA m_fact jb1
  cases jfix N (m_fact_L2 N) (1, M) with
  | none => rfl
  | some o =>
    rw [Option.bind_some, Option.bind_some]
    dsimp only
    by_cases c : o.1 = 0
    · rw [if_pos c, if_pos c]
    · rw [if_neg c, if_neg c]
      unfold m_closes
      rw [jbv_jbv]
      rfl
theorem tP_stop {N fL fC : Nat} {h12 : Int × jMem → Option (Int × jMem)} {Y : jMem} (h0 : 0 ≤ Y 0 16 ∧ Y 0 16 ≤ 400) (h : Y 0 16 = 0 ∨ stg (Y 7 (Y 0 16 - 1)) < 3) (hf : 1 ≤ fL) : tP N fL fC h12 Y = tQ N fC h12 Y := by
  unfold tP jbv
  rw [lay_stop h0 h hf, Option.bind_some]
theorem tP_pop {N fL fC : Nat} {h12 : Int × jMem → Option (Int × jMem)} {Y Y' : jMem} (h : jfix (fL + 1) (m_layDown_L0 N 3) Y = jfix fL (m_layDown_L0 N 3) Y') : tP N (fL + 1) fC h12 Y = tP N fL fC h12 Y' := by
  unfold tP; rw [h]
theorem tQ_see {N fC : Nat} {X Y Y2 : jMem} {m j c : Int} {h12 : Int × jMem → Option (Int × jMem)} (g : SG N X Y Y2 m j c) (hf : 1 ≤ fC) : tQ N fC h12 Y = tQ N fC h12 Y2 := by
  obtain ⟨f, rfl⟩ : ∃ f, fC = f + 1 := ⟨fC - 1, by omega⟩
  obtain ⟨s1, s2, -⟩ := g
  unfold tQ
  rw [jfix_s, jfix_s]
  generalize jfix f (m_closes_L5 N) = kk
  unfold m_closes_L5 jb1
  dsimp only
  rw [s1, s2]
theorem tQ_out {N fC : Nat} {X Y : jMem} {m j c : Int} {h12 : Int × jMem → Option (Int × jMem)} (g : SG N X Y Y m j c) (hf : 1 ≤ fC) (hc : c ≠ 93 ∨ m_isInside N Y = some 0) : tQ N fC h12 Y = tR N h12 Y := by
  obtain ⟨f, rfl⟩ : ∃ f, fC = f + 1 := ⟨fC - 1, by omega⟩
  obtain ⟨s1, -⟩ := g
  unfold tQ jbv
  rw [jfix_s]
  generalize jfix f (m_closes_L5 N) = kk
  unfold m_closes_L5 jb1
  dsimp only
  rw [s1, Option.bind_some]
  dsimp only
  by_cases c93 : c = 93
  · rcases hc with w | w
    · exact absurd c93 w
    · rw [if_pos c93, w, Option.bind_some, if_pos rfl, Option.bind_some]
  · rw [if_neg c93, Option.bind_some]
theorem tQ_close {N f : Nat} {X Y Z : jMem} {m j c s e : Int} {h12 : Int × jMem → Option (Int × jMem)} (g : SG N X Y Y m j c) (hc : c = 93) (hi : m_isInside N Y = some 1) (hl : m_layDown N 1 Y = some (0, Z)) (z16 : Z 0 16 = s + 1) (z13 : Z 0 13 = e + 1) (z8 : Z 0 8 = X 4 j) (hs : 0 ≤ s ∧ s ≤ 400) (he : 0 ≤ e ∧ e ≤ 10) (hp : 0 ≤ X 4 j ∧ X 4 j ≤ 400) : tQ N (f + 1) h12 Y = tP N N f h12 (up (up (up Z 0 16 s) 0 13 e) 0 8 (X 4 j + 1)) := by
  obtain ⟨s1, -⟩ := g
  have w1 : up (up (up Z 0 16 (w32 (Z 0 16 - 1))) 0 13 (w32 ((up Z 0 16 (w32 (Z 0 16 - 1))) 0 13 - 1))) 0 8 (w32 ((up (up Z 0 16 (w32 (Z 0 16 - 1))) 0 13 (w32 ((up Z 0 16 (w32 (Z 0 16 - 1))) 0 13 - 1))) 0 8 + 1)) = up (up (up Z 0 16 s) 0 13 e) 0 8 (X 4 j + 1) := by
    rw [z16, show s + 1 - 1 = s by omega, w32_id (x := s) (by omega), up_col (show (13 : Int) ≠ 16 by omega), z13, show e + 1 - 1 = e by omega, w32_id (x := e) (by omega), up_col (show (8 : Int) ≠ 13 by omega), up_col (show (8 : Int) ≠ 16 by omega), z8, w32_id (by omega)]
  have E : jfix (f + 1) (m_closes_L5 N) Y = jbv (m_layDown N 3 (up (up (up Z 0 16 s) 0 13 e) 0 8 (X 4 j + 1))) fun M10 => jfix f (m_closes_L5 N) M10 := by
    rw [jfix_s, ← w1]
    generalize jfix f (m_closes_L5 N) = kk
    unfold m_closes_L5 jb1 jlt
    dsimp only
    rw [s1, Option.bind_some]
    dsimp only
    rw [if_pos hc, hi, Option.bind_some, if_neg (show ¬ (1 : Int) = 0 by decide), hl]
    rfl
  unfold tQ
  rw [E, jbv_jbv]
  rfl
theorem tR_no {N : Nat} (hN : 1000 ≤ N) {X Y : jMem} {m j : Int} {h12 : Int × jMem → Option (Int × jMem)} (h : At X Y m j) (h8 : Y 0 8 = X 4 j) (k1 : X 3 j ≠ 24) (k2 : X 3 j ≠ 23) : tR N h12 Y = h12 (0, Y) := by
  have w7 := isW hN h h8 (i := 7) (by omega)
  have w6 := isW hN h h8 (i := 6) (by omega)
  rw [show wcode 7 = 6385252 from rfl] at w7
  rw [show wcode 6 = 28530 from rfl] at w6
  unfold tR jb1 jlt
  rcases w7 with ⟨z, -⟩ | ⟨-, z⟩
  · omega
  rcases w6 with ⟨z', -⟩ | ⟨-, z'⟩
  · omega
  rw [z, Option.bind_some]
  dsimp only
  rw [if_pos rfl, z', Option.bind_some]
  dsimp only
  rw [if_pos rfl, if_pos rfl]
theorem tR_and {N : Nat} (hN : 1000 ≤ N) {X Y Y3 Z : jMem} {m j o : Int} {h12 : Int × jMem → Option (Int × jMem)} (h : At X Y m j) (h8 : Y 0 8 = X 4 j) (k1 : X 3 j = 24) (hp : m_passWord N Y = some (0, Y3)) (hl : m_layDown N 2 Y3 = some (0, Z)) (ho : Z 0 16 = o) (hs : 0 ≤ o ∧ o < 400) : tR N h12 Y = h12 (1, up (up Z 7 o 12) 0 16 (o + 1)) := by
  have w7 := isW hN h h8 (i := 7) (by omega)
  rw [show wcode 7 = 6385252 from rfl] at w7
  rcases w7 with ⟨-, z⟩ | ⟨z, -⟩
  · unfold tR jb1 jlt jbv
    rw [z, Option.bind_some]
    dsimp only
    rw [if_neg (show ¬ (1 : Int) = 0 by decide), if_neg (show ¬ (1 : Int) = 0 by decide), z, Option.bind_some]
    dsimp only
    rw [if_neg (show ¬ (1 : Int) = 0 by decide), hp, Option.bind_some, strength_ok, Option.bind_some, show stg 12 = 2 from rfl]
    dsimp only
    rw [hl, Option.bind_some]
    dsimp only
    rw [jchk_pos (show 0 ≤ Z 0 16 ∧ Z 0 16 < 400 by omega), up_row (show (0 : Int) ≠ 7 by omega), ho, w32_id (by omega)]
  · omega
theorem tR_or {N : Nat} (hN : 1000 ≤ N) {X Y Y3 Z : jMem} {m j o : Int} {h12 : Int × jMem → Option (Int × jMem)} (h : At X Y m j) (h8 : Y 0 8 = X 4 j) (k1 : X 3 j = 23) (hp : m_passWord N Y = some (0, Y3)) (hl : m_layDown N 1 Y3 = some (0, Z)) (ho : Z 0 16 = o) (hs : 0 ≤ o ∧ o < 400) : tR N h12 Y = h12 (1, up (up Z 7 o 13) 0 16 (o + 1)) := by
  have w7 := isW hN h h8 (i := 7) (by omega)
  have w6 := isW hN h h8 (i := 6) (by omega)
  rw [show wcode 7 = 6385252 from rfl] at w7
  rw [show wcode 6 = 28530 from rfl] at w6
  rcases w7 with ⟨z, -⟩ | ⟨-, z⟩
  · omega
  rcases w6 with ⟨-, z'⟩ | ⟨z', -⟩
  · unfold tR jb1 jlt jbv
    rw [z, Option.bind_some]
    dsimp only
    rw [if_pos rfl, z', Option.bind_some]
    dsimp only
    rw [if_neg (show ¬ (1 : Int) = 0 by decide), if_neg (show ¬ (1 : Int) = 0 by decide), z, Option.bind_some]
    dsimp only
    rw [if_pos rfl, hp, Option.bind_some, strength_ok, Option.bind_some, show stg 13 = 1 from rfl]
    dsimp only
    rw [hl, Option.bind_some]
    dsimp only
    rw [jchk_pos (show 0 ≤ Z 0 16 ∧ Z 0 16 < 400 by omega), up_row (show (0 : Int) ≠ 7 by omega), ho, w32_id (by omega)]
  · omega
