/-! the tape cut into words, numbers and signs -/
def Sk (T : Int → Int) (s p q : Int) : Prop := p ≤ q ∧ q ≤ s ∧ (∀ i, p ≤ i → i < q → T i = 32) ∧ (q < s → T q ≠ 32)
def Dg (t : Int) : Prop := 48 ≤ t ∧ t ≤ 57
def Lt (t : Int) : Prop := 97 ≤ t ∧ t ≤ 122
def Run (P : Int → Prop) (T : Int → Int) (s p q : Int) : Prop := p ≤ q ∧ q ≤ s ∧ (∀ i, p ≤ i → i < q → P (T i)) ∧ (q < s → ¬ P (T q))
def dv (T : Int → Int) (p : Int) : Nat → Int
  | 0 => 0
  | k + 1 => 10 * dv T p k + T (p + (k : Int)) - 48
def wst (i : Nat) : Int := (([0, 7, 12, 17, 21, 25, 28, 31, 35, 39, 45, 51, 56, 60, 66, 71, 76, 80, 86, 91, 95] : List Nat).getD i 0 : Nat)
def wln (i : Nat) : Int := (([6, 4, 4, 3, 3, 2, 2, 3, 3, 5, 5, 4, 3, 5, 4, 4, 3, 5, 4, 3, 4] : List Nat).getD i 0 : Nat)
def Wm (T : Int → Int) (p len : Int) (i : Nat) : Prop := len = wln i ∧ ∀ k, 0 ≤ k → k < wln i → T (p + k) = jSb 0 (wst i + k)
def WK (T : Int → Int) (p len kind : Int) : Prop := (∃ i : Nat, i < 21 ∧ Wm T p len i ∧ kind = 17 + (i : Int)) ∨ ((∀ i : Nat, i < 21 → ¬ Wm T p len i) ∧ kind = 3)
def sgk (t : Int) : Int := if t = 59 then 4 else if t = 91 then 5 else if t = 93 then 6 else if t = 43 then 7 else if t = 45 then 8 else if t = 42 then 9 else if t = 47 then 10 else if t = 37 then 11 else if t = 60 then 12 else if t = 61 then 13 else if t = 62 then 14 else 3
def Sg (T : Int → Int) (s p kind q : Int) : Prop := (p + 1 < s ∧ T (p + 1) = 61 ∧ T p = 60 ∧ kind = 15 ∧ q = p + 2) ∨ (p + 1 < s ∧ T (p + 1) = 61 ∧ T p = 62 ∧ kind = 16 ∧ q = p + 2) ∨ (¬ (p + 1 < s ∧ T (p + 1) = 61 ∧ (T p = 60 ∨ T p = 62)) ∧ kind = sgk (T p) ∧ q = p + 1)
def TkS (T : Int → Int) (s p kind val q : Int) : Prop := (Dg (T p) ∧ Run Dg T s p q ∧ kind = (if 5 < q - p then 2 else 1) ∧ val = dv T p (jmin (q - p) 5).toNat) ∨ (Lt (T p) ∧ Run Lt T s p q ∧ WK T p (q - p) kind) ∨ (¬ Dg (T p) ∧ ¬ Lt (T p) ∧ Sg T s p kind q)
def By (T : Int → Int) : Prop := ∀ i, 0 ≤ i → i < 400 → -128 ≤ T i ∧ T i < 128
theorem and255_tbl : ∀ t : Fin 256, jand ((t.val : Int) - 128) 255 = if (t.val : Int) < 128 then (t.val : Int) + 128 else (t.val : Int) - 128 := by decide +kernel
theorem and255 {t : Int} (h : -128 ≤ t ∧ t < 128) : jand t 255 = if t < 0 then t + 256 else t := by
  obtain ⟨k, hk⟩ := fin_of (n := 256) (x := t + 128) (by omega) (by omega)
  have := and255_tbl k
  rw [hk, show t + 128 - 128 = t by omega] at this
  rw [this]
  by_cases c : t < 0
  · rw [if_pos c, if_pos (by omega)]; omega
  · rw [if_neg c, if_neg (by omega)]
theorem charAt_tbl : ∀ i : Fin 100, Js_charAt 0 0 (i.val : Int) jM0 = some (jSb 0 (i.val : Int)) := by decide +kernel
theorem charAt_ok (N : Nat) {i : Int} (M : jMem) (h0 : 0 ≤ i) (h1 : i < 100) : Js_charAt N 0 i M = some (jSb 0 i) := by
  obtain ⟨k, hk⟩ := fin_of (n := 100) (x := i) h0 (by omega)
  have := charAt_tbl k
  rw [hk] at this
  exact this
theorem names_tbl : ∀ i : Fin 21, (wst i.val + wln i.val < 100 ∧ 2 ≤ wln i.val ∧ wln i.val ≤ 6 ∧ 0 ≤ wst i.val) ∧ jSb 0 (wst i.val + wln i.val) = 32 ∧ (∀ k : Fin 6, (k.val : Int) < wln i.val → 97 ≤ jSb 0 (wst i.val + (k.val : Int)) ∧ jSb 0 (wst i.val + (k.val : Int)) ≤ 122) ∧ wst (i.val + 1) = (if i.val + 1 < 21 then wst i.val + wln i.val + 1 else 0) := by decide +kernel
theorem names_len : wst 20 + wln 20 + 1 = 100 := by decide
theorem isSame_ok {N : Nat} (hN : 1000 ≤ N) {X : jMem} {p st len : Int} (h0 : 0 ≤ p) (h1 : p + len ≤ 400) (h2 : 0 ≤ st) (h3 : st + len ≤ 100) (h4 : 0 ≤ len) : wp (To_isSame N p st len X) (fun r => (r = 1 ∧ ∀ k, 0 ≤ k → k < len → X 1 (p + k) = jSb 0 (st + k)) ∨ (r = 0 ∧ ∃ k, 0 ≤ k ∧ k < len ∧ X 1 (p + k) ≠ jSb 0 (st + k))) := by
  unfold To_isSame
  refine wp_fix (fun t => (400 - t).toNat) (fun t => 0 ≤ t ∧ t ≤ len ∧ ∀ k, 0 ≤ k → k < t → X 1 (p + k) = jSb 0 (st + k)) ?_ N _ ⟨by omega, by omega, fun k k0 k1 => by omega⟩ (by omega)
  rintro h x ⟨x0, x1, x2⟩ ih
  unfold To_isSame_L3
  dsimp only
  by_cases c : x < len
  · rw [if_pos c, w32_id (x := p + x) (by omega), jchk_pos (by omega), w32_id (x := st + x) (by omega), charAt_ok N X (by omega) (by omega), Option.bind_some]
    by_cases d : X 1 (p + x) = jSb 0 (st + x)
    · rw [if_pos d, w32_id (by omega)]
      exact ih _ ⟨by omega, by omega, fun k k0 k1 => by
        by_cases ck : k = x
        · rw [ck]; exact d
        · exact x2 k k0 (by omega)⟩ (by omega)
    · rw [if_neg d]; exact wp_some (Or.inr ⟨rfl, x, x0, c, d⟩)
  · rw [if_neg c]; exact wp_some (Or.inl ⟨rfl, fun k k0 k1 => x2 k k0 (by omega)⟩)
theorem length_ok (N : Nat) (M : jMem) : Js_length N 0 M = some 100 := by
  have : Js_length 0 0 jM0 = some 100 := by decide +kernel
  exact this
theorem kindOfWord_ok {N : Nat} (hN : 1000 ≤ N) {X : jMem} {p q : Int} (h0 : 0 ≤ p) (h1 : p ≤ q) (h2 : q ≤ 400) : wp (To_kindOfWord N p q X) (WK (X 1) p (q - p)) := by
  unfold To_kindOfWord
  refine wp_fix (fun t => (100 - t.2.2).toNat) (fun (t : Int × Int × Int) => ∃ i : Nat, i ≤ 21 ∧ t.1 = 17 + (i : Int) ∧ (∀ j : Nat, j < i → ¬ Wm (X 1) p (q - p) j) ∧ ((i < 21 ∧ t.2.1 = wst i ∧ wst i ≤ t.2.2 ∧ t.2.2 ≤ wst i + wln i) ∨ (i = 21 ∧ t.2.2 = 100))) ?_ N _ ⟨0, by omega, rfl, fun j hj => by omega, Or.inl ⟨by omega, by decide, by decide, by decide⟩⟩ (by dsimp only; omega)
  rintro h ⟨x1, x2, x3⟩ ⟨i, i0, i1, i2, i3⟩ ih
  dsimp only at i1 i3
  subst i1
  unfold To_kindOfWord_L9 jlt
  dsimp only
  rw [length_ok, Option.bind_some]
  rcases i3 with ⟨j0, j1, j2, j3⟩ | ⟨j0, j1⟩
  · subst j1
    obtain ⟨⟨t1, t2, t3, t4⟩, t5, t6, t7⟩ := names_tbl ⟨i, j0⟩
    dsimp only at t1 t2 t3 t4 t5 t6 t7
    rw [if_pos (by omega), charAt_ok N X (by omega) (by omega), Option.bind_some, w32_id (x := x3 + 1) (by omega)]
    by_cases c : x3 = wst i + wln i
    · subst c
      rw [if_pos t5, w32_id (x := wst i + wln i - wst i) (by omega), w32_id (x := q - p) (by omega), w32_id (x := 17 + (i : Int) + 1) (by omega)]
      have next : ¬ Wm (X 1) p (q - p) i → wp (h (17 + (i : Int) + 1, wst i + wln i + 1, wst i + wln i + 1)) (WK (X 1) p (q - p)) := fun nw => by
        refine ih _ ⟨i + 1, by omega, by dsimp only; omega, fun j hj => ?_, ?_⟩ (by dsimp only; omega)
        · by_cases cj : j = i
          · rw [cj]; exact nw
          · exact i2 j (by omega)
        · dsimp only
          by_cases ci : i + 1 < 21
          · rw [if_pos ci] at t7
            obtain ⟨⟨u1, u2, -⟩, -⟩ := names_tbl ⟨i + 1, ci⟩
            dsimp only at u1 u2
            exact Or.inl ⟨ci, t7.symm, by omega, by omega⟩
          · have e : i = 20 := by omega
            have := names_len
            rw [← e] at this
            exact Or.inr ⟨by omega, this⟩
      by_cases cl : wst i + wln i - wst i = q - p
      · obtain ⟨r, r1, r2⟩ := isSame_ok hN (X := X) (p := p) (st := wst i) (len := wst i + wln i - wst i) h0 (by omega) (by omega) (by omega) (by omega)
        rw [if_pos cl, r1, Option.bind_some]
        rcases r2 with ⟨z1, z2⟩ | ⟨z1, k, k0, k1, k2⟩
        · rw [if_neg (by omega)]
          exact wp_some (Or.inl ⟨i, j0, ⟨by omega, fun k k0 k1 => z2 k k0 (by omega)⟩, rfl⟩)
        · rw [if_pos z1]
          exact next (fun w => k2 (w.2 k k0 (by omega)))
      · rw [if_neg cl]
        exact next (fun w => cl (by have := w.1; omega))
    · have hc := t6 ⟨(x3 - wst i).toNat, by omega⟩ (by dsimp only; omega)
      dsimp only at hc
      rw [show wst i + (((x3 - wst i).toNat : Nat) : Int) = x3 by omega] at hc
      rw [if_neg (by omega)]
      exact ih _ ⟨i, i0, rfl, i2, Or.inl ⟨j0, rfl, by dsimp only; omega, by dsimp only; omega⟩⟩ (by dsimp only; omega)
  · rw [if_neg (by omega)]
    exact wp_some (Or.inr ⟨fun j hj => i2 j (by omega), rfl⟩)
