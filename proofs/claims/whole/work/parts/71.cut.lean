/-! the class cuts the tape -/
theorem isDg_ok {N : Nat} {M : jMem} {t : Int} (h : -128 ≤ t ∧ t < 128) : ∃ r, To_isDigit N (jand t 255) M = some r ∧ ((r = 1 ∧ Dg t) ∨ (r = 0 ∧ ¬ Dg t)) := by
  unfold To_isDigit Dg
  rw [and255 h]
  by_cases c : t < 0
  · rw [if_pos c, if_neg (by omega), if_pos (by omega)]; exact ⟨0, rfl, Or.inr ⟨rfl, by omega⟩⟩
  · rw [if_neg c]
    by_cases d : t < 48
    · rw [if_pos d]; exact ⟨0, rfl, Or.inr ⟨rfl, by omega⟩⟩
    · rw [if_neg d]
      by_cases e : 57 < t
      · rw [if_pos e]; exact ⟨0, rfl, Or.inr ⟨rfl, by omega⟩⟩
      · rw [if_neg e]; exact ⟨1, rfl, Or.inl ⟨rfl, by omega⟩⟩
theorem isLt_ok {N : Nat} {M : jMem} {t : Int} (h : -128 ≤ t ∧ t < 128) : ∃ r, To_isSmallLetter N (jand t 255) M = some r ∧ ((r = 1 ∧ Lt t) ∨ (r = 0 ∧ ¬ Lt t)) := by
  unfold To_isSmallLetter Lt
  rw [and255 h]
  by_cases c : t < 0
  · rw [if_pos c, if_neg (by omega), if_pos (by omega)]; exact ⟨0, rfl, Or.inr ⟨rfl, by omega⟩⟩
  · rw [if_neg c]
    by_cases d : t < 97
    · rw [if_pos d]; exact ⟨0, rfl, Or.inr ⟨rfl, by omega⟩⟩
    · rw [if_neg d]
      by_cases e : 122 < t
      · rw [if_pos e]; exact ⟨0, rfl, Or.inr ⟨rfl, by omega⟩⟩
      · rw [if_neg e]; exact ⟨1, rfl, Or.inl ⟨rfl, by omega⟩⟩
theorem dv_in {T : Int → Int} {p : Int} : ∀ k : Nat, (∀ i : Nat, i < k → Dg (T (p + (i : Int)))) → 0 ≤ dv T p k ∧ dv T p k < tp k
  | 0, _ => ⟨Int.le_refl 0, by show (0 : Int) < 1; omega⟩
  | k + 1, h => by
    have i := dv_in k (fun j hj => h j (by omega))
    have d := h k (by omega)
    unfold Dg at d
    show 0 ≤ 10 * dv T p k + T (p + (k : Int)) - 48 ∧ 10 * dv T p k + T (p + (k : Int)) - 48 < tp k * 10
    omega
theorem cutNumber_ok {N : Nat} (hN : 1000 ≤ N) {X : jMem} {s a p : Int} (ha : 0 ≤ a ∧ a < 401) (hp : X 4 a = p) (h0 : 0 ≤ p) (h1 : p < s) (h2 : s ≤ 400) (hb : By (X 1)) (hd : Dg (X 1 p)) : wp (To_cutNumber N s a X) (fun o => p < o.1 ∧ o.1 ≤ s ∧ ∃ kind val, o.2 = up (up X 3 a kind) 5 a val ∧ TkS (X 1) s p kind val o.1) := by
  unfold To_cutNumber jlt
  rw [jchk_pos ha, hp]
  refine wp_fix (fun t => (400 - t.1).toNat) (fun (t : Int × Int × Int) => (p ≤ t.1 ∧ t.1 ≤ s) ∧ t.2.2 = t.1 - p ∧ t.2.1 = dv (X 1) p (jmin (t.1 - p) 5).toNat ∧ (∀ i, p ≤ i → i < t.1 → Dg (X 1 i))) ?_ N _ ⟨⟨by dsimp only; omega, by dsimp only; omega⟩, by dsimp only; omega, by dsimp only; rw [jmin_le, if_pos (by omega), show (p - p).toNat = 0 by omega]; rfl, fun i i0 i1 => by dsimp only at i1; omega⟩ (by dsimp only; omega)
  rintro h ⟨x3, x4, x5⟩ ⟨q1, q2, q3, q4⟩ ih
  dsimp only at q1 q2 q3 q4
  subst q2
  have fin : (x3 < s → ¬ Dg (X 1 x3)) → wp (if 5 < x3 - p then jchk (0 ≤ a ∧ a < 401) (jchk (0 ≤ a ∧ a < 401) (some (x3, up (up X 3 a 2) 5 a x4))) else jchk (0 ≤ a ∧ a < 401) (jchk (0 ≤ a ∧ a < 401) (some (x3, up (up X 3 a 1) 5 a x4)))) (fun o => p < o.1 ∧ o.1 ≤ s ∧ ∃ kind val, o.2 = up (up X 3 a kind) 5 a val ∧ TkS (X 1) s p kind val o.1) := fun stop => by
    have hx : p < x3 := by
      by_cases c : p = x3
      · subst c; exact absurd hd (stop h1)
      · omega
    have tk : TkS (X 1) s p (if 5 < x3 - p then 2 else 1) x4 x3 := Or.inl ⟨hd, ⟨by omega, q1.2, q4, stop⟩, rfl, q3⟩
    rw [jchk_pos ha, jchk_pos ha, jchk_pos ha, jchk_pos ha]
    by_cases c : 5 < x3 - p
    · rw [if_pos c] at tk ⊢
      exact wp_some ⟨hx, q1.2, 2, x4, rfl, tk⟩
    · rw [if_neg c] at tk ⊢
      exact wp_some ⟨hx, q1.2, 1, x4, rfl, tk⟩
  unfold To_cutNumber_L14 jlt
  dsimp only
  by_cases c : x3 < s
  · have hbx := hb x3 (by omega) (by omega)
    obtain ⟨r, r1, r2⟩ := isDg_ok (N := N) (M := X) hbx
    rw [if_pos c, jchk_pos (by omega), r1, Option.bind_some]
    rcases r2 with ⟨z1, z2⟩ | ⟨z1, z2⟩
    · have z2' := z2
      unfold Dg at z2'
      rw [if_neg (show ¬ r = 0 by omega), w32_id (x := x3 - p + 1) (by omega), w32_id (x := x3 + 1) (by omega)]
      have ex : ∀ i, p ≤ i → i < x3 + 1 → Dg (X 1 i) := fun i i0 i1 => by
        by_cases ci : i = x3
        · rw [ci]; exact z2
        · exact q4 i i0 (by omega)
      by_cases c5 : 5 < x3 - p + 1
      · rw [if_pos c5]
        refine ih _ ⟨⟨by dsimp only; omega, by dsimp only; omega⟩, by dsimp only; omega, ?_, ex⟩ (by dsimp only; omega)
        dsimp only
        rw [q3, jmin_le, jmin_le, if_neg (by omega), if_neg (by omega)]
      · have e1 : (jmin (x3 - p) 5).toNat = (x3 - p).toNat := by rw [jmin_le, if_pos (by omega)]
        have dvb := dv_in (T := X 1) (p := p) (x3 - p).toNat (fun i hi => q4 (p + (i : Int)) (by omega) (by omega))
        have tpb : tp (x3 - p).toNat ≤ 10000000 := tp_le (by omega)
        rw [e1] at q3
        rw [if_neg c5, jchk_pos (by omega), and255 hbx, if_neg (by omega), w32_id (x := x4 * 10) (by omega), w32_id (x := x4 * 10 + X 1 x3) (by omega), w32_id (by omega)]
        refine ih _ ⟨⟨by dsimp only; omega, by dsimp only; omega⟩, by dsimp only; omega, ?_, ex⟩ (by dsimp only; omega)
        dsimp only
        have e2 : (jmin (x3 + 1 - p) 5).toNat = (x3 - p).toNat + 1 := by
          rw [jmin_le]
          by_cases c6 : x3 + 1 - p < 5
          · rw [if_pos c6]; omega
          · rw [if_neg c6]; omega
        rw [e2]
        show x4 * 10 + X 1 x3 - 48 = 10 * dv (X 1) p (x3 - p).toNat + X 1 (p + (((x3 - p).toNat : Nat) : Int)) - 48
        rw [show p + (((x3 - p).toNat : Nat) : Int) = x3 by omega, ← q3]; omega
    · rw [if_pos z1]
      exact fin (fun _ => z2)
  · rw [if_neg c]
    exact fin (fun z => absurd z c)
theorem cutWord_ok {N : Nat} (hN : 1000 ≤ N) {X : jMem} {s a p : Int} (ha : 0 ≤ a ∧ a < 401) (hp : X 4 a = p) (h0 : 0 ≤ p) (h1 : p < s) (h2 : s ≤ 400) (hb : By (X 1)) (hd : Lt (X 1 p)) : wp (To_cutWord N s a X) (fun o => p < o.1 ∧ o.1 ≤ s ∧ ∃ kind, o.2 = up X 3 a kind ∧ ∀ val, TkS (X 1) s p kind val o.1) := by
  unfold To_cutWord jlt
  rw [jchk_pos ha, hp]
  refine wp_fix (fun t => (400 - t).toNat) (fun t => (p ≤ t ∧ t ≤ s) ∧ (∀ i, p ≤ i → i < t → Lt (X 1 i))) ?_ N _ ⟨⟨by omega, by omega⟩, fun i i0 i1 => by omega⟩ (by omega)
  rintro h x3 ⟨q1, q4⟩ ih
  have fin : (x3 < s → ¬ Lt (X 1 x3)) → wp ((To_kindOfWord N p x3 X).bind fun r4 => jchk (0 ≤ a ∧ a < 401) (some (x3, up X 3 a r4))) (fun o => p < o.1 ∧ o.1 ≤ s ∧ ∃ kind, o.2 = up X 3 a kind ∧ ∀ val, TkS (X 1) s p kind val o.1) := fun stop => by
    have hx : p < x3 := by
      by_cases c : p = x3
      · subst c; exact absurd hd (stop h1)
      · omega
    obtain ⟨k, k1, k2⟩ := kindOfWord_ok hN (X := X) (p := p) (q := x3) h0 (by omega) (by omega)
    rw [k1, Option.bind_some, jchk_pos ha]
    exact wp_some ⟨hx, q1.2, k, rfl, fun val => Or.inr (Or.inl ⟨hd, ⟨by dsimp only; omega, q1.2, q4, stop⟩, k2⟩)⟩
  unfold To_cutWord_L12 jlt
  dsimp only
  by_cases c : x3 < s
  · have hbx := hb x3 (by omega) (by omega)
    obtain ⟨r, r1, r2⟩ := isLt_ok (N := N) (M := X) hbx
    rw [if_pos c, jchk_pos (by omega), r1, Option.bind_some]
    rcases r2 with ⟨z1, z2⟩ | ⟨z1, z2⟩
    · rw [if_neg (show ¬ r = 0 by omega), w32_id (by omega)]
      exact ih _ ⟨⟨by omega, by omega⟩, fun i i0 i1 => by
        by_cases ci : i = x3
        · rw [ci]; exact z2
        · exact q4 i i0 (by omega)⟩ (by omega)
    · rw [if_pos z1]; exact fin (fun _ => z2)
  · rw [if_neg c]; exact fin (fun z => absurd z c)
theorem chr_tbl : ∀ t : Fin 256, jchr (t.val : Int) = (t.val : Int) := by decide +kernel
theorem signs_tbl : jSb 1 0 = 59 ∧ jSb 1 1 = 91 ∧ jSb 1 2 = 93 ∧ jSb 1 3 = 43 ∧ jSb 1 4 = 45 ∧ jSb 1 5 = 42 ∧ jSb 1 6 = 47 ∧ jSb 1 7 = 37 ∧ jSb 1 8 = 60 ∧ jSb 1 9 = 61 ∧ jSb 1 10 = 62 := by decide +kernel
theorem length1_ok (N : Nat) (M : jMem) : Js_length N 1 M = some 11 := by
  have : Js_length 0 1 jM0 = some 11 := by decide +kernel
  exact this
theorem indexOf_ok {N : Nat} (hN : 1000 ≤ N) {M : jMem} {t : Int} (h : -128 ≤ t ∧ t < 128) : ∃ r, Js_indexOf N 1 (jchr (jand t 255)) M = some r ∧ ((r < 0 ∧ sgk t = 3) ∨ (0 ≤ r ∧ sgk t = 4 + r ∧ r < 11)) := by
  have hc : 0 ≤ jand t 255 ∧ jand t 255 < 256 := by
    rw [and255 h]
    by_cases c : t < 0
    · rw [if_pos c]; omega
    · rw [if_neg c]; omega
  have h8 : w8 (jand t 255) = t := by
    rw [and255 h]
    unfold w8
    by_cases c : t < 0
    · rw [if_pos c]; omega
    · rw [if_neg c]; omega
  obtain ⟨k, hk⟩ := fin_of (n := 256) hc.1 (by omega)
  have ch := chr_tbl k
  rw [hk] at ch
  rw [ch]
  have sl : jSl 1 = 11 := by decide
  have H : wp (Jl_indexOfChar N 1 (jand t 255) 0 11 M) (fun r => (r = -1 ∧ ∀ x, 0 ≤ x → x < 11 → jSb 1 x ≠ t) ∨ (0 ≤ r ∧ r < 11 ∧ jSb 1 r = t)) := by
    unfold Jl_indexOfChar jlt
    rw [h8]
    refine wp_fix (fun x => (11 - x).toNat) (fun x => 0 ≤ x ∧ x ≤ 11 ∧ ∀ y, 0 ≤ y → y < x → jSb 1 y ≠ t) ?_ N _ ⟨by omega, by omega, fun y y0 y1 => by omega⟩ (by omega)
    rintro hh x ⟨x0, x1, x2⟩ ih
    unfold Jl_indexOfChar_L7
    dsimp only
    by_cases c : x < 11
    · rw [if_pos c, sl, jchk_pos (by omega)]
      by_cases d : jSb 1 x = t
      · rw [if_pos d]; exact wp_some (Or.inr ⟨x0, c, d⟩)
      · rw [if_neg d, w32_id (by omega)]
        exact ih _ ⟨by omega, by omega, fun y y0 y1 => by
          by_cases cy : y = x
          · rw [cy]; exact d
          · exact x2 y y0 (by omega)⟩ (by omega)
    · rw [if_neg c]; exact wp_some (Or.inl ⟨rfl, fun y y0 y1 => x2 y y0 (by omega)⟩)
  obtain ⟨r, r1, r2⟩ := H
  refine ⟨r, ?_, ?_⟩
  · unfold Js_indexOf Js_indexOf2 Jl_indexOf Jl_canEncode jlt
    rw [length1_ok, show Js_isLatin1 N 1 M = some 1 from by unfold Js_isLatin1; decide]
    simp only [Option.bind_some]
    rw [if_neg (by decide), if_neg (show ¬ jand t 255 < 0 by omega), if_neg (show ¬ 255 < jand t 255 by omega), Option.bind_some, if_neg (by decide), sl, show jmax 0 0 = 0 from by decide, show jmin 11 11 = 11 from by decide, if_pos (by decide), r1]
    rfl
  · obtain ⟨s0, s1, s2, s3, s4, s5, s6, s7, s8, s9, s10⟩ := signs_tbl
    rcases r2 with ⟨z1, z2⟩ | ⟨z1, z2, z3⟩
    · refine Or.inl ⟨by omega, ?_⟩
      have a0 := z2 0 (by omega) (by omega)
      have a1 := z2 1 (by omega) (by omega)
      have a2 := z2 2 (by omega) (by omega)
      have a3 := z2 3 (by omega) (by omega)
      have a4 := z2 4 (by omega) (by omega)
      have a5 := z2 5 (by omega) (by omega)
      have a6 := z2 6 (by omega) (by omega)
      have a7 := z2 7 (by omega) (by omega)
      have a8 := z2 8 (by omega) (by omega)
      have a9 := z2 9 (by omega) (by omega)
      have a10 := z2 10 (by omega) (by omega)
      unfold sgk
      rw [if_neg (by omega), if_neg (by omega), if_neg (by omega), if_neg (by omega), if_neg (by omega), if_neg (by omega), if_neg (by omega), if_neg (by omega), if_neg (by omega), if_neg (by omega), if_neg (by omega)]
    · refine Or.inr ⟨z1, ?_, z2⟩
      have : r = 0 ∨ r = 1 ∨ r = 2 ∨ r = 3 ∨ r = 4 ∨ r = 5 ∨ r = 6 ∨ r = 7 ∨ r = 8 ∨ r = 9 ∨ r = 10 := by omega
      rcases this with c | c | c | c | c | c | c | c | c | c | c <;> subst c <;> rw [← z3] <;> first | (rw [s0]; decide) | (rw [s1]; decide) | (rw [s2]; decide) | (rw [s3]; decide) | (rw [s4]; decide) | (rw [s5]; decide) | (rw [s6]; decide) | (rw [s7]; decide) | (rw [s8]; decide) | (rw [s9]; decide) | (rw [s10]; decide)
