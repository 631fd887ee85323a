/-! sets of seven as bits -/
def pcn (s : Int) : Int := s % 2 + s / 2 % 2 + s / 4 % 2 + s / 8 % 2 + s / 16 % 2 + s / 32 % 2 + s / 64 % 2
def p2 (k : Int) : Int := if k = 0 then 1 else if k = 1 then 2 else if k = 2 then 4 else if k = 3 then 8 else if k = 4 then 16 else if k = 5 then 32 else 64
theorem fin_of {n : Nat} {x : Int} (h0 : 0 ≤ x) (h1 : x < (n : Int)) : ∃ k : Fin n, ((k.val : Nat) : Int) = x := ⟨⟨x.toNat, by omega⟩, by show ((x.toNat : Nat) : Int) = x; omega⟩
theorem bc_tbl : ∀ s : Fin 128, Jn_bitCount 0 (s.val : Int) jM0 = some (pcn (s.val : Int)) := by decide +kernel
theorem bc_ok (N : Nat) {s : Int} (M : jMem) (h0 : 0 ≤ s) (h1 : s < 128) : Jn_bitCount N s M = some (pcn s) := by
  obtain ⟨k, rfl⟩ := fin_of (n := 128) h0 h1
  exact bc_tbl k
theorem shr_tbl : ∀ s : Fin 128, ∀ k : Fin 7, jand (jshr (s.val : Int) (k.val : Int)) 1 = (s.val : Int) / p2 (k.val : Int) % 2 := by decide +kernel
theorem shr_ok {s k : Int} (h0 : 0 ≤ s) (h1 : s < 128) (h2 : 0 ≤ k) (h3 : k < 7) : jand (jshr s k) 1 = s / p2 k % 2 := by
  obtain ⟨a, rfl⟩ := fin_of (n := 128) h0 h1
  obtain ⟨b, rfl⟩ := fin_of (n := 7) h2 h3
  exact shr_tbl a b
theorem shl_tbl : ∀ k : Fin 7, jshl 1 (k.val : Int) = p2 (k.val : Int) := by decide +kernel
theorem shl_ok {k : Int} (h2 : 0 ≤ k) (h3 : k < 7) : jshl 1 k = p2 k := by
  obtain ⟨b, rfl⟩ := fin_of (n := 7) h2 h3
  exact shl_tbl b
theorem orb_tbl : ∀ s : Fin 128, ∀ k : Fin 7, jor (s.val : Int) (p2 (k.val : Int)) = if (s.val : Int) / p2 (k.val : Int) % 2 = 1 then (s.val : Int) else (s.val : Int) + p2 (k.val : Int) := by decide +kernel
theorem orb_ok {s k : Int} (h0 : 0 ≤ s) (h1 : s < 128) (h2 : 0 ≤ k) (h3 : k < 7) : jor s (p2 k) = if s / p2 k % 2 = 1 then s else s + p2 k := by
  obtain ⟨a, rfl⟩ := fin_of (n := 128) h0 h1
  obtain ⟨b, rfl⟩ := fin_of (n := 7) h2 h3
  exact orb_tbl a b
theorem or_tbl : ∀ s : Fin 128, ∀ t : Fin 128, 0 ≤ jor (s.val : Int) (t.val : Int) ∧ jor (s.val : Int) (t.val : Int) < 128 := by decide +kernel
theorem or_in {s t : Int} (h0 : 0 ≤ s) (h1 : s < 128) (h2 : 0 ≤ t) (h3 : t < 128) : 0 ≤ jor s t ∧ jor s t < 128 := by
  obtain ⟨a, rfl⟩ := fin_of (n := 128) h0 h1
  obtain ⟨b, rfl⟩ := fin_of (n := 128) h2 h3
  exact or_tbl a b
theorem or0_tbl : ∀ s : Fin 128, jor (s.val : Int) 0 = (s.val : Int) := by decide +kernel
theorem or0 {s : Int} (h0 : 0 ≤ s) (h1 : s < 128) : jor s 0 = s := by
  obtain ⟨a, rfl⟩ := fin_of (n := 128) h0 h1
  exact or0_tbl a
theorem p2_in {k : Int} (h2 : 0 ≤ k) (h3 : k < 7) : 1 ≤ p2 k ∧ p2 k ≤ 64 := by
  unfold p2; (repeat' split) <;> omega
theorem low_tbl : ∀ s : Fin 128, s.val = 0 ∨ (0 ≤ jand (s.val : Int) (w32 ((s.val : Int) - 1)) ∧ jand (s.val : Int) (w32 ((s.val : Int) - 1)) < (s.val : Int) ∧ pcn (jand (s.val : Int) (w32 ((s.val : Int) - 1))) = pcn (s.val : Int) - 1) := by decide +kernel
theorem low_ok {s : Int} (h0 : 0 < s) (h1 : s < 128) : 0 ≤ jand s (w32 (s - 1)) ∧ jand s (w32 (s - 1)) < s ∧ pcn (jand s (w32 (s - 1))) = pcn s - 1 := by
  obtain ⟨a, rfl⟩ := fin_of (n := 128) (x := s) (by omega) h1
  rcases low_tbl a with h | h
  · omega
  · exact h
theorem pcn_in {s : Int} : 0 ≤ pcn s ∧ pcn s ≤ 7 := by unfold pcn; omega
theorem bits_ok {N : Nat} (hN : 1000 ≤ N) {s : Int} (M : jMem) (h0 : 0 ≤ s) (h1 : s < 128) : m_bits N s M = some (pcn s) := by
  have h : wp (m_bits N s M) (fun a => a = pcn s) := by
    unfold m_bits
    refine wp_fix (fun z : Int × Int => z.2.toNat) (fun z => z.1 + pcn z.2 = pcn s ∧ 0 ≤ z.2 ∧ z.2 < 128 ∧ 0 ≤ z.1) ?_ N (0, s) ⟨by simp, h0, h1, by omega⟩ (by show s.toNat < N; omega)
    rintro h ⟨x, y⟩ ⟨e1, e2, e3, e4⟩ ih
    unfold m_bits_L4
    dsimp only at e1 e2 e3 e4 ⊢
    refine wp_ite (fun hy => ?_) (fun hy => ?_)
    · refine wp_some ?_
      subst hy
      have : pcn 0 = 0 := by decide
      omega
    · obtain ⟨g1, g2, g3⟩ := low_ok (s := y) (by omega) e3
      have g4 := pcn_in (s := y)
      have g5 := pcn_in (s := s)
      refine ih (w32 (x + 1), jand y (w32 (y - 1))) ⟨?_, g1, by show jand y (w32 (y - 1)) < 128; omega, ?_⟩ (by show (jand y (w32 (y - 1))).toNat < y.toNat; omega)
      · show w32 (x + 1) + pcn (jand y (w32 (y - 1))) = pcn s
        rw [w32_id (by omega), g3]; omega
      · show 0 ≤ w32 (x + 1)
        rw [w32_id (by omega)]; omega
  obtain ⟨a, h2, rfl⟩ := h
  exact h2
theorem jmin_le {x y : Int} : jmin x y = if x < y then x else y := by
  unfold jmin; (repeat' split) <;> omega
theorem td3 (x : Int) : x.tdiv 3 = if 0 ≤ x then x / 3 else -((-x) / 3) := by
  by_cases h : 0 ≤ x
  · rw [if_pos h, Int.tdiv_eq_ediv_of_nonneg h]
  · rw [if_neg h, ← Int.tdiv_eq_ediv_of_nonneg (show 0 ≤ -x by omega), Int.neg_tdiv, Int.neg_neg]
theorem td_nn {x y : Int} (h : 0 ≤ x) : x.tdiv y = x / y := Int.tdiv_eq_ediv_of_nonneg h
theorem tm_nn {x y : Int} (h : 0 ≤ x) : x.tmod y = x % y := Int.tmod_eq_emod_of_nonneg h
