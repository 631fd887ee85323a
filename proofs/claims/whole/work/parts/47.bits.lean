/-! sets of bits -/
def orf (s t : Int) : Int := (if s % 2 = 1 ∨ t % 2 = 1 then 1 else 0) + (if s / 2 % 2 = 1 ∨ t / 2 % 2 = 1 then 2 else 0) + (if s / 4 % 2 = 1 ∨ t / 4 % 2 = 1 then 4 else 0) + (if s / 8 % 2 = 1 ∨ t / 8 % 2 = 1 then 8 else 0) + (if s / 16 % 2 = 1 ∨ t / 16 % 2 = 1 then 16 else 0) + (if s / 32 % 2 = 1 ∨ t / 32 % 2 = 1 then 32 else 0) + (if s / 64 % 2 = 1 ∨ t / 64 % 2 = 1 then 64 else 0)
theorem orf_tbl : ∀ s : Fin 128, ∀ t : Fin 128, jor (s.val : Int) (t.val : Int) = orf (s.val : Int) (t.val : Int) := by decide +kernel
theorem ite_b {p : Prop} [Decidable p] {v : Int} : ∃ x : Int, (if p then v else 0) = v * x ∧ (0 ≤ x ∧ x ≤ 1) ∧ (x = 1 ↔ p) := by
  by_cases h : p
  · rw [if_pos h]; exact ⟨1, by omega, by omega, by simp [h]⟩
  · rw [if_neg h]; exact ⟨0, by omega, by omega, by simp [h]⟩
theorem bx7 {a0 a1 a2 a3 a4 a5 a6 : Int} (r0 : 0 ≤ a0 ∧ a0 ≤ 1) (r1 : 0 ≤ a1 ∧ a1 ≤ 1) (r2 : 0 ≤ a2 ∧ a2 ≤ 1) (r3 : 0 ≤ a3 ∧ a3 ≤ 1) (r4 : 0 ≤ a4 ∧ a4 ≤ 1) (r5 : 0 ≤ a5 ∧ a5 ≤ 1) (r6 : 0 ≤ a6 ∧ a6 ≤ 1) :
    (1 * a0 + 2 * a1 + 4 * a2 + 8 * a3 + 16 * a4 + 32 * a5 + 64 * a6) / 1 % 2 = a0 ∧ (1 * a0 + 2 * a1 + 4 * a2 + 8 * a3 + 16 * a4 + 32 * a5 + 64 * a6) / 2 % 2 = a1 ∧ (1 * a0 + 2 * a1 + 4 * a2 + 8 * a3 + 16 * a4 + 32 * a5 + 64 * a6) / 4 % 2 = a2 ∧ (1 * a0 + 2 * a1 + 4 * a2 + 8 * a3 + 16 * a4 + 32 * a5 + 64 * a6) / 8 % 2 = a3 ∧ (1 * a0 + 2 * a1 + 4 * a2 + 8 * a3 + 16 * a4 + 32 * a5 + 64 * a6) / 16 % 2 = a4 ∧ (1 * a0 + 2 * a1 + 4 * a2 + 8 * a3 + 16 * a4 + 32 * a5 + 64 * a6) / 32 % 2 = a5 ∧ (1 * a0 + 2 * a1 + 4 * a2 + 8 * a3 + 16 * a4 + 32 * a5 + 64 * a6) / 64 % 2 = a6 := by
  refine ⟨?_, ?_, ?_, ?_, ?_, ?_, ?_⟩ <;> omega
theorem k7 {k : Int} (h0 : 0 ≤ k) (h1 : k < 7) : k = 0 ∨ k = 1 ∨ k = 2 ∨ k = 3 ∨ k = 4 ∨ k = 5 ∨ k = 6 := by omega
theorem or_bit {s t k : Int} (hs : 0 ≤ s ∧ s < 128) (ht : 0 ≤ t ∧ t < 128) (h0 : 0 ≤ k) (h1 : k < 7) : jor s t / p2 k % 2 = 1 ↔ (s / p2 k % 2 = 1 ∨ t / p2 k % 2 = 1) := by
  obtain ⟨i, hi⟩ := fin_of (n := 128) hs.1 (by omega)
  obtain ⟨j, hj⟩ := fin_of (n := 128) ht.1 (by omega)
  have e := orf_tbl i j
  rw [hi, hj] at e
  rw [e]
  unfold orf
  obtain ⟨a0, e0, r0, f0⟩ := ite_b (p := s % 2 = 1 ∨ t % 2 = 1) (v := 1)
  obtain ⟨a1, e1, r1, f1⟩ := ite_b (p := s / 2 % 2 = 1 ∨ t / 2 % 2 = 1) (v := 2)
  obtain ⟨a2, e2, r2, f2⟩ := ite_b (p := s / 4 % 2 = 1 ∨ t / 4 % 2 = 1) (v := 4)
  obtain ⟨a3, e3, r3, f3⟩ := ite_b (p := s / 8 % 2 = 1 ∨ t / 8 % 2 = 1) (v := 8)
  obtain ⟨a4, e4, r4, f4⟩ := ite_b (p := s / 16 % 2 = 1 ∨ t / 16 % 2 = 1) (v := 16)
  obtain ⟨a5, e5, r5, f5⟩ := ite_b (p := s / 32 % 2 = 1 ∨ t / 32 % 2 = 1) (v := 32)
  obtain ⟨a6, e6, r6, f6⟩ := ite_b (p := s / 64 % 2 = 1 ∨ t / 64 % 2 = 1) (v := 64)
  rw [e0, e1, e2, e3, e4, e5, e6]
  obtain ⟨b0, b1, b2, b3, b4, b5, b6⟩ := bx7 r0 r1 r2 r3 r4 r5 r6
  rcases k7 h0 h1 with c | c | c | c | c | c | c <;> subst c
  · rw [show p2 0 = 1 from rfl, Int.ediv_one s, Int.ediv_one t, b0]; exact f0
  · rw [show p2 1 = 2 from rfl, b1]; exact f1
  · rw [show p2 2 = 4 from rfl, b2]; exact f2
  · rw [show p2 3 = 8 from rfl, b3]; exact f3
  · rw [show p2 4 = 16 from rfl, b4]; exact f4
  · rw [show p2 5 = 32 from rfl, b5]; exact f5
  · rw [show p2 6 = 64 from rfl, b6]; exact f6
theorem p2_tbl : ∀ a : Fin 7, ∀ k : Fin 7, p2 (a.val : Int) / p2 (k.val : Int) % 2 = 1 ↔ k.val = a.val := by decide +kernel
theorem p2_bit {a k : Int} (a0 : 0 ≤ a) (a1 : a < 7) (h0 : 0 ≤ k) (h1 : k < 7) : p2 a / p2 k % 2 = 1 ↔ k = a := by
  obtain ⟨i, hi⟩ := fin_of (n := 7) a0 (by omega)
  obtain ⟨j, hj⟩ := fin_of (n := 7) h0 (by omega)
  have e := p2_tbl i j
  rw [hi, hj] at e
  rw [e]; omega
theorem or_p2 {s a k : Int} (hs : 0 ≤ s ∧ s < 128) (a0 : 0 ≤ a) (a1 : a < 7) (h0 : 0 ≤ k) (h1 : k < 7) : jor s (p2 a) / p2 k % 2 = 1 ↔ (s / p2 k % 2 = 1 ∨ k = a) := by
  have := p2_in a0 a1
  rw [or_bit hs (by omega) h0 h1, p2_bit a0 a1 h0 h1]
theorem or_p2_in {s a : Int} (hs : 0 ≤ s ∧ s < 128) (a0 : 0 ≤ a) (a1 : a < 7) : 0 ≤ jor s (p2 a) ∧ jor s (p2 a) < 128 := by
  have := p2_in a0 a1
  exact or_in hs.1 hs.2 (by omega) (by omega)
theorem b01 {s k : Int} : s / p2 k % 2 = 0 ∨ s / p2 k % 2 = 1 := Int.emod_two_eq _
/-- how many of the first n are in the set -/
def cnt (s : Int) : Nat → Int
  | 0 => 0
  | k + 1 => cnt s k + s / p2 (k : Int) % 2
theorem cnt_in (s : Int) : ∀ n : Nat, 0 ≤ cnt s n ∧ cnt s n ≤ (n : Int)
  | 0 => ⟨Int.le_refl 0, Int.le_refl 0⟩
  | k + 1 => by
    have h := cnt_in s k
    have b := b01 (s := s) (k := (k : Int))
    unfold cnt
    omega
theorem cnt_mono {s t : Int} : ∀ n : Nat, (∀ k : Nat, k < n → s / p2 (k : Int) % 2 = 1 → t / p2 (k : Int) % 2 = 1) → cnt s n ≤ cnt t n
  | 0 => fun _ => Int.le_refl 0
  | k + 1 => fun h => by
    have i := cnt_mono k (fun j hj => h j (by omega))
    have g := h k (by omega)
    have b := b01 (s := s) (k := (k : Int))
    have b' := b01 (s := t) (k := (k : Int))
    unfold cnt
    omega
theorem cnt_lt {s t : Int} {f : Nat} : ∀ n : Nat, (∀ k : Nat, k < n → s / p2 (k : Int) % 2 = 1 → t / p2 (k : Int) % 2 = 1) → f < n → s / p2 (f : Int) % 2 = 0 → t / p2 (f : Int) % 2 = 1 → cnt s n + 1 ≤ cnt t n
  | 0 => fun _ hf => by omega
  | k + 1 => fun h hf hs ht => by
    have g := h k (by omega)
    have b := b01 (s := s) (k := (k : Int))
    have b' := b01 (s := t) (k := (k : Int))
    unfold cnt
    by_cases c : f = k
    · subst c
      have i := cnt_mono (s := s) (t := t) f (fun j hj => h j (by omega))
      omega
    · have i := cnt_lt k (fun j hj => h j (by omega)) (by omega) hs ht
      omega
theorem cnt_all {s : Int} {f : Nat} : ∀ n : Nat, cnt s n = (n : Int) → f < n → s / p2 (f : Int) % 2 = 1
  | 0 => fun _ hf => by omega
  | k + 1 => fun h hf => by
    have b := b01 (s := s) (k := (k : Int))
    have i := cnt_in s k
    unfold cnt at h
    by_cases c : f = k
    · subst c; omega
    · exact cnt_all k (by omega) (by omega)
theorem cnt7 (s : Int) : cnt s 7 = pcn s := by
  unfold pcn
  simp only [cnt]
  simp only [show p2 ((0 : Nat) : Int) = 1 from rfl, show p2 ((1 : Nat) : Int) = 2 from rfl, show p2 ((2 : Nat) : Int) = 4 from rfl, show p2 ((3 : Nat) : Int) = 8 from rfl, show p2 ((4 : Nat) : Int) = 16 from rfl, show p2 ((5 : Nat) : Int) = 32 from rfl, show p2 ((6 : Nat) : Int) = 64 from rfl]
  omega
/-! what comes to which FARM -/
def stK (kin : Int → Int) (s : Int) : Nat → Int
  | 0 => s
  | k + 1 => if s / p2 (k : Int) % 2 = 1 then jor (stK kin s k) (kin (k : Int)) else stK kin s k
def stS (kin : Int → Int) (n : Nat) (s : Int) : Nat → Int
  | 0 => s
  | k + 1 => stK kin (stS kin n s k) n
theorem stK_bits {kin : Int → Int} (hk : ∀ i, 0 ≤ i → i < 7 → 0 ≤ kin i ∧ kin i < 128) {s : Int} (hs : 0 ≤ s ∧ s < 128) : ∀ n : Nat, n ≤ 7 → (0 ≤ stK kin s n ∧ stK kin s n < 128) ∧ ∀ f, 0 ≤ f → f < 7 → (stK kin s n / p2 f % 2 = 1 ↔ (s / p2 f % 2 = 1 ∨ ∃ i : Nat, i < n ∧ s / p2 (i : Int) % 2 = 1 ∧ kin (i : Int) / p2 f % 2 = 1))
  | 0 => fun _ => ⟨hs, fun f f0 f1 => ⟨fun h => Or.inl h, fun h => by
      rcases h with h | ⟨i, i0, -⟩
      · exact h
      · omega⟩⟩
  | k + 1 => fun hn => by
    obtain ⟨r, b⟩ := stK_bits hk hs k (by omega)
    have hkk := hk (k : Int) (by omega) (by omega)
    unfold stK
    by_cases c : s / p2 (k : Int) % 2 = 1
    · rw [if_pos c]
      refine ⟨or_in r.1 r.2 hkk.1 hkk.2, fun f f0 f1 => ?_⟩
      rw [or_bit r hkk f0 f1, b f f0 f1]
      constructor
      · rintro ((h | ⟨i, i0, i1, i2⟩) | h)
        · exact Or.inl h
        · exact Or.inr ⟨i, by omega, i1, i2⟩
        · exact Or.inr ⟨k, by omega, c, h⟩
      · rintro (h | ⟨i, i0, i1, i2⟩)
        · exact Or.inl (Or.inl h)
        · by_cases ci : i = k
          · subst ci; exact Or.inr i2
          · exact Or.inl (Or.inr ⟨i, by omega, i1, i2⟩)
    · rw [if_neg c]
      refine ⟨r, fun f f0 f1 => ?_⟩
      rw [b f f0 f1]
      constructor
      · rintro (h | ⟨i, i0, i1, i2⟩)
        · exact Or.inl h
        · exact Or.inr ⟨i, by omega, i1, i2⟩
      · rintro (h | ⟨i, i0, i1, i2⟩)
        · exact Or.inl h
        · by_cases ci : i = k
          · subst ci; exact absurd i1 c
          · exact Or.inr ⟨i, by omega, i1, i2⟩
theorem stS_in {kin : Int → Int} (hk : ∀ i, 0 ≤ i → i < 7 → 0 ≤ kin i ∧ kin i < 128) {n : Nat} (hn : n ≤ 7) {s : Int} (hs : 0 ≤ s ∧ s < 128) : ∀ k : Nat, 0 ≤ stS kin n s k ∧ stS kin n s k < 128
  | 0 => hs
  | k + 1 => (stK_bits hk (stS_in hk hn hs k) n hn).1
/-- a FARM that isn't reached in n rounds is never reached -/
theorem stS_stop {kin : Int → Int} (hk : ∀ i, 0 ≤ i → i < 7 → 0 ≤ kin i ∧ kin i < 128) {n : Nat} (hn : n ≤ 7) {s : Int} (hs : 0 ≤ s ∧ s < 128) {a : Nat} (ha : a < n) (h1 : 1 ≤ cnt s n) (hno : ∀ k : Nat, k < n → stS kin n s k / p2 (a : Int) % 2 = 0) : ∀ k : Nat, stS kin n s k / p2 (a : Int) % 2 = 0 := by
  have A : ∀ k : Nat, (∀ f : Nat, f < n → stS kin n s (k + 1) / p2 (f : Int) % 2 = 1 → stS kin n s k / p2 (f : Int) % 2 = 1) → ∀ j : Nat, ∀ f : Nat, f < n → stS kin n s (k + j) / p2 (f : Int) % 2 = 1 → stS kin n s k / p2 (f : Int) % 2 = 1 := by
    intro k hst j
    induction j with
    | zero => intro f hf h; exact h
    | succ j ih =>
      intro f hf h
      rw [show k + (j + 1) = (k + j) + 1 by omega] at h
      unfold stS at h
      rw [(stK_bits hk (stS_in hk hn hs (k + j)) n hn).2 (f : Int) (by omega) (by omega)] at h
      rcases h with h | ⟨i, i0, i1, i2⟩
      · exact ih f hf h
      · refine hst f hf ?_
        unfold stS
        rw [(stK_bits hk (stS_in hk hn hs k) n hn).2 (f : Int) (by omega) (by omega)]
        exact Or.inr ⟨i, i0, ih i i0 i1, i2⟩
  have B : ∀ k : Nat, k < n → (∃ i, i ≤ k ∧ ∀ f : Nat, f < n → stS kin n s (i + 1) / p2 (f : Int) % 2 = 1 → stS kin n s i / p2 (f : Int) % 2 = 1) ∨ (k : Int) + 2 ≤ cnt (stS kin n s (k + 1)) n := by
    intro k
    induction k with
    | zero =>
      intro hk0
      by_cases hst : ∀ f : Nat, f < n → stS kin n s (0 + 1) / p2 (f : Int) % 2 = 1 → stS kin n s 0 / p2 (f : Int) % 2 = 1
      · exact Or.inl ⟨0, by omega, hst⟩
      · refine Or.inr ?_
        have : ∃ f : Nat, f < n ∧ stS kin n s (0 + 1) / p2 (f : Int) % 2 = 1 ∧ stS kin n s 0 / p2 (f : Int) % 2 = 0 := by
          refine Classical.byContradiction (fun hh => hst (fun f hf h1 => ?_))
          rcases b01 (s := stS kin n s 0) (k := (f : Int)) with hb | hb
          · exact absurd ⟨f, hf, h1, hb⟩ hh
          · exact hb
        obtain ⟨f, hf, q1, q2⟩ := this
        have := cnt_lt (s := stS kin n s 0) (t := stS kin n s (0 + 1)) n (fun g hg hh => by
          unfold stS; exact ((stK_bits hk (stS_in hk hn hs 0) n hn).2 (g : Int) (by omega) (by omega)).mpr (Or.inl hh)) hf q2 q1
        have e : stS kin n s 0 = s := rfl
        rw [e] at this
        omega
    | succ k ih =>
      intro hk1
      rcases ih (by omega) with ⟨i, i0, i1⟩ | hc
      · exact Or.inl ⟨i, by omega, i1⟩
      · by_cases hst : ∀ f : Nat, f < n → stS kin n s (k + 1 + 1) / p2 (f : Int) % 2 = 1 → stS kin n s (k + 1) / p2 (f : Int) % 2 = 1
        · exact Or.inl ⟨k + 1, by omega, hst⟩
        · refine Or.inr ?_
          have : ∃ f : Nat, f < n ∧ stS kin n s (k + 1 + 1) / p2 (f : Int) % 2 = 1 ∧ stS kin n s (k + 1) / p2 (f : Int) % 2 = 0 := by
            refine Classical.byContradiction (fun hh => hst (fun f hf h1 => ?_))
            rcases b01 (s := stS kin n s (k + 1)) (k := (f : Int)) with hb | hb
            · exact absurd ⟨f, hf, h1, hb⟩ hh
            · exact hb
          obtain ⟨f, hf, q1, q2⟩ := this
          have := cnt_lt (s := stS kin n s (k + 1)) (t := stS kin n s (k + 1 + 1)) n (fun g hg hh => by
            show stK kin (stS kin n s (k + 1)) n / p2 (g : Int) % 2 = 1
            exact ((stK_bits hk (stS_in hk hn hs (k + 1)) n hn).2 (g : Int) (by omega) (by omega)).mpr (Or.inl hh)) hf q2 q1
          omega
  have C : ∃ i, i ≤ n - 1 ∧ ∀ f : Nat, f < n → stS kin n s (i + 1) / p2 (f : Int) % 2 = 1 → stS kin n s i / p2 (f : Int) % 2 = 1 := by
    rcases B (n - 1) (by omega) with h | h
    · exact h
    · have := cnt_in (stS kin n s (n - 1 + 1)) n
      omega
  obtain ⟨i, i0, i1⟩ := C
  intro k
  by_cases ck : k < n
  · exact hno k ck
  · rcases b01 (s := stS kin n s k) (k := (a : Int)) with hb | hb
    · exact hb
    · have := A i i1 (k - i) a ha (by rw [show i + (k - i) = k by omega]; exact hb)
      have := hno i (by omega)
      omega
theorem jfix_s {σ α : Type} {b : (σ → Option α) → σ → Option α} {n : Nat} {s : σ} : jfix (n + 1) b s = b (jfix n b) s := rfl
theorem comesX_in {N : Nat} {X : jMem} {n : Nat} (hn : n ≤ 7) (h0 : X 15 0 = (n : Int)) {x2 x3 : Int} (hx3 : 0 ≤ x3 ∧ x3 < 7) (hs : 0 ≤ x2 ∧ x2 < 128) (h : Int × Int → Option Int) : ∀ (d : Nat) (i : Nat) (M : Nat), i + d = n → d < M → jfix M (Pa_weddingsBetween_L33 N 15 X x2 x3 h) (stK (X 20) x2 i, (i : Int)) = h (stK (X 20) x2 n, x3 + 1) := by
  intro d
  induction d with
  | zero =>
    intro i M hi hM
    obtain ⟨m, rfl⟩ : ∃ m, M = m + 1 := ⟨M - 1, by omega⟩
    unfold jfix Pa_weddingsBetween_L33
    dsimp only
    rw [h0, if_neg (by omega), w32_id (by omega), show i = n by omega]
  | succ d ih =>
    intro i M hi hM
    obtain ⟨m, rfl⟩ : ∃ m, M = m + 1 := ⟨M - 1, by omega⟩
    have g := ih (i + 1) m (by omega) (by omega)
    rw [jfix_s]
    generalize jfix m (Pa_weddingsBetween_L33 N 15 X x2 x3 h) = kk at g ⊢
    unfold Pa_weddingsBetween_L33 jlt
    dsimp only
    rw [h0, if_pos (by omega), shr_ok hs.1 hs.2 (by omega) (by omega), w32_id (x := (i : Int) + 1) (by omega)]
    have e : stK (X 20) x2 (i + 1) = if x2 / p2 (i : Int) % 2 = 1 then jor (stK (X 20) x2 i) (X 20 (i : Int)) else stK (X 20) x2 i := rfl
    rw [e, show ((i + 1 : Nat) : Int) = (i : Int) + 1 by omega] at g
    rcases b01 (s := x2) (k := (i : Int)) with c | c
    · rw [if_neg (show ¬ x2 / p2 (i : Int) % 2 = 1 by omega)] at g
      rw [if_pos c]; exact g
    · rw [if_pos c] at g
      rw [if_neg (show ¬ x2 / p2 (i : Int) % 2 = 0 by omega), jchk_pos (by omega)]; exact g
theorem comesY_in {N : Nat} {Y : jMem} {n : Nat} (hn : n ≤ 7) (h0 : Y 10 1 = (n : Int)) {x2 x3 : Int} (hx3 : 0 ≤ x3 ∧ x3 < 7) (hs : 0 ≤ x2 ∧ x2 < 128) (h : Int × Int → Option Int) : ∀ (d : Nat) (i : Nat) (M : Nat), i + d = n → d < M → jfix M (m_comes_L53 N Y x2 x3 h) (stK (fun i => Y 10 (53 + i)) x2 i, (i : Int)) = h (stK (fun i => Y 10 (53 + i)) x2 n, x3 + 1) := by
  intro d
  induction d with
  | zero =>
    intro i M hi hM
    obtain ⟨m, rfl⟩ : ∃ m, M = m + 1 := ⟨M - 1, by omega⟩
    unfold jfix m_comes_L53
    dsimp only
    rw [h0, if_neg (by omega), w32_id (by omega), show i = n by omega]
  | succ d ih =>
    intro i M hi hM
    obtain ⟨m, rfl⟩ : ∃ m, M = m + 1 := ⟨M - 1, by omega⟩
    have g := ih (i + 1) m (by omega) (by omega)
    rw [jfix_s]
    generalize jfix m (m_comes_L53 N Y x2 x3 h) = kk at g ⊢
    unfold m_comes_L53 m_isOf jlt
    dsimp only
    rw [h0, if_pos (show (i : Int) < (n : Int) by omega), shr_ok hs.1 hs.2 (by omega) (by omega), w32_id (x := (i : Int) + 1) (by omega)]
    have e : stK (fun i => Y 10 (53 + i)) x2 (i + 1) = if x2 / p2 (i : Int) % 2 = 1 then jor (stK (fun i => Y 10 (53 + i)) x2 i) (Y 10 (53 + (i : Int))) else stK (fun i => Y 10 (53 + i)) x2 i := rfl
    rw [e, show ((i + 1 : Nat) : Int) = (i : Int) + 1 by omega] at g
    rcases b01 (s := x2) (k := (i : Int)) with c | c
    · rw [if_neg (show ¬ x2 / p2 (i : Int) % 2 = 1 by omega)] at g
      rw [if_neg (show ¬ x2 / p2 (i : Int) % 2 = 1 by omega), Option.bind_some, if_pos rfl]; exact g
    · rw [if_pos c] at g
      rw [if_pos c, Option.bind_some, if_neg (by decide), w32_id (by omega), jchk_pos (by omega)]; exact g
/-- r is the first round of n in which b is reached, or -2 -/
def Cm (S : Nat → Int) (b : Int) (n : Nat) (r : Int) : Prop := (∃ k : Nat, k < n ∧ S k / p2 b % 2 = 1 ∧ (∀ j : Nat, j < k → S j / p2 b % 2 = 0) ∧ r = (k : Int)) ∨ ((∀ j : Nat, j < n → S j / p2 b % 2 = 0) ∧ r = -2)
theorem comesX_ok {N : Nat} (hN : 1000 ≤ N) {X : jMem} {n : Nat} (hn : n ≤ 7) (h0 : X 15 0 = (n : Int)) (hk : ∀ i, 0 ≤ i → i < 7 → 0 ≤ X 20 i ∧ X 20 i < 128) {s b : Int} (hs : 0 ≤ s ∧ s < 128) (hb : 0 ≤ b ∧ b < 7) : wp (jfix N (Pa_weddingsBetween_L7 N 15 b X) (s, 0)) (Cm (stS (X 20) n s) b n) := by
  refine wp_fix (fun t => (7 - t.2).toNat) (fun (t : Int × Int) => ∃ k : Nat, k ≤ n ∧ t.2 = (k : Int) ∧ t.1 = stS (X 20) n s k ∧ ∀ j : Nat, j < k → stS (X 20) n s j / p2 b % 2 = 0) ?_ N _ ⟨0, by omega, rfl, rfl, fun j hj => by omega⟩ (by dsimp only; omega)
  rintro h ⟨x, y⟩ ⟨k, k0, k1, k2, k3⟩ ih
  dsimp only at k1 k2
  have r := stS_in hk hn hs k
  subst k1; subst k2
  unfold Pa_weddingsBetween_L7
  dsimp only
  rw [h0, shr_ok r.1 r.2 hb.1 hb.2]
  by_cases c : k < n
  · rw [if_pos (by omega)]
    rcases b01 (s := stS (X 20) n s k) (k := b) with c1 | c1
    · rw [if_pos c1]
      have g := comesX_in (N := N) hn h0 (x2 := stS (X 20) n s k) (x3 := (k : Int)) (by omega) r h n 0 N (by omega) (by omega)
      rw [show stK (X 20) (stS (X 20) n s k) 0 = stS (X 20) n s k from rfl, show ((0 : Nat) : Int) = 0 from rfl] at g
      rw [g]
      exact ih _ ⟨k + 1, by omega, by dsimp only; omega, rfl, fun j hj => by
        by_cases cj : j = k
        · rw [cj]; exact c1
        · exact k3 j (by omega)⟩ (by dsimp only; omega)
    · rw [if_neg (by omega)]
      exact wp_some (Or.inl ⟨k, c, c1, k3, rfl⟩)
  · rw [if_neg (by omega)]
    exact wp_some (Or.inr ⟨fun j hj => k3 j (by omega), rfl⟩)
theorem comesY_ok {N : Nat} (hN : 1000 ≤ N) {Y : jMem} {n : Nat} (hn : n ≤ 7) (h0 : Y 10 1 = (n : Int)) (hk : ∀ i, 0 ≤ i → i < 7 → 0 ≤ Y 10 (53 + i) ∧ Y 10 (53 + i) < 128) {s b : Int} (hs : 0 ≤ s ∧ s < 128) (hb : 0 ≤ b ∧ b < 7) : wp (jfix N (m_comes_L29 N b Y) (s, 0)) (Cm (stS (fun i => Y 10 (53 + i)) n s) b 7) := by
  refine wp_fix (fun t => (7 - t.2).toNat) (fun (t : Int × Int) => ∃ k : Nat, k ≤ 7 ∧ t.2 = (k : Int) ∧ t.1 = stS (fun i => Y 10 (53 + i)) n s k ∧ ∀ j : Nat, j < k → stS (fun i => Y 10 (53 + i)) n s j / p2 b % 2 = 0) ?_ N _ ⟨0, by omega, rfl, rfl, fun j hj => by omega⟩ (by dsimp only; omega)
  rintro h ⟨x, y⟩ ⟨k, k0, k1, k2, k3⟩ ih
  dsimp only at k1 k2
  have r := stS_in (kin := fun i => Y 10 (53 + i)) hk hn hs k
  subst k1; subst k2
  unfold m_comes_L29 m_isOf
  dsimp only
  rw [shr_ok r.1 r.2 hb.1 hb.2]
  by_cases c : k < 7
  · rw [if_pos (show (k : Int) < 7 by omega)]
    rcases b01 (s := stS (fun i => Y 10 (53 + i)) n s k) (k := b) with c1 | c1
    · rw [if_neg (show ¬ stS (fun i => Y 10 (53 + i)) n s k / p2 b % 2 = 1 by omega), Option.bind_some, if_pos rfl]
      have g := comesY_in (N := N) hn h0 (x2 := stS (fun i => Y 10 (53 + i)) n s k) (x3 := (k : Int)) (by omega) r h n 0 N (by omega) (by omega)
      rw [show stK (fun i => Y 10 (53 + i)) (stS (fun i => Y 10 (53 + i)) n s k) 0 = stS (fun i => Y 10 (53 + i)) n s k from rfl, show ((0 : Nat) : Int) = 0 from rfl] at g
      rw [g]
      exact ih _ ⟨k + 1, by omega, by dsimp only; omega, rfl, fun j hj => by
        by_cases cj : j = k
        · rw [cj]; exact c1
        · exact k3 j (by omega)⟩ (by dsimp only; omega)
    · rw [if_pos c1, Option.bind_some, if_neg (by decide)]
      exact wp_some (Or.inl ⟨k, c, c1, k3, rfl⟩)
  · rw [if_neg (show ¬ (k : Int) < 7 by omega)]
    exact wp_some (Or.inr ⟨fun j hj => k3 j (by omega), rfl⟩)
theorem stK_eq {kin kin' : Int → Int} (h : ∀ i, 0 ≤ i → i < 7 → kin i = kin' i) (s : Int) : ∀ n : Nat, n ≤ 7 → stK kin s n = stK kin' s n
  | 0 => fun _ => rfl
  | k + 1 => fun hk => by unfold stK; rw [stK_eq h s k (by omega), h (k : Int) (by omega) (by omega)]
theorem stS_eq {kin kin' : Int → Int} (h : ∀ i, 0 ≤ i → i < 7 → kin i = kin' i) {n : Nat} (hn : n ≤ 7) (s : Int) : ∀ k : Nat, stS kin n s k = stS kin' n s k
  | 0 => rfl
  | k + 1 => by unfold stS; rw [stS_eq h hn s k, stK_eq h _ n hn]
theorem cnt_p2 {f n : Nat} (hf : f < n) (hn : n ≤ 7) : 1 ≤ cnt (p2 (f : Int)) n := by
  have h0 : ∀ k : Nat, cnt 0 k = 0 := by
    intro k; induction k with
    | zero => rfl
    | succ k ih => unfold cnt; rw [ih, Int.zero_ediv]; rfl
  have := cnt_lt (s := 0) (t := p2 (f : Int)) (f := f) n (fun k hk hh => by rw [Int.zero_ediv] at hh; omega) hf (by rw [Int.zero_ediv]; rfl) ((p2_bit (by omega) (by omega) (by omega) (by omega)).mpr rfl)
  rw [h0] at this
  omega
theorem comes_ok {N : Nat} (hN : 1000 ≤ N) (a b : Int) : OKp (x_comes N a b) (m_comes N a b) := by
  intro X Y h
  obtain ⟨r1, -, e1, f1, g1⟩ := isFarm_ok N a h
  obtain ⟨r2, e2, -, f2, g2⟩ := isFarm_ok N b h
  obtain ⟨s, w, pk, -⟩ := Rel_s h
  unfold x_comes m_comes
  rw [e1, e2, f1, f2, Option.bind_some, Option.bind_some, Option.bind_some, Option.bind_some]
  by_cases c1 : r1 = 0
  · rw [if_pos c1, if_pos c1]; exact ⟨_, rfl, rfl⟩
  · rw [if_neg c1, if_neg c1]
    by_cases c2 : r2 = 0
    · rw [if_pos c2, if_pos c2]; exact ⟨_, rfl, rfl⟩
    · rw [if_neg c2, if_neg c2]
      obtain ⟨f, x1, y1, t0, t1, -⟩ := farmOf_ok hN s w (w := a) (by omega)
      have w1 := w.1
      have wk := w.2.2.2.2.2.2.2.2.1
      obtain ⟨p0, -, p3⟩ := pk
      rw [x1, y1, Option.bind_some, Option.bind_some]
      unfold Pa_weddingsBetween jlt
      rw [shl_ok (by omega) (by omega)]
      dsimp only
      have hp := p2_in t0 (show f < 7 by omega)
      obtain ⟨n, hn⟩ : ∃ n : Nat, Y 10 1 = (n : Int) := ⟨(Y 10 1).toNat, by omega⟩
      obtain ⟨u, u1, u2⟩ := comesX_ok hN (X := X) (n := n) (by omega) (by omega) (fun i i0 i1 => by rw [p3 i i0 i1]; exact wk i i0 i1) (s := p2 f) (b := b) (by omega) (by omega)
      obtain ⟨v, v1, v2⟩ := comesY_ok hN (Y := Y) (n := n) (by omega) hn wk (s := p2 f) (b := b) (by omega) (by omega)
      rw [u1, v1]
      refine ⟨u, rfl, ?_⟩
      have es := stS_eq (kin := X 20) (kin' := fun i => Y 10 (53 + i)) p3 (n := n) (by omega) (p2 f)
      have stop := stS_stop (kin := fun i => Y 10 (53 + i)) wk (n := n) (by omega) (s := p2 f) (by omega) (a := b.toNat) (by omega) (by
        have := cnt_p2 (f := f.toNat) (n := n) (by omega) (by omega)
        rw [show ((f.toNat : Nat) : Int) = f by omega] at this; exact this)
      rw [show ((b.toNat : Nat) : Int) = b by omega] at stop
      congr 1
      rcases u2 with ⟨k, k0, k1, k2, k3⟩ | ⟨k1, k2⟩
      · rw [es] at k1
        rcases v2 with ⟨k', k0', k1', k2', k3'⟩ | ⟨k1', k2'⟩
        · have q1 : ¬ k < k' := fun z => by have := k2' k z; omega
          have q2 : ¬ k' < k := fun z => by have := k2 k' z; rw [es] at this; omega
          omega
        · have := k1' k (by omega); omega
      · have st := stop (fun j hj => by have := k1 j hj; rw [es] at this; exact this)
        rcases v2 with ⟨k', k0', k1', k2', k3'⟩ | ⟨k1', k2'⟩
        · have := st k'; omega
        · omega
