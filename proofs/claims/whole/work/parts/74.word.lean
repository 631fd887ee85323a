/-! words and numbers on both sides -/
def pw (T : Int → Int) (p : Int) : Nat → Int
  | 0 => 0
  | k + 1 => pw T p k * 256 + T (p + (k : Int))
theorem lsh8 {x : Int} (h0 : 0 ≤ x) (h1 : x < 281474976710656) : jlshl x 8 = x * 256 := by
  obtain ⟨n, rfl⟩ : ∃ n : Nat, x = (n : Int) := ⟨x.toNat, by omega⟩
  unfold jlshl
  have e : (Int32.ofInt 8).toInt64 &&& 63 = 8 := by decide
  rw [e, ← Int64.toInt_toBitVec, Int64.toBitVec_shiftLeft, Int64.toBitVec_ofInt]
  have e2 : ((8 : Int64).toBitVec.smod 64) = 8#64 := by decide
  rw [e2]
  have e3 : (BitVec.ofInt 64 (n : Int) <<< 8#64).toNat = n * 256 := by
    rw [BitVec.shiftLeft_eq', BitVec.toNat_shiftLeft, BitVec.toNat_ofInt]
    have q1 : ((n : Int) % ((2 ^ 64 : Nat) : Int)).toNat = n := by
      have : ((2 ^ 64 : Nat) : Int) = 18446744073709551616 := by decide
      rw [this]; omega
    rw [q1, show (8#64).toNat = 8 from rfl, Nat.shiftLeft_eq]
    omega
  rw [BitVec.toInt_eq_toNat_of_lt (by rw [e3]; omega), e3]
  omega
theorem lor8 {x t : Int} (h0 : 0 ≤ x) (h1 : x < 281474976710656) (t0 : 0 ≤ t) (t1 : t < 256) : jlor (x * 256) t = x * 256 + t := by
  obtain ⟨n, rfl⟩ : ∃ n : Nat, x = (n : Int) := ⟨x.toNat, by omega⟩
  obtain ⟨k, rfl⟩ : ∃ k : Nat, t = (k : Int) := ⟨t.toNat, by omega⟩
  unfold jlor
  rw [← Int64.toInt_toBitVec, Int64.toBitVec_or, Int64.toBitVec_ofInt, Int64.toBitVec_ofInt]
  have e3 : (BitVec.ofInt 64 ((n : Int) * 256) ||| BitVec.ofInt 64 (k : Int)).toNat = n * 256 + k := by
    rw [BitVec.toNat_or, BitVec.toNat_ofInt, BitVec.toNat_ofInt]
    have this : ((2 ^ 64 : Nat) : Int) = 18446744073709551616 := by decide
    have q1 : (((n : Int) * 256) % ((2 ^ 64 : Nat) : Int)).toNat = n <<< 8 := by
      rw [this, Nat.shiftLeft_eq]; omega
    have q2 : ((k : Int) % ((2 ^ 64 : Nat) : Int)).toNat = k := by
      rw [this]; omega
    rw [q1, q2, ← Nat.shiftLeft_add_eq_or_of_lt (by omega), Nat.shiftLeft_eq]
  rw [BitVec.toInt_eq_toNat_of_lt (by rw [e3]; omega), e3]
  omega
theorem pw_in {T : Int → Int} {p : Int} : ∀ k : Nat, (∀ i : Nat, i < k → 1 ≤ T (p + (i : Int)) ∧ T (p + (i : Int)) ≤ 255) → 0 ≤ pw T p k ∧ (k ≤ 6 → pw T p k < 281474976710656)
  | 0, _ => ⟨Int.le_refl 0, fun _ => by show (0 : Int) < _; omega⟩
  | k + 1, h => by
    have i := pw_in k (fun j hj => h j (by omega))
    have d := h k (by omega)
    refine ⟨by show 0 ≤ pw T p k * 256 + T (p + (k : Int)); omega, fun hk => ?_⟩
    have B : ∀ j : Nat, j ≤ k + 1 → pw T p j < 256 ^ j := by
      intro j
      induction j with
      | zero => intro _; show (0 : Int) < 1; omega
      | succ j ih =>
        intro hj
        have a := ih (by omega)
        have b := h j (by omega)
        show pw T p j * 256 + T (p + (j : Int)) < 256 ^ (j + 1)
        rw [Int.pow_succ]; omega
    have := B (k + 1) (by omega)
    have q : (256 : Int) ^ (k + 1) ≤ 281474976710656 := by
      have : k + 1 = 1 ∨ k + 1 = 2 ∨ k + 1 = 3 ∨ k + 1 = 4 ∨ k + 1 = 5 ∨ k + 1 = 6 := by omega
      rcases this with c | c | c | c | c | c <;> rw [c] <;> decide
    omega
theorem pw_inj {T T' : Int → Int} {p p' : Int} : ∀ n n' : Nat, (∀ i : Nat, i < n → 1 ≤ T (p + (i : Int)) ∧ T (p + (i : Int)) ≤ 255) → (∀ i : Nat, i < n' → 1 ≤ T' (p' + (i : Int)) ∧ T' (p' + (i : Int)) ≤ 255) → pw T p n = pw T' p' n' → n = n' ∧ ∀ k : Nat, k < n → T (p + (k : Int)) = T' (p' + (k : Int))
  | 0, 0, _, _, _ => ⟨rfl, fun k hk => by omega⟩
  | 0, n' + 1, _, h', e => by
    have i := (pw_in n' (fun j hj => h' j (by omega))).1
    have d := h' n' (by omega)
    have e' : (0 : Int) = pw T' p' n' * 256 + T' (p' + (n' : Int)) := e
    omega
  | n + 1, 0, h, _, e => by
    have i := (pw_in n (fun j hj => h j (by omega))).1
    have d := h n (by omega)
    have e' : pw T p n * 256 + T (p + (n : Int)) = 0 := e
    omega
  | n + 1, n' + 1, h, h', e => by
    have d := h n (by omega)
    have d' := h' n' (by omega)
    have e' : pw T p n * 256 + T (p + (n : Int)) = pw T' p' n' * 256 + T' (p' + (n' : Int)) := e
    obtain ⟨a, b⟩ := pw_inj n n' (fun j hj => h j (by omega)) (fun j hj => h' j (by omega)) (by omega)
    subst a
    refine ⟨rfl, fun k hk => ?_⟩
    by_cases c : k = n
    · subst c; omega
    · exact b k (by omega)
def wcode (i : Nat) : Int := (([123563833652072, 2003135596, 1717662317, 7039342, 7824740, 26982, 28530, 6385252, 7237492, 422826304613, 444301537133, 1751478899, 6842739, 495924372852, 1936684402, 1718971500, 7106423, 448378008179, 1752132965, 6582905, 2036687218] : List Nat).getD i 0 : Nat)
theorem wcode_tbl : ∀ i : Fin 21, pw (jSb 0) (wst i.val) (wln i.val).toNat = wcode i.val := by decide +kernel
theorem name_let {i : Nat} (hi : i < 21) : ∀ k : Nat, k < (wln i).toNat → 1 ≤ jSb 0 (wst i + (k : Int)) ∧ jSb 0 (wst i + (k : Int)) ≤ 255 := fun k hk => by
  obtain ⟨⟨-, t2, t3, -⟩, -, t6, -⟩ := names_tbl ⟨i, hi⟩
  dsimp only at t2 t3 t6
  have := t6 ⟨k, by omega⟩ (by dsimp only; omega)
  dsimp only at this
  omega
theorem word_iff {T : Int → Int} {p : Int} {n : Nat} {i : Nat} (hi : i < 21) (hl : ∀ k : Nat, k < n → Lt (T (p + (k : Int)))) : (0 < n ∧ n < 8 ∧ pw T p n = wcode i) ↔ Wm T p (n : Int) i := by
  obtain ⟨⟨-, t2, t3, -⟩, -⟩ := names_tbl ⟨i, hi⟩
  dsimp only at t2 t3
  have tb := wcode_tbl ⟨i, hi⟩
  dsimp only at tb
  have hl' : ∀ k : Nat, k < n → 1 ≤ T (p + (k : Int)) ∧ T (p + (k : Int)) ≤ 255 := fun k hk => by
    have := hl k hk; unfold Lt at this; omega
  constructor
  · rintro ⟨a, b, c⟩
    rw [← tb] at c
    obtain ⟨e, f⟩ := pw_inj n _ hl' (name_let hi) c
    refine ⟨by omega, fun k k0 k1 => ?_⟩
    have := f k.toNat (by omega)
    rw [show ((k.toNat : Nat) : Int) = k by omega] at this
    exact this
  · rintro ⟨a, b⟩
    have en : n = (wln i).toNat := by omega
    refine ⟨by omega, by omega, ?_⟩
    rw [← tb, ← en]
    have : ∀ k : Nat, k ≤ n → pw T p k = pw (jSb 0) (wst i) k := by
      intro k
      induction k with
      | zero => intro _; rfl
      | succ k ih =>
        intro hk
        show pw T p k * 256 + T (p + (k : Int)) = pw (jSb 0) (wst i) k * 256 + jSb 0 (wst i + (k : Int))
        rw [ih (by omega), b (k : Int) (by omega) (by omega)]
    exact this n (by omega)
theorem Wm_one {T : Int → Int} {p len : Int} {i j : Nat} (hi : i < 21) (hj : j < 21) (h : Wm T p len i) (h' : Wm T p len j) : i = j := by
  have D : ∀ a b : Fin 21, wcode a.val = wcode b.val → a = b := by decide +kernel
  obtain ⟨⟨-, t2, t3, -⟩, -, t6, -⟩ := names_tbl ⟨i, hi⟩
  dsimp only at t2 t3 t6
  obtain ⟨n, hn⟩ : ∃ n : Nat, len = (n : Int) := ⟨len.toNat, by have := h.1; omega⟩
  subst hn
  have hl : ∀ k : Nat, k < n → Lt (T (p + (k : Int))) := fun k hk => by
    rw [h.2 (k : Int) (by omega) (by have := h.1; omega)]
    have := t6 ⟨k, by have := h.1; omega⟩ (by have := h.1; dsimp only; omega)
    exact this
  have a := ((word_iff hi hl).mpr h).2.2
  have b := ((word_iff hj hl).mpr h').2.2
  have := D ⟨i, hi⟩ ⟨j, hj⟩ (by dsimp only; rw [← a, ← b])
  have e := congrArg Fin.val this
  exact e
/-- is it that word? -/
theorem isWord_ok {N : Nat} (hN : 1000 ≤ N) {X Y : jMem} {m j : Int} (h : At X Y m j) {i : Nat} (hi : i < 21) : ∃ r, m_isWord N (wcode i) Y = some (r, up Y 0 8 (X 4 j)) ∧ ((r = 1 ∧ X 3 j = 17 + (i : Int)) ∨ (r = 0 ∧ X 3 j ≠ 17 + (i : Int))) := by
  have pl := At_pl h
  obtain ⟨c, s1, s2⟩ := see_ok hN h
  obtain ⟨t, h2, h3, h4, h5, h6⟩ := h
  unfold m_isWord jb1
  rw [s1, Option.bind_some]
  dsimp only
  generalize hY : up Y 0 8 (X 4 j) = Y2
  have y8 : Y2 0 8 = X 4 j := by rw [← hY, up_hit rfl rfl]
  have y1 : Y2 1 = Y 1 := by rw [← hY, up_ne (by omega)]
  have y01 : Y2 0 1 = Y 0 1 := by rw [← hY, up_col (by omega)]
  have p0 : 0 ≤ X 4 j := by omega
  -- the run of letters from here
  have run : ∃ n : Nat, (X 4 j + (n : Int) ≤ Y 0 1) ∧ (∀ k : Nat, k < n → Lt (Y 1 (X 4 j + (k : Int)))) ∧ ¬ (X 4 j + (n : Int) < Y 0 1 ∧ Lt (Y 1 (X 4 j + (n : Int)))) ∧ (((0 < n ∧ n < 8 ∧ pw (Y 1) (X 4 j) n = wcode i) ∧ X 3 j = 17 + (i : Int)) ∨ (¬ (0 < n ∧ n < 8 ∧ pw (Y 1) (X 4 j) n = wcode i) ∧ X 3 j ≠ 17 + (i : Int))) := by
    rcases pl with ⟨z1, z2, z3⟩ | ⟨z1, z2, z3⟩
    · exact ⟨0, by omega, fun k hk => by omega, by omega, Or.inr ⟨by omega, by omega⟩⟩
    · obtain ⟨-, -, -, -, e⟩ := t
      obtain ⟨-, -, q, tk, -⟩ := e j h4.1 z1
      rcases tk with ⟨a, b, k1, -⟩ | ⟨a, b, k1⟩ | ⟨a, b, k1⟩
      · refine ⟨0, by omega, fun k hk => by omega, fun w => ?_, Or.inr ⟨by omega, ?_⟩⟩
        · have w2 := w.2
          rw [show X 4 j + ((0 : Nat) : Int) = X 4 j by omega] at w2
          unfold Dg at a; unfold Lt at w2; omega
        · rw [k1]
          by_cases cc : 5 < q - X 4 j
          · rw [if_pos cc]; omega
          · rw [if_neg cc]; omega
      · obtain ⟨b1, b2, b3, b4⟩ := b
        have ln : ∀ k : Nat, k < (q - X 4 j).toNat → Lt (Y 1 (X 4 j + (k : Int))) := fun k hk => b3 _ (by omega) (by omega)
        refine ⟨(q - X 4 j).toNat, by omega, ln, fun w => ?_, ?_⟩
        · have e1 : X 4 j + (((q - X 4 j).toNat : Nat) : Int) = q := by omega
          rw [e1] at w
          exact b4 w.1 w.2
        · rw [word_iff hi ln, show (((q - X 4 j).toNat : Nat) : Int) = q - X 4 j by omega]
          rcases k1 with ⟨i', i0, i1, i2⟩ | ⟨k2, k3⟩
          · by_cases ci : i' = i
            · subst ci; exact Or.inl ⟨i1, i2⟩
            · exact Or.inr ⟨fun w => ci (Wm_one i0 hi i1 w), by omega⟩
          · exact Or.inr ⟨k2 i hi, by omega⟩
      · refine ⟨0, by omega, fun k hk => by omega, fun w => ?_, Or.inr ⟨by omega, ?_⟩⟩
        · have w2 := w.2
          rw [show X 4 j + ((0 : Nat) : Int) = X 4 j by omega] at w2
          exact b w2
        · have sg := sgk_in (Y 1 (X 4 j))
          rcases k1 with k1 | k1 | k1 <;> omega
  obtain ⟨n, n1, n2, n3, n4⟩ := run
  have H : wp (jfix N (m_isWord_L10 N (wcode i) Y2) (0, 0)) (fun o => o.2 = Y2 ∧ ((o.1 = 1 ∧ (0 < n ∧ n < 8 ∧ pw (Y 1) (X 4 j) n = wcode i)) ∨ (o.1 = 0 ∧ ¬ (0 < n ∧ n < 8 ∧ pw (Y 1) (X 4 j) n = wcode i)))) := by
    refine wp_fix (fun u => (400 - u.2).toNat) (fun (u : Int × Int) => ∃ k : Nat, k ≤ n ∧ u.2 = (k : Int) ∧ (k ≤ 7 → u.1 = pw (Y 1) (X 4 j) k)) ?_ N _ ⟨0, by omega, rfl, fun _ => rfl⟩ (by dsimp only; omega)
    rintro hh ⟨x3, x4⟩ ⟨k, k0, k1, k2⟩ ih
    dsimp only at k1 k2
    subst k1
    unfold m_isWord_L10 jlt
    dsimp only
    rw [y8, w32_id (x := X 4 j + (k : Int)) (by omega)]
    obtain ⟨r, r1, r2⟩ := isLetterY (N := N) (Y := Y2) (p := X 4 j + (k : Int)) (by omega) (by rw [y01]; omega)
    rw [y01, y1] at r2
    rw [r1, Option.bind_some]
    by_cases c : k < n
    · have lk := n2 k c
      rw [if_neg (show ¬ r = 0 by
        rcases r2 with z | z
        · omega
        · exact absurd ⟨by omega, lk⟩ z.2), w32_id (x := (k : Int) + 1) (by omega)]
      by_cases c8 : (k : Int) < 8
      · rw [if_pos c8, jchk_pos (by omega)]
        refine ih _ ⟨k + 1, by omega, by dsimp only; omega, fun hk => ?_⟩ (by dsimp only; omega)
        dsimp only
        have e := k2 (by omega)
        have b := pw_in (T := Y 1) (p := X 4 j) k (fun i hi' => by have := n2 i (by omega); unfold Lt at this; omega)
        have b2 := b.2 (by omega)
        unfold Lt at lk
        rw [y1, e, lsh8 b.1 b2, lor8 b.1 b2 (by omega) (by omega)]
        rfl
      · rw [if_neg c8]
        exact ih _ ⟨k + 1, by omega, by dsimp only; omega, fun hk => by omega⟩ (by dsimp only; omega)
    · have en : k = n := by omega
      subst en
      rw [if_pos (show r = 0 by
        rcases r2 with z | z
        · exact absurd z.2 n3
        · exact z.1)]
      by_cases c0 : (0 : Int) < (k : Int)
      · rw [if_pos c0]
        by_cases c8 : (k : Int) < 8
        · rw [if_pos c8]
          have e := k2 (by omega)
          rw [e]
          by_cases cc : pw (Y 1) (X 4 j) k = wcode i
          · rw [if_pos (jcmp_0.mpr cc)]; exact wp_some ⟨rfl, Or.inl ⟨rfl, by omega, by omega, cc⟩⟩
          · rw [if_neg (fun z => cc (jcmp_0.mp z))]; exact wp_some ⟨rfl, Or.inr ⟨rfl, fun z => cc z.2.2⟩⟩
        · rw [if_neg c8]; exact wp_some ⟨rfl, Or.inr ⟨rfl, by omega⟩⟩
      · rw [if_neg c0]; exact wp_some ⟨rfl, Or.inr ⟨rfl, by omega⟩⟩
  obtain ⟨⟨r, Z⟩, e, q1, q2⟩ := H
  dsimp only at q1 q2
  subst q1
  refine ⟨r, e, ?_⟩
  rcases q2 with ⟨z1, z2⟩ | ⟨z1, z2⟩
  · rcases n4 with ⟨w1, w2⟩ | ⟨w1, w2⟩
    · exact Or.inl ⟨z1, w2⟩
    · exact absurd z2 w1
  · rcases n4 with ⟨w1, w2⟩ | ⟨w1, w2⟩
    · exact absurd w1 z2
    · exact Or.inr ⟨z1, w2⟩
