/-! the place of a row among all rows -/
def us (r : Int → Int) : Nat → Int
  | 0 => 0
  | k + 1 => jor (us r k) (p2 (r (k : Int)))
def dgt (r : Int → Int) (k : Nat) : Int := r (k : Int) - cnt (us r k) (r (k : Int)).toNat
def lrH (n : Int) (r : Int → Int) : Nat → Int
  | 0 => 0
  | k + 1 => lrH n r k * (n - (k : Int)) + dgt r k
def rank (n : Nat) (r : Int → Int) : Int := lrH n r n
def lt1 (x y : Int) : Int := if x < y then 1 else 0
theorem lt1_in {x y : Int} : 0 ≤ lt1 x y ∧ lt1 x y ≤ 1 := ind_in
theorem us_bits {n : Nat} (hn : n ≤ 7) {r : Int → Int} (hr : Pm n r) : ∀ k : Nat, k ≤ n → (0 ≤ us r k ∧ us r k < 128) ∧ ∀ f, 0 ≤ f → f < 7 → (us r k / p2 f % 2 = 1 ↔ ∃ j : Nat, j < k ∧ r (j : Int) = f)
  | 0, _ => ⟨⟨Int.le_refl 0, by show (0 : Int) < 128; omega⟩, fun f f0 f1 => by
      show (0 : Int) / p2 f % 2 = 1 ↔ _
      rw [Int.zero_ediv]
      exact ⟨fun z => by omega, fun ⟨j, j0, _⟩ => by omega⟩⟩
  | k + 1, hk => by
    obtain ⟨a, b⟩ := us_bits hn hr k (by omega)
    have v := hr.1 (k : Int) (by omega) (by omega)
    refine ⟨or_p2_in a (by omega) (by omega), fun f f0 f1 => ?_⟩
    show jor (us r k) (p2 (r (k : Int))) / p2 f % 2 = 1 ↔ _
    rw [or_p2 a (by omega) (by omega) f0 f1, b f f0 f1]
    constructor
    · rintro (⟨j, j0, j1⟩ | q)
      · exact ⟨j, by omega, j1⟩
      · exact ⟨k, by omega, q.symm⟩
    · rintro ⟨j, j0, j1⟩
      by_cases c : j = k
      · subst c; exact Or.inr j1.symm
      · exact Or.inl ⟨j, by omega, j1⟩
theorem cnt_or {s v : Int} (hs : 0 ≤ s ∧ s < 128) (v0 : 0 ≤ v) (v1 : v < 7) (hb : s / p2 v % 2 = 0) : ∀ y : Nat, y ≤ 7 → cnt (jor s (p2 v)) y = cnt s y + lt1 v (y : Int)
  | 0, _ => by
    show (0 : Int) = 0 + lt1 v ((0 : Nat) : Int)
    unfold lt1; rw [if_neg (by omega)]; rfl
  | y + 1, hy => by
    have ih := cnt_or hs v0 v1 hb y (by omega)
    have b := or_p2 hs v0 v1 (k := (y : Int)) (by omega) (by omega)
    show cnt (jor s (p2 v)) y + jor s (p2 v) / p2 (y : Int) % 2 = cnt s y + s / p2 (y : Int) % 2 + lt1 v ((y + 1 : Nat) : Int)
    unfold lt1 at ih ⊢
    by_cases c : (y : Int) = v
    · rw [if_neg (by omega)] at ih
      rw [if_pos (by omega), b.mpr (Or.inr c)]
      rw [← c] at hb
      omega
    · have e : jor s (p2 v) / p2 (y : Int) % 2 = s / p2 (y : Int) % 2 := by
        rcases b01 (s := s) (k := (y : Int)) with z | z
        · rcases b01 (s := jor s (p2 v)) (k := (y : Int)) with w | w
          · omega
          · rcases b.mp w with q | q
            · omega
            · exact absurd q c
        · rw [b.mpr (Or.inl z), z]
      rw [e, ih]
      by_cases d : v < (y : Int)
      · rw [if_pos d, if_pos (by omega)]; omega
      · rw [if_neg d, if_neg (by omega)]; omega
theorem cnt_us {n : Nat} (hn : n ≤ 7) {r : Int → Int} (hr : Pm n r) {y : Nat} (hy : y ≤ 7) : ∀ k : Nat, k ≤ n → cnt (us r k) y = cq (fun j => lt1 (r (j : Int)) (y : Int)) k
  | 0, _ => by
    have : ∀ m : Nat, cnt 0 m = 0 := by
      intro m; induction m with
      | zero => rfl
      | succ m ih => unfold cnt; rw [ih, Int.zero_ediv]; rfl
    exact this y
  | k + 1, hk => by
    have ih := cnt_us hn hr hy k (by omega)
    obtain ⟨a, b⟩ := us_bits hn hr k (by omega)
    have v := hr.1 (k : Int) (by omega) (by omega)
    have hb : us r k / p2 (r (k : Int)) % 2 = 0 := by
      rcases b01 (s := us r k) (k := r (k : Int)) with z | z
      · exact z
      · obtain ⟨j, j0, j1⟩ := (b (r (k : Int)) (by omega) (by omega)).mp z
        have := hr.2 (j : Int) (k : Int) (by omega) (by omega) (by omega) (by omega) j1
        omega
    show cnt (jor (us r k) (p2 (r (k : Int)))) y = cq (fun j => lt1 (r (j : Int)) (y : Int)) k + lt1 (r (k : Int)) (y : Int)
    rw [cnt_or a (by omega) (by omega) hb y hy, ih]
theorem us_free {n : Nat} (hn : n ≤ 7) {r : Int → Int} (hr : Pm n r) {k : Nat} (hk : k < n) : us r k / p2 (r (k : Int)) % 2 = 0 := by
  obtain ⟨a, b⟩ := us_bits hn hr k (by omega)
  have v := hr.1 (k : Int) (by omega) (by omega)
  rcases b01 (s := us r k) (k := r (k : Int)) with z | z
  · exact z
  · obtain ⟨j, j0, j1⟩ := (b (r (k : Int)) (by omega) (by omega)).mp z
    have := hr.2 (j : Int) (k : Int) (by omega) (by omega) (by omega) (by omega) j1
    omega
theorem dgt_cq {n : Nat} (hn : n ≤ 7) {r : Int → Int} (hr : Pm n r) {k : Nat} (hk : k < n) : dgt r k = r (k : Int) - cq (fun j => lt1 (r (j : Int)) (r (k : Int))) k := by
  have v := hr.1 (k : Int) (by omega) (by omega)
  unfold dgt
  rw [cnt_us hn hr (by omega) k (by omega), show (((r (k : Int)).toNat : Nat) : Int) = r (k : Int) by omega]
theorem all_less {n : Nat} {r : Int → Int} (hr : Pm n r) {v : Int} (hv : 0 ≤ v ∧ v ≤ (n : Int)) : cq (fun j => lt1 (r (j : Int)) v) n = v := by
  have e := cq_inj n (fun x => lt1 (x : Int) v) (fun i => (r (i : Int)).toNat) (fun i hi => by
    have := hr.1 (i : Int) (by omega) (by omega); omega) (fun i j hi hj q => by
    have a := hr.1 (i : Int) (by omega) (by omega)
    have b := hr.1 (j : Int) (by omega) (by omega)
    have := hr.2 (i : Int) (j : Int) (by omega) (by omega) (by omega) (by omega) (by omega)
    omega)
  have e2 : cq (fun j => lt1 (r (j : Int)) v) n = cq (fun i => lt1 (((r (i : Int)).toNat : Nat) : Int) v) n := cq_eq n (fun j hj => by
    have := hr.1 (j : Int) (by omega) (by omega)
    rw [show (((r (j : Int)).toNat : Nat) : Int) = r (j : Int) by omega])
  have e3 : ∀ m : Nat, (m : Int) ≤ v → cq (fun x => lt1 (x : Int) v) m = (m : Int) := by
    intro m; induction m with
    | zero => intro _; rfl
    | succ m ih =>
      intro h
      show cq (fun x => lt1 (x : Int) v) m + lt1 (m : Int) v = _
      rw [ih (by omega)]; unfold lt1; rw [if_pos (by omega)]; omega
  have e4 : ∀ d : Nat, cq (fun x => lt1 (x : Int) v) (v.toNat + d) = v := by
    intro d; induction d with
    | zero => rw [show v.toNat + 0 = v.toNat from rfl, e3 v.toNat (by omega)]; omega
    | succ d ih =>
      show cq (fun x => lt1 (x : Int) v) (v.toNat + d) + lt1 ((v.toNat + d : Nat) : Int) v = v
      rw [ih]; unfold lt1; rw [if_neg (by omega)]; omega
  rw [e2, e]
  have := e4 (n - v.toNat)
  rw [show v.toNat + (n - v.toNat) = n by omega] at this
  exact this
theorem dgt_in {n : Nat} (hn : n ≤ 7) {r : Int → Int} (hr : Pm n r) {k : Nat} (hk : k < n) : 0 ≤ dgt r k ∧ dgt r k ≤ (n : Int) - 1 - (k : Int) := by
  have v := hr.1 (k : Int) (by omega) (by omega)
  have t := all_less hr (v := r (k : Int)) (by omega)
  have m := cq_mono (f := fun j => lt1 (r (j : Int)) (r (k : Int))) (fun _ => lt1_in) (k + 1) (n - (k + 1))
  rw [show k + 1 + (n - (k + 1)) = n by omega] at m
  have e : cq (fun j => lt1 (r (j : Int)) (r (k : Int))) (k + 1) = cq (fun j => lt1 (r (j : Int)) (r (k : Int))) k := by
    show cq (fun j => lt1 (r (j : Int)) (r (k : Int))) k + lt1 (r (k : Int)) (r (k : Int)) = _
    unfold lt1; rw [if_neg (by omega)]; omega
  rw [dgt_cq hn hr hk]
  omega
theorem us_eq {n : Int} {r r' : Int → Int} : ∀ k : Nat, (∀ j : Nat, j < k → r (j : Int) = r' (j : Int)) → us r k = us r' k
  | 0, _ => rfl
  | k + 1, h => by unfold us; rw [us_eq (n := n) k (fun j hj => h j (by omega)), h k (by omega)]
theorem lrH_eq {n : Int} {r r' : Int → Int} : ∀ k : Nat, (∀ j : Nat, j < k → r (j : Int) = r' (j : Int)) → lrH n r k = lrH n r' k
  | 0, _ => rfl
  | k + 1, h => by
    unfold lrH dgt
    rw [lrH_eq k (fun j hj => h j (by omega)), us_eq (n := n) k (fun j hj => h j (by omega)), h k (by omega)]
/-- how many numbers below x are free -/
theorem free_mono {s : Int} : ∀ d x : Nat, (x : Int) - cnt s x ≤ ((x + d : Nat) : Int) - cnt s (x + d)
  | 0, x => Int.le_refl _
  | d + 1, x => by
    have i := free_mono (s := s) d x
    have b := b01 (s := s) (k := ((x + d : Nat) : Int))
    show (x : Int) - cnt s x ≤ ((x + (d + 1) : Nat) : Int) - (cnt s (x + d) + s / p2 ((x + d : Nat) : Int) % 2)
    omega
theorem free_lt {s : Int} {x y : Nat} (h : x < y) (hb : s / p2 (x : Int) % 2 = 0) : (x : Int) - cnt s x + 1 ≤ (y : Int) - cnt s y := by
  have m := free_mono (s := s) (y - (x + 1)) (x + 1)
  rw [show x + 1 + (y - (x + 1)) = y by omega] at m
  have e : cnt s (x + 1) = cnt s x + s / p2 (x : Int) % 2 := rfl
  omega
def tens (r : Int → Int) : Nat → Int
  | 0 => 0
  | k + 1 => tens r k * 10 + r (k : Int) + 1
theorem tens_eq {r r' : Int → Int} : ∀ k : Nat, (∀ j : Nat, j < k → r (j : Int) = r' (j : Int)) → tens r k = tens r' k
  | 0, _ => rfl
  | k + 1, h => by unfold tens; rw [tens_eq k (fun j hj => h j (by omega)), h k (by omega)]
/-- the lesser LIE has the lesser place -/
theorem lex_lt {n : Nat} (hn : n ≤ 7) {r r' : Int → Int} (hr : Pm n r) (hr' : Pm n r') {k : Nat} (hk : k < n) (he : ∀ j : Nat, j < k → r (j : Int) = r' (j : Int)) (hlt : r (k : Int) < r' (k : Int)) : ∀ d : Nat, k + 1 + d ≤ n → lrH n r (k + 1 + d) + 1 ≤ lrH n r' (k + 1 + d) ∧ tens r (k + 1 + d) + 1 ≤ tens r' (k + 1 + d)
  | 0, _ => by
    have v := hr.1 (k : Int) (by omega) (by omega)
    have v' := hr'.1 (k : Int) (by omega) (by omega)
    have f := us_free hn hr hk
    rw [us_eq (n := (n : Int)) k he] at f
    have g := free_lt (s := us r' k) (x := (r (k : Int)).toNat) (y := (r' (k : Int)).toNat) (by omega) (by rw [show (((r (k : Int)).toNat : Nat) : Int) = r (k : Int) by omega]; exact f)
    have d1 : dgt r k + 1 ≤ dgt r' k := by
      unfold dgt; rw [us_eq (n := (n : Int)) k he]; omega
    refine ⟨?_, ?_⟩
    · show lrH n r k * ((n : Int) - (k : Int)) + dgt r k + 1 ≤ lrH n r' k * ((n : Int) - (k : Int)) + dgt r' k
      rw [lrH_eq k he]; omega
    · show tens r k * 10 + r (k : Int) + 1 + 1 ≤ tens r' k * 10 + r' (k : Int) + 1
      rw [tens_eq k he]; omega
  | d + 1, hd => by
    obtain ⟨i1, i2⟩ := lex_lt hn hr hr' hk he hlt d (by omega)
    have a := dgt_in hn hr (k := k + 1 + d) (by omega)
    have b := dgt_in hn hr' (k := k + 1 + d) (by omega)
    have v := hr.1 ((k + 1 + d : Nat) : Int) (by omega) (by omega)
    have v' := hr'.1 ((k + 1 + d : Nat) : Int) (by omega) (by omega)
    refine ⟨?_, ?_⟩
    · show lrH n r (k + 1 + d) * ((n : Int) - ((k + 1 + d : Nat) : Int)) + dgt r (k + 1 + d) + 1 ≤ lrH n r' (k + 1 + d) * ((n : Int) - ((k + 1 + d : Nat) : Int)) + dgt r' (k + 1 + d)
      have m := Int.mul_le_mul_of_nonneg_right i1 (show 0 ≤ (n : Int) - ((k + 1 + d : Nat) : Int) by omega)
      rw [Int.add_mul, Int.one_mul] at m
      omega
    · show tens r (k + 1 + d) * 10 + r ((k + 1 + d : Nat) : Int) + 1 + 1 ≤ tens r' (k + 1 + d) * 10 + r' ((k + 1 + d : Nat) : Int) + 1
      omega
theorem lex {n : Nat} (hn : n ≤ 7) {r r' : Int → Int} (hr : Pm n r) (hr' : Pm n r') : En n r r' ∨ (rank n r < rank n r' ∧ tens r n < tens r' n) ∨ (rank n r' < rank n r ∧ tens r' n < tens r n) := by
  have F : ∀ k : Nat, k ≤ n → (∀ j : Nat, j < k → r (j : Int) = r' (j : Int)) ∨ ∃ i : Nat, i < k ∧ (∀ j : Nat, j < i → r (j : Int) = r' (j : Int)) ∧ r (i : Int) ≠ r' (i : Int) := by
    intro k
    induction k with
    | zero => intro _; exact Or.inl (fun j hj => by omega)
    | succ k ih =>
      intro hk
      rcases ih (by omega) with q | ⟨i, q0, q1, q2⟩
      · by_cases c : r (k : Int) = r' (k : Int)
        · refine Or.inl (fun j hj => ?_)
          by_cases cj : j = k
          · rw [cj]; exact c
          · exact q j (by omega)
        · exact Or.inr ⟨k, by omega, q, c⟩
      · exact Or.inr ⟨i, by omega, q1, q2⟩
  rcases F n (by omega) with q | ⟨i, q0, q1, q2⟩
  · refine Or.inl (fun i i0 i1 => ?_)
    have := q i.toNat (by omega)
    rw [show ((i.toNat : Nat) : Int) = i by omega] at this
    exact this
  · by_cases c : r (i : Int) < r' (i : Int)
    · have := lex_lt hn hr hr' q0 q1 c (n - (i + 1)) (by omega)
      rw [show i + 1 + (n - (i + 1)) = n by omega] at this
      exact Or.inr (Or.inl ⟨by unfold rank; omega, by omega⟩)
    · have := lex_lt hn hr' hr q0 (fun j hj => (q1 j hj).symm) (by omega) (n - (i + 1)) (by omega)
      rw [show i + 1 + (n - (i + 1)) = n by omega] at this
      exact Or.inr (Or.inr ⟨by unfold rank; omega, by omega⟩)
def fc : Nat → Int
  | 0 => 1
  | k + 1 => fc k * ((k : Int) + 1)
theorem fc_pos : ∀ k : Nat, 1 ≤ fc k
  | 0 => Int.le_refl 1
  | k + 1 => by
    have i := fc_pos k
    have m := Int.mul_le_mul i (show (1 : Int) ≤ (k : Int) + 1 by omega) (by omega) (by omega)
    show 1 ≤ fc k * ((k : Int) + 1)
    omega
theorem lrH_in {n : Nat} (hn : n ≤ 7) {r : Int → Int} (hr : Pm n r) : ∀ k : Nat, k ≤ n → 0 ≤ lrH n r k ∧ (lrH n r k + 1) * fc (n - k) ≤ fc n
  | 0, _ => ⟨Int.le_refl 0, by show (0 + 1) * fc (n - 0) ≤ fc n; rw [show n - 0 = n from rfl]; omega⟩
  | k + 1, hk => by
    obtain ⟨a, b⟩ := lrH_in hn hr k (by omega)
    have d := dgt_in hn hr (k := k) (by omega)
    have e : fc (n - k) = fc (n - (k + 1)) * ((n : Int) - (k : Int)) := by
      rw [show n - k = (n - (k + 1)) + 1 by omega]
      show fc (n - (k + 1)) * (((n - (k + 1) : Nat) : Int) + 1) = _
      rw [show (((n - (k + 1) : Nat) : Int) + 1) = (n : Int) - (k : Int) by omega]
    have p := fc_pos (n - (k + 1))
    have m0 := Int.mul_nonneg a (show 0 ≤ (n : Int) - (k : Int) by omega)
    refine ⟨by show 0 ≤ lrH n r k * ((n : Int) - (k : Int)) + dgt r k; omega, ?_⟩
    have up : lrH n r (k + 1) + 1 ≤ (lrH n r k + 1) * ((n : Int) - (k : Int)) := by
      show lrH n r k * ((n : Int) - (k : Int)) + dgt r k + 1 ≤ _
      rw [Int.add_mul, Int.one_mul]; omega
    have m := Int.mul_le_mul_of_nonneg_right up (show 0 ≤ fc (n - (k + 1)) by omega)
    rw [e, Int.mul_comm (fc (n - (k + 1))), ← Int.mul_assoc] at b
    omega
theorem fc_le {n : Nat} (hn : n ≤ 7) : fc n ≤ 5040 := by
  have : ∀ k : Fin 8, fc k.val ≤ 5040 := by decide
  exact this ⟨n, by omega⟩
theorem rank_in {n : Nat} (hn : n ≤ 7) {r : Int → Int} (hr : Pm n r) : 0 ≤ rank n r ∧ rank n r < 5040 := by
  obtain ⟨a, b⟩ := lrH_in hn hr n (by omega)
  have := fc_le hn
  rw [show n - n = 0 by omega] at b
  have e : fc 0 = 1 := rfl
  rw [e, Int.mul_one] at b
  unfold rank
  omega
theorem rank_Cd {n : Nat} (hn : n ≤ 7) : Cd n (rank n) := by
  refine ⟨fun r hr => rank_in hn hr, fun r r' hr hr' e => ?_, fun r r' e => lrH_eq n (fun j hj => e (j : Int) (by omega) (by omega))⟩
  rcases lex hn hr hr' with q | q | q
  · exact q
  · omega
  · omega
