/-! the table of LIES -/
def eI (κ : Int → Int) (a : Int) : Nat → Int → Int → Int
  | 0, _, x => x
  | d + 1, b, x => eI κ a d (b + 1) (x * 2 + κ a / p2 b % 2)
def eO (κ : Int → Int) (n : Int) : Nat → Int → Int → Int
  | 0, _, x => x
  | d + 1, a, x => eO κ n d (a + 1) (eI κ a (n - (a + 1)).toNat (a + 1) x)
def enc (n : Nat) (κ : Int → Int) : Int := eO κ n n 0 n
theorem eI_ge {κ : Int → Int} {a : Int} : ∀ (d : Nat) (b x : Int), 0 ≤ x → x ≤ eI κ a d b x
  | 0, _, _, _ => Int.le_refl _
  | d + 1, b, x, h => by
    have q := b01 (s := κ a) (k := b)
    have i := eI_ge (κ := κ) (a := a) d (b + 1) (x * 2 + κ a / p2 b % 2) (by omega)
    show x ≤ eI κ a d (b + 1) (x * 2 + κ a / p2 b % 2)
    omega
theorem eO_ge {κ : Int → Int} {n : Int} : ∀ (d : Nat) (a x : Int), 0 ≤ x → x ≤ eO κ n d a x
  | 0, _, _, _ => Int.le_refl _
  | d + 1, a, x, h => by
    have q := eI_ge (κ := κ) (a := a) (n - (a + 1)).toNat (a + 1) x h
    have i := eO_ge (κ := κ) (n := n) d (a + 1) (eI κ a (n - (a + 1)).toNat (a + 1) x) (by omega)
    show x ≤ eO κ n d (a + 1) (eI κ a (n - (a + 1)).toNat (a + 1) x)
    omega
theorem eI_mono {κ κ' : Int → Int} {a : Int} : ∀ (d : Nat) (b x x' : Int), (∀ b', b ≤ b' → b' < b + (d : Int) → κ a / p2 b' % 2 ≤ κ' a / p2 b' % 2) → x ≤ x' → eI κ a d b x ≤ eI κ' a d b x'
  | 0, _, _, _, _, h => h
  | d + 1, b, x, x', hb, h => by
    have q := hb b (by omega) (by omega)
    exact eI_mono d (b + 1) _ _ (fun b' q0 q1 => hb b' (by omega) (by omega)) (by omega)
theorem eO_mono {κ κ' : Int → Int} {n : Int} : ∀ (d : Nat) (a x x' : Int), (∀ a' b', a ≤ a' → a' < b' → b' < n → κ a' / p2 b' % 2 ≤ κ' a' / p2 b' % 2) → x ≤ x' → eO κ n d a x ≤ eO κ' n d a x'
  | 0, _, _, _, _, h => h
  | d + 1, a, x, x', hb, h => eO_mono d (a + 1) _ _ (fun a' b' q0 q1 q2 => hb a' b' (by omega) q1 q2) (eI_mono _ (a + 1) _ _ (fun b' q0 q1 => hb a b' (by omega) (by omega) (by omega)) h)
theorem eI_inj {κ κ' : Int → Int} {a : Int} : ∀ (d : Nat) (b x x' : Int), eI κ a d b x = eI κ' a d b x' → x = x' ∧ ∀ b', b ≤ b' → b' < b + (d : Int) → κ a / p2 b' % 2 = κ' a / p2 b' % 2
  | 0, _, _, _, h => ⟨h, fun b' q0 q1 => by omega⟩
  | d + 1, b, x, x', h => by
    obtain ⟨e, f⟩ := eI_inj d (b + 1) _ _ h
    have q := b01 (s := κ a) (k := b)
    have q' := b01 (s := κ' a) (k := b)
    refine ⟨by omega, fun b' q0 q1 => ?_⟩
    by_cases c : b' = b
    · rw [c]; omega
    · exact f b' (by omega) (by omega)
theorem eO_inj {κ κ' : Int → Int} {n : Int} : ∀ (d : Nat) (a x x' : Int), eO κ n d a x = eO κ' n d a x' → x = x' ∧ ∀ a' b', a ≤ a' → a' < a + (d : Int) → a' < b' → b' < n → κ a' / p2 b' % 2 = κ' a' / p2 b' % 2
  | 0, _, _, _, h => ⟨h, fun a' b' q0 q1 => by omega⟩
  | d + 1, a, x, x', h => by
    obtain ⟨e, f⟩ := eO_inj d (a + 1) _ _ h
    obtain ⟨e2, f2⟩ := eI_inj _ (a + 1) x x' e
    refine ⟨e2, fun a' b' q0 q1 q2 q3 => ?_⟩
    by_cases c : a' = a
    · subst c; exact f2 b' (by omega) (by omega)
    · exact f a' b' (by omega) (by omega) q2 q3
theorem p2_127 {b : Int} : (0 : Int) / p2 b % 2 = 0 := by rw [Int.zero_ediv]; rfl
theorem p2_1 : ∀ b : Fin 7, (127 : Int) / p2 (b.val : Int) % 2 = 1 := by decide
theorem enc_in {n : Nat} (hn : n ≤ 7) (κ : Int → Int) : enc n (fun _ => 0) ≤ enc n κ ∧ enc n κ ≤ enc n (fun _ => 127) := by
  refine ⟨eO_mono n 0 n n (fun a b q0 q1 q2 => ?_) (Int.le_refl _), eO_mono n 0 n n (fun a b q0 q1 q2 => ?_) (Int.le_refl _)⟩
  · rw [p2_127]; rcases b01 (s := κ a) (k := b) with z | z <;> omega
  · obtain ⟨j, hj⟩ := fin_of (n := 7) (x := b) (by omega) (by omega)
    have := p2_1 j
    rw [hj] at this
    rw [this]; rcases b01 (s := κ a) (k := b) with z | z <;> omega
theorem enc_lo : enc 2 (fun _ => 0) = 4 ∧ enc 2 (fun _ => 127) = 5 ∧ enc 3 (fun _ => 0) = 24 ∧ enc 3 (fun _ => 127) = 31 ∧ enc 4 (fun _ => 0) = 256 ∧ enc 4 (fun _ => 127) = 319 ∧ enc 5 (fun _ => 0) = 5120 ∧ enc 5 (fun _ => 127) = 6143 ∧ enc 6 (fun _ => 0) = 196608 ∧ enc 6 (fun _ => 127) = 229375 ∧ enc 7 (fun _ => 0) = 14680064 ∧ enc 7 (fun _ => 127) = 16777215 := by decide
theorem enc_rng {n : Nat} (h2 : 2 ≤ n) (h7 : n ≤ 7) (κ : Int → Int) : (n = 2 ∧ 4 ≤ enc n κ ∧ enc n κ ≤ 5) ∨ (n = 3 ∧ 24 ≤ enc n κ ∧ enc n κ ≤ 31) ∨ (n = 4 ∧ 256 ≤ enc n κ ∧ enc n κ ≤ 319) ∨ (n = 5 ∧ 5120 ≤ enc n κ ∧ enc n κ ≤ 6143) ∨ (n = 6 ∧ 196608 ≤ enc n κ ∧ enc n κ ≤ 229375) ∨ (n = 7 ∧ 14680064 ≤ enc n κ ∧ enc n κ ≤ 16777215) := by
  obtain ⟨a1, a2, a3, a4, a5, a6, a7, a8, a9, a10, a11, a12⟩ := enc_lo
  have e := enc_in h7 κ
  have : n = 2 ∨ n = 3 ∨ n = 4 ∨ n = 5 ∨ n = 6 ∨ n = 7 := by omega
  rcases this with c | c | c | c | c | c <;> subst c
  · rw [a1, a2] at e; omega
  · rw [a3, a4] at e; omega
  · rw [a5, a6] at e; omega
  · rw [a7, a8] at e; omega
  · rw [a9, a10] at e; omega
  · rw [a11, a12] at e; omega
theorem enc_inj {n n' : Nat} (h2 : 2 ≤ n) (h7 : n ≤ 7) (h2' : 2 ≤ n') (h7' : n' ≤ 7) {κ κ' : Int → Int} (h : enc n κ = enc n' κ') : n = n' ∧ ∀ a b, Kp κ n a b ↔ Kp κ' n a b := by
  have r := enc_rng h2 h7 κ
  have r' := enc_rng h2' h7' κ'
  have e : n = n' := by omega
  subst e
  refine ⟨rfl, fun a b => ?_⟩
  obtain ⟨-, f⟩ := eO_inj (κ := κ) (κ' := κ') (n := (n : Int)) n 0 n n h
  unfold Kp
  constructor
  · rintro ⟨q0, q1, q2, q3⟩; exact ⟨q0, q1, q2, by rw [← f a b q0 (by omega) q1 q2]; exact q3⟩
  · rintro ⟨q0, q1, q2, q3⟩; exact ⟨q0, q1, q2, by rw [f a b q0 (by omega) q1 q2]; exact q3⟩
theorem areKin_ok {N : Nat} {M : jMem} {κ : Int → Int} {a b : Int} (hk : ∀ i, 0 ≤ i → i < 7 → M 20 i = κ i ∧ 0 ≤ κ i ∧ κ i < 128) (ha : 0 ≤ a ∧ a < 7) (hb : 0 ≤ b ∧ b < 7) : Pa_areKin N 15 a b M = some (κ a / p2 b % 2) := by
  obtain ⟨e, k0, k1⟩ := hk a ha.1 ha.2
  unfold Pa_areKin
  rw [jchk_pos (by omega), show (15 + 5 : Int) = 20 by omega, e, shr_ok k0 k1 hb.1 hb.2]
  rcases b01 (s := κ a) (k := b) with z | z
  · rw [if_pos z, z]
  · rw [if_neg (by omega), z]
theorem bitsOf_ok {N : Nat} (hN : 1000 ≤ N) {M : jMem} {κ : Int → Int} {n : Nat} (h2 : 2 ≤ n) (h7 : n ≤ 7) (h0 : M 15 0 = (n : Int)) (hk : ∀ i, 0 ≤ i → i < 7 → M 20 i = κ i ∧ 0 ≤ κ i ∧ κ i < 128) : Li_bitsOf N M = some (enc n κ) := by
  have big : enc n κ ≤ 16777215 := by have := enc_rng h2 h7 κ; omega
  have inner : ∀ (a : Nat) (h : Int × Int → Option Int), a < n → ∀ (d b F : Nat) (x : Int), a < b → b + d = n → d < F → 0 ≤ x → eI κ (a : Int) d (b : Int) x ≤ 16777215 → jfix F (Li_bitsOf_L19 N M (a : Int) h) (x, (b : Int)) = h (eI κ (a : Int) d (b : Int) x, (a : Int) + 1) := by
    intro a h ha d
    induction d with
    | zero =>
      intro b F x ab bd hF hx _
      obtain ⟨m, rfl⟩ : ∃ m, F = m + 1 := ⟨F - 1, by omega⟩
      rw [jfix_s]
      unfold Li_bitsOf_L19
      dsimp only
      rw [h0, if_neg (by omega), w32_id (by omega)]
      rfl
    | succ d ih =>
      intro b F x ab bd hF hx hbig
      obtain ⟨m, rfl⟩ : ∃ m, F = m + 1 := ⟨F - 1, by omega⟩
      have q := b01 (s := κ (a : Int)) (k := (b : Int))
      have g := ih (b + 1) m (x * 2 + κ (a : Int) / p2 (b : Int) % 2) (by omega) (by omega) (by omega) (by omega) (by
        have e : eI κ (a : Int) (d + 1) (b : Int) x = eI κ (a : Int) d ((b : Int) + 1) (x * 2 + κ (a : Int) / p2 (b : Int) % 2) := rfl
        rw [e] at hbig
        rw [show ((b + 1 : Nat) : Int) = (b : Int) + 1 by omega]; exact hbig)
      have ge := eI_ge (κ := κ) (a := (a : Int)) (d + 1) (b : Int) x hx
      rw [jfix_s]
      generalize jfix m (Li_bitsOf_L19 N M (a : Int) h) = kk at g ⊢
      rw [show ((b + 1 : Nat) : Int) = (b : Int) + 1 by omega] at g
      unfold Li_bitsOf_L19 jlt
      dsimp only
      rw [h0, if_pos (show (b : Int) < (n : Int) by omega), areKin_ok hk (by omega) (by omega), Option.bind_some, w32_id (x := x * 2) (by omega), w32_id (x := (b : Int) + 1) (by omega)]
      rcases q with z | z
      · rw [z, Int.add_zero] at g
        rw [if_pos z, w32_id (by omega), Int.add_zero, g]
        show h (eI κ (a : Int) d ((b : Int) + 1) (x * 2), (a : Int) + 1) = h (eI κ (a : Int) d ((b : Int) + 1) (x * 2 + κ (a : Int) / p2 (b : Int) % 2), (a : Int) + 1)
        rw [z, Int.add_zero]
      · rw [z] at g
        rw [if_neg (show ¬ κ (a : Int) / p2 (b : Int) % 2 = 0 by omega), w32_id (by omega), g]
        show h (eI κ (a : Int) d ((b : Int) + 1) (x * 2 + 1), (a : Int) + 1) = h (eI κ (a : Int) d ((b : Int) + 1) (x * 2 + κ (a : Int) / p2 (b : Int) % 2), (a : Int) + 1)
        rw [z]
  have H : wp (Li_bitsOf N M) (fun v => v = enc n κ) := by
    unfold Li_bitsOf jlt
    rw [h0]
    refine wp_fix (fun t => (7 - t.2).toNat) (fun (t : Int × Int) => ∃ a : Nat, a ≤ n ∧ t.2 = (a : Int) ∧ 0 ≤ t.1 ∧ eO κ n (n - a) (a : Int) t.1 = enc n κ) ?_ N _ ⟨0, by omega, rfl, by dsimp only; omega, rfl⟩ (by dsimp only; omega)
    rintro h ⟨x, y⟩ ⟨a, a0, a1, a2, a3⟩ ih
    dsimp only at a1 a2 a3
    subst a1
    unfold Li_bitsOf_L7 jlt
    dsimp only
    rw [h0]
    by_cases c : (a : Int) < (n : Int)
    · obtain ⟨d, hd⟩ : ∃ d, n - a = d + 1 := ⟨n - a - 1, by omega⟩
      rw [hd] at a3
      have e : eO κ n (d + 1) (a : Int) x = eO κ n d ((a : Int) + 1) (eI κ (a : Int) ((n : Int) - ((a : Int) + 1)).toNat ((a : Int) + 1) x) := rfl
      rw [e, show ((n : Int) - ((a : Int) + 1)).toNat = d by omega] at a3
      have g0 := eI_ge (κ := κ) (a := (a : Int)) d ((a : Int) + 1) x a2
      have g1 := eO_ge (κ := κ) (n := (n : Int)) d ((a : Int) + 1) (eI κ (a : Int) d ((a : Int) + 1) x) (by omega)
      have g := inner a h (by omega) d (a + 1) N x (by omega) (by omega) (by omega) a2 (by rw [show ((a + 1 : Nat) : Int) = (a : Int) + 1 by omega]; omega)
      rw [show ((a + 1 : Nat) : Int) = (a : Int) + 1 by omega] at g
      rw [if_pos c, w32_id (by omega), g]
      exact ih _ ⟨a + 1, by omega, by dsimp only; omega, by dsimp only; omega, by dsimp only; rw [show n - (a + 1) = d by omega, show ((a + 1 : Nat) : Int) = (a : Int) + 1 by omega]; exact a3⟩ (by dsimp only; omega)
    · rw [if_neg c]
      rw [show n - a = 0 by omega] at a3
      exact wp_some a3
  obtain ⟨v, e, q⟩ := H
  rw [e, q]
theorem Wd_congr {κ κ' : Int → Int} {n : Int} {g : Int → Int} (h : ∀ a b, Kp κ n a b ↔ Kp κ' n a b) : ∀ (k : Nat) {r : Int → Int}, Wd κ n g k r → Wd κ' n g k r
  | 0, _, w => w
  | k + 1, r, w => by
    obtain ⟨a, b, kp, w'⟩ := w
    exact ⟨a, b, (h a b).mp kp, Wd_congr h k w'⟩
theorem BI_congr {κ κ' : Int → Int} {n s i : Int} {g : Int → Int} {code : (Int → Int) → Int} {F Q : Int → Int} {D : Int → Int → Prop} (hk : ∀ a b, Kp κ n a b ↔ Kp κ' n a b) (h : BI κ n g code F Q s i D) : BI κ' n g code F Q s i D := by
  obtain ⟨ρ, h1, h2, h3, h4, h5, h6, h7, h8, h9⟩ := h
  refine ⟨ρ, h1, fun j j0 j1 => ?_, h3, h4, h5, h6, fun j j0 j1 j2 a b kp q => h7 j j0 j1 j2 a b ((hk a b).mpr kp) q, h8, h9⟩
  obtain ⟨a1, a2, a3, a4⟩ := h2 j j0 j1
  exact ⟨a1, a2, a3, Wd_congr hk _ a4⟩
theorem id_Pm {n : Int} : Pm n (fun i => i) := ⟨fun i i0 i1 => ⟨i0, i1⟩, fun i j _ _ _ _ e => e⟩
theorem rank_id {n : Nat} (hn : n ≤ 7) : rank n (fun i => i) = 0 := by
  have d : ∀ k : Nat, k < n → dgt (fun i => i) k = 0 := fun k hk => by
    rw [dgt_cq hn id_Pm hk]
    have : ∀ m : Nat, m ≤ k → cq (fun j => lt1 (j : Int) (k : Int)) m = (m : Int) := by
      intro m; induction m with
      | zero => intro _; rfl
      | succ m ih =>
        intro h
        show cq (fun j => lt1 (j : Int) (k : Int)) m + lt1 (m : Int) (k : Int) = _
        rw [ih (by omega)]; unfold lt1; rw [if_pos (by omega)]; omega
    have e := this k (by omega)
    show (k : Int) - cq (fun j => lt1 (j : Int) (k : Int)) k = 0
    omega
  have : ∀ k : Nat, k ≤ n → lrH n (fun i => i) k = 0 := by
    intro k; induction k with
    | zero => intro _; rfl
    | succ k ih =>
      intro h
      show lrH n (fun i => i) k * ((n : Int) - (k : Int)) + dgt (fun i => i) k = 0
      rw [ih (by omega), d k (by omega), Int.zero_mul]; rfl
  exact this n (by omega)
