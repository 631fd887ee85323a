/-! sums over a range -/
theorem cq_upd {f : Nat → Int} {k : Nat} {v : Int} : ∀ n : Nat, cq (fun j => if j = k then v else f j) n = cq f n + if k < n then v - f k else 0
  | 0 => by rw [if_neg (by omega)]; rfl
  | n + 1 => by
    have i := cq_upd (f := f) (k := k) (v := v) n
    show cq (fun j => if j = k then v else f j) n + (if n = k then v else f n) = cq f n + f n + _
    by_cases c : n = k
    · subst c
      rw [if_neg (by omega)] at i
      rw [if_pos rfl, if_pos (by omega), i]; omega
    · rw [if_neg c, i]
      by_cases d : k < n
      · rw [if_pos d, if_pos (by omega)]; omega
      · rw [if_neg d, if_neg (by omega)]; omega
theorem cq_le {f : Nat → Int} (h : ∀ j, 0 ≤ f j ∧ f j ≤ 1) (n : Nat) : 0 ≤ cq f n ∧ cq f n ≤ (n : Int) := by
  have := cq_mono h 0 n
  rw [show 0 + n = n by omega] at this
  have z : cq f 0 = 0 := rfl
  omega
theorem cq_full {f : Nat → Int} (h : ∀ j, 0 ≤ f j ∧ f j ≤ 1) {k : Nat} : ∀ n : Nat, cq f n = (n : Int) → k < n → f k = 1
  | 0 => fun _ hk => by omega
  | n + 1 => fun e hk => by
    have a := cq_le h n
    have b := h n
    have e' : cq f n + f n = ((n + 1 : Nat) : Int) := e
    by_cases c : k = n
    · subst c; omega
    · exact cq_full h n (by omega) (by omega)
theorem cq_pos {f : Nat → Int} (h : ∀ j, 0 ≤ f j ∧ f j ≤ 1) : ∀ n : Nat, 1 ≤ cq f n → ∃ k, k < n ∧ f k = 1
  | 0 => fun e => by have z : cq f 0 = 0 := rfl; omega
  | n + 1 => fun e => by
    have b := h n
    have e' : 1 ≤ cq f n + f n := e
    by_cases c : f n = 1
    · exact ⟨n, by omega, c⟩
    · obtain ⟨k, k0, k1⟩ := cq_pos h n (by omega)
      exact ⟨k, by omega, k1⟩
/-- a sum stands when its places are changed about -/
theorem cq_inj : ∀ (m : Nat) (f : Nat → Int) (π : Nat → Nat), (∀ i, i < m → π i < m) → (∀ i j, i < m → j < m → π i = π j → i = j) → cq (fun i => f (π i)) m = cq f m
  | 0 => fun _ _ _ _ => rfl
  | m + 1 => fun f π h1 h2 => by
    have pm := h1 m (by omega)
    show cq (fun i => f (π i)) m + f (π m) = cq f m + f m
    by_cases c : π m = m
    · rw [cq_inj m f π (fun i hi => by
        have a := h1 i (by omega)
        have b : π i ≠ m := fun z => by have := h2 i m (by omega) (by omega) (by omega); omega
        omega) (fun i j hi hj => h2 i j (by omega) (by omega)), c]
    · have ex : ∃ j, j < m ∧ π j = m := by
        refine Classical.byContradiction (fun hh => ?_)
        have a : ∀ i, i < m → π i < m := fun i hi => by
          have a := h1 i (by omega)
          have b : π i ≠ m := fun z => hh ⟨i, hi, z⟩
          omega
        have e := cq_inj m (fun i => if i = π m then 1 else 0) π a (fun i j hi hj => h2 i j (by omega) (by omega))
        have z : cq (fun i => if i = π m then (1 : Int) else 0) m = 1 := by
          have u := cq_upd (f := fun _ => (0 : Int)) (k := π m) (v := 1) m
          rw [cq_zero m (fun _ _ => rfl), if_pos (by omega)] at u
          rw [u]; rfl
        have y : cq (fun i => if π i = π m then (1 : Int) else 0) m = 0 := cq_zero m (fun j hj => if_neg (fun z => by have := h2 j m (by omega) (by omega) z; omega))
        rw [z] at e
        rw [y] at e
        omega
      obtain ⟨j, j0, j1⟩ := ex
      have ih := cq_inj m f (fun i => if i = j then π m else π i) (fun i hi => by
        by_cases ci : i = j
        · rw [if_pos ci]; omega
        · rw [if_neg ci]
          have a := h1 i (by omega)
          have b : π i ≠ m := fun z => ci (h2 i j (by omega) (by omega) (by omega))
          omega) (fun i k hi hk e => by
        by_cases ci : i = j
        · by_cases ck : k = j
          · omega
          · rw [if_pos ci, if_neg ck] at e
            have := h2 m k (by omega) (by omega) e; omega
        · by_cases ck : k = j
          · rw [if_neg ci, if_pos ck] at e
            have := h2 i m (by omega) (by omega) e; omega
          · rw [if_neg ci, if_neg ck] at e
            exact h2 i k (by omega) (by omega) e)
      have e1 : cq (fun i => f (if i = j then π m else π i)) m = cq (fun i => if i = j then f (π m) else f (π i)) m := cq_eq m (fun i hi => by
        by_cases ci : i = j
        · rw [if_pos ci, if_pos ci]
        · rw [if_neg ci, if_neg ci])
      have e2 := cq_upd (f := fun i => f (π i)) (k := j) (v := f (π m)) m
      rw [if_pos j0] at e2
      rw [j1] at e2
      rw [e1, e2] at ih
      omega
theorem surj_of {m : Nat} {π : Nat → Nat} (h1 : ∀ i, i < m → π i < m) (h2 : ∀ i j, i < m → j < m → π i = π j → i = j) {k : Nat} (hk : k < m) : ∃ i, i < m ∧ π i = k := by
  have e := cq_inj m (fun i => if i = k then 1 else 0) π h1 h2
  have z : cq (fun i => if i = k then (1 : Int) else 0) m = 1 := by
    have u := cq_upd (f := fun _ => (0 : Int)) (k := k) (v := 1) m
    rw [cq_zero m (fun _ _ => rfl), if_pos hk] at u
    rw [u]; rfl
  rw [z] at e
  obtain ⟨i, i0, i1⟩ := cq_pos (f := fun i => if π i = k then (1 : Int) else 0) (fun j => by
    by_cases c : π j = k
    · rw [if_pos c]; omega
    · rw [if_neg c]; omega) m (by omega)
  refine ⟨i, i0, ?_⟩
  by_cases c : π i = k
  · exact c
  · rw [if_neg c] at i1; omega
/-! rows of WELLS, and WEDDINGS -/
def En (n : Int) (r r' : Int → Int) : Prop := ∀ i, 0 ≤ i → i < n → r i = r' i
def Pm (n : Int) (r : Int → Int) : Prop := (∀ i, 0 ≤ i → i < n → 0 ≤ r i ∧ r i < n) ∧ (∀ i j, 0 ≤ i → i < n → 0 ≤ j → j < n → r i = r j → i = j)
def sw (r : Int → Int) (a b : Int) : Int → Int := fun i => if i = a then r b else if i = b then r a else r i
def Kp (κ : Int → Int) (n a b : Int) : Prop := 0 ≤ a ∧ a < b ∧ b < n ∧ κ a / p2 b % 2 = 1
def Wd (κ : Int → Int) (n : Int) (g : Int → Int) : Nat → (Int → Int) → Prop
  | 0, r => En n r g
  | k + 1, r => ∃ a b, Kp κ n a b ∧ Wd κ n g k (sw r a b)
theorem sw_a {r : Int → Int} {a b : Int} : sw r a b a = r b := if_pos rfl
theorem sw_b {r : Int → Int} {a b : Int} (h : a ≠ b) : sw r a b b = r a := by unfold sw; rw [if_neg (fun z => h z.symm), if_pos rfl]
theorem sw_n {r : Int → Int} {a b i : Int} (h1 : i ≠ a) (h2 : i ≠ b) : sw r a b i = r i := by unfold sw; rw [if_neg h1, if_neg h2]
theorem sw_En {n a b : Int} {r r' : Int → Int} (h : En n r r') (ha : 0 ≤ a ∧ a < n) (hb : 0 ≤ b ∧ b < n) : En n (sw r a b) (sw r' a b) := fun i i0 i1 => by
  unfold sw
  rw [h b hb.1 hb.2, h a ha.1 ha.2, h i i0 i1]
theorem sw_sw {a b : Int} {r : Int → Int} (h : a ≠ b) (i : Int) : sw (sw r a b) a b i = r i := by
  by_cases c : i = a
  · subst c; rw [sw_a, sw_b h]
  · by_cases d : i = b
    · subst d; rw [sw_b h, sw_a]
    · rw [sw_n c d, sw_n c d]
theorem sw_Pm {n a b : Int} {r : Int → Int} (h : Pm n r) (ha : 0 ≤ a ∧ a < n) (hb : 0 ≤ b ∧ b < n) (hab : a ≠ b) : Pm n (sw r a b) := by
  have ix : ∀ i, 0 ≤ i → i < n → ∃ j, 0 ≤ j ∧ j < n ∧ sw r a b i = r j ∧ ((i = a ∧ j = b) ∨ (i = b ∧ j = a) ∨ (i ≠ a ∧ i ≠ b ∧ j = i)) := fun i i0 i1 => by
    by_cases c : i = a
    · subst c; exact ⟨b, hb.1, hb.2, sw_a, by omega⟩
    · by_cases d : i = b
      · subst d; exact ⟨a, ha.1, ha.2, sw_b hab, by omega⟩
      · exact ⟨i, i0, i1, sw_n c d, by omega⟩
  refine ⟨fun i i0 i1 => ?_, fun i j i0 i1 j0 j1 e => ?_⟩
  · obtain ⟨k, k0, k1, k2, -⟩ := ix i i0 i1
    rw [k2]; exact h.1 k k0 k1
  · obtain ⟨k, k0, k1, k2, k3⟩ := ix i i0 i1
    obtain ⟨l, l0, l1, l2, l3⟩ := ix j j0 j1
    rw [k2, l2] at e
    have := h.2 k l k0 k1 l0 l1 e
    omega
theorem Pm_En {n : Int} {r r' : Int → Int} (h : Pm n r) (e : En n r r') : Pm n r' :=
  ⟨fun i i0 i1 => by rw [← e i i0 i1]; exact h.1 i i0 i1, fun i j i0 i1 j0 j1 q => by rw [← e i i0 i1, ← e j j0 j1] at q; exact h.2 i j i0 i1 j0 j1 q⟩
theorem Wd_En {κ : Int → Int} {n : Int} {g : Int → Int} : ∀ (k : Nat) {r r' : Int → Int}, Wd κ n g k r → En n r r' → Wd κ n g k r'
  | 0, r, r', h, e => fun i i0 i1 => by rw [← e i i0 i1]; exact h i i0 i1
  | k + 1, r, r', h, e => by
    obtain ⟨a, b, kp, w⟩ := h
    exact ⟨a, b, kp, Wd_En k w (sw_En e ⟨kp.1, by have := kp.2; omega⟩ ⟨by have := kp.1; have := kp.2; omega, kp.2.2.1⟩)⟩
theorem Wd_step {κ : Int → Int} {n a b : Int} {g r : Int → Int} {k : Nat} (h : Wd κ n g k r) (kp : Kp κ n a b) : Wd κ n g (k + 1) (sw r a b) :=
  ⟨a, b, kp, Wd_En k h (fun i _ _ => (sw_sw (by have := kp.2.1; omega) i).symm)⟩
theorem Wd_Pm {κ : Int → Int} {n : Int} {g : Int → Int} (hg : Pm n g) : ∀ (k : Nat) {r : Int → Int}, Wd κ n g k r → Pm n r
  | 0, r, h => Pm_En hg (fun i i0 i1 => (h i i0 i1).symm)
  | k + 1, r, h => by
    obtain ⟨a, b, kp, w⟩ := h
    have p := Wd_Pm hg k w
    obtain ⟨k0, k1, k2, -⟩ := kp
    exact Pm_En (sw_Pm p (a := a) (b := b) ⟨k0, by omega⟩ ⟨by omega, k2⟩ (by omega)) (fun i _ _ => sw_sw (by omega) i)
theorem Wd_to {κ : Int → Int} {n : Int} {g : Int → Int} : ∀ (k : Nat) {ρ : Int → Int}, Wd κ n (fun i => i) k ρ → Wd κ n g k (fun i => g (ρ i))
  | 0, ρ, h => fun i i0 i1 => by dsimp only; rw [h i i0 i1]
  | k + 1, ρ, h => by
    obtain ⟨a, b, kp, w⟩ := h
    refine ⟨a, b, kp, Wd_En k (Wd_to k w) (fun i _ _ => ?_)⟩
    unfold sw
    by_cases c : i = a
    · rw [if_pos c, if_pos c]
    · rw [if_neg c, if_neg c]
      by_cases d : i = b
      · rw [if_pos d, if_pos d]
      · rw [if_neg d, if_neg d]
theorem Wd_from {κ : Int → Int} {n : Int} {g : Int → Int} (hg : Pm n g) : ∀ (k : Nat) {ρ : Int → Int}, Pm n ρ → Wd κ n g k (fun i => g (ρ i)) → Wd κ n (fun i => i) k ρ
  | 0, ρ, hp, h => fun i i0 i1 => hg.2 (ρ i) i (hp.1 i i0 i1).1 (hp.1 i i0 i1).2 i0 i1 (h i i0 i1)
  | k + 1, ρ, hp, h => by
    obtain ⟨a, b, kp, w⟩ := h
    have kp' := kp
    obtain ⟨k0, k1, k2, -⟩ := kp'
    refine ⟨a, b, kp, Wd_from hg k (sw_Pm hp ⟨k0, by omega⟩ ⟨by omega, k2⟩ (by omega)) (Wd_En k w (fun i _ _ => ?_))⟩
    unfold sw
    by_cases c : i = a
    · rw [if_pos c, if_pos c]
    · rw [if_neg c, if_neg c]
      by_cases d : i = b
      · rw [if_pos d, if_pos d]
      · rw [if_neg d, if_neg d]
def swV (r : Int → Int) (a b : Int) : Int → Int := fun i => if r i = a then b else if r i = b then a else r i
theorem Wd_vals {κ : Int → Int} {n a b : Int} (kp : Kp κ n a b) : ∀ (k : Nat) {ρ : Int → Int}, Wd κ n (fun i => i) k ρ → Wd κ n (fun i => i) (k + 1) (swV ρ a b)
  | 0, ρ, h => by
    refine ⟨a, b, kp, fun i i0 i1 => ?_⟩
    obtain ⟨k0, k1, k2, -⟩ := kp
    have ha := h a k0 (by omega)
    have hb := h b (by omega) k2
    have hi := h i i0 i1
    dsimp only at ha hb hi
    by_cases c : i = a
    · subst c; rw [sw_a]; unfold swV; rw [hb, if_neg (by omega), if_pos rfl]
    · by_cases d : i = b
      · subst d; rw [sw_b (by omega)]; unfold swV; rw [ha, if_pos rfl]
      · rw [sw_n c d]; unfold swV; rw [hi, if_neg c, if_neg d]
  | k + 1, ρ, h => by
    obtain ⟨c, d, kq, w⟩ := h
    refine ⟨c, d, kq, Wd_En (k + 1) (Wd_vals kp k w) (fun i _ _ => ?_)⟩
    unfold swV sw
    by_cases e : i = c
    · simp only [if_pos e]
    · simp only [if_neg e]
      by_cases f : i = d
      · simp only [if_pos f]
      · simp only [if_neg f]
theorem Wd_inv {κ : Int → Int} {n : Int} : ∀ (k : Nat) {ρ σ : Int → Int}, Pm n ρ → (∀ i, 0 ≤ i → i < n → (0 ≤ σ i ∧ σ i < n) ∧ ρ (σ i) = i) → Wd κ n (fun i => i) k ρ → Wd κ n (fun i => i) k σ
  | 0, ρ, σ, hp, hi, h => fun i i0 i1 => by
    obtain ⟨q, e⟩ := hi i i0 i1
    have := h (σ i) q.1 q.2
    dsimp only at this ⊢
    omega
  | k + 1, ρ, σ, hp, hi, h => by
    obtain ⟨a, b, kp, w⟩ := h
    have kp' := kp
    obtain ⟨k0, k1, k2, -⟩ := kp'
    have w2 := Wd_inv k (σ := swV σ a b) (sw_Pm hp (a := a) (b := b) ⟨k0, by omega⟩ ⟨by omega, k2⟩ (by omega)) (fun i i0 i1 => by
      obtain ⟨q, e⟩ := hi i i0 i1
      unfold swV
      by_cases c : σ i = a
      · rw [if_pos c]; refine ⟨⟨by omega, k2⟩, ?_⟩; rw [sw_b (by omega), ← c]; exact e
      · rw [if_neg c]
        by_cases d : σ i = b
        · rw [if_pos d]; refine ⟨⟨k0, by omega⟩, ?_⟩; rw [sw_a, ← d]; exact e
        · rw [if_neg d]; refine ⟨q, ?_⟩; rw [sw_n c d]; exact e) w
    refine Wd_En (k + 1) (Wd_vals kp k w2) (fun i i0 i1 => ?_)
    unfold swV
    by_cases c : σ i = a
    · rw [if_pos c, if_neg (by omega), if_pos rfl, c]
    · rw [if_neg c]
      by_cases d : σ i = b
      · rw [if_pos d, if_pos rfl, d]
      · rw [if_neg d, if_neg c, if_neg d]
