/-! no LIE that can be reached is farther than 77 WEDDINGS -/
def e1 (κ : Int → Int) (n v w : Int) : Int := if 0 ≤ v ∧ v < n ∧ 0 ≤ w ∧ w < n ∧ ((v < w ∧ κ v / p2 w % 2 = 1) ∨ (w < v ∧ κ w / p2 v % 2 = 1)) then 1 else 0
def nbr (κ : Int → Int) (n v : Int) : Int := 1 * e1 κ n v 0 + 2 * e1 κ n v 1 + 4 * e1 κ n v 2 + 8 * e1 κ n v 3 + 16 * e1 κ n v 4 + 32 * e1 κ n v 5 + 64 * e1 κ n v 6
theorem e1_in {κ : Int → Int} {n v w : Int} : 0 ≤ e1 κ n v w ∧ e1 κ n v w ≤ 1 := by
  unfold e1
  by_cases c : 0 ≤ v ∧ v < n ∧ 0 ≤ w ∧ w < n ∧ ((v < w ∧ κ v / p2 w % 2 = 1) ∨ (w < v ∧ κ w / p2 v % 2 = 1))
  · rw [if_pos c]; omega
  · rw [if_neg c]; omega
theorem e1_iff {κ : Int → Int} {n v w : Int} : e1 κ n v w = 1 ↔ (Kp κ n v w ∨ Kp κ n w v) := by
  unfold e1 Kp
  by_cases c : 0 ≤ v ∧ v < n ∧ 0 ≤ w ∧ w < n ∧ ((v < w ∧ κ v / p2 w % 2 = 1) ∨ (w < v ∧ κ w / p2 v % 2 = 1))
  · rw [if_pos c]
    refine ⟨fun _ => ?_, fun _ => rfl⟩
    obtain ⟨a, b, d, e, f | f⟩ := c
    · exact Or.inl ⟨a, f.1, e, f.2⟩
    · exact Or.inr ⟨d, f.1, b, f.2⟩
  · rw [if_neg c]
    refine ⟨fun z => by omega, fun z => absurd ?_ c⟩
    rcases z with ⟨z1, z2, z3, z4⟩ | ⟨z1, z2, z3, z4⟩
    · exact ⟨z1, by omega, by omega, z3, Or.inl ⟨z2, z4⟩⟩
    · exact ⟨by omega, z3, z1, by omega, Or.inr ⟨z2, z4⟩⟩
theorem nbr_in {κ : Int → Int} {n v : Int} : 0 ≤ nbr κ n v ∧ nbr κ n v < 128 := by
  have a0 := e1_in (κ := κ) (n := n) (v := v) (w := 0)
  have a1 := e1_in (κ := κ) (n := n) (v := v) (w := 1)
  have a2 := e1_in (κ := κ) (n := n) (v := v) (w := 2)
  have a3 := e1_in (κ := κ) (n := n) (v := v) (w := 3)
  have a4 := e1_in (κ := κ) (n := n) (v := v) (w := 4)
  have a5 := e1_in (κ := κ) (n := n) (v := v) (w := 5)
  have a6 := e1_in (κ := κ) (n := n) (v := v) (w := 6)
  unfold nbr
  omega
theorem nbr_bit {κ : Int → Int} {n v w : Int} (h0 : 0 ≤ w) (h1 : w < 7) : nbr κ n v / p2 w % 2 = 1 ↔ (Kp κ n v w ∨ Kp κ n w v) := by
  rw [← e1_iff]
  unfold nbr
  obtain ⟨b0, b1, b2, b3, b4, b5, b6⟩ := bx7 (e1_in (κ := κ) (n := n) (v := v) (w := 0)) (e1_in (κ := κ) (n := n) (v := v) (w := 1)) (e1_in (κ := κ) (n := n) (v := v) (w := 2)) (e1_in (κ := κ) (n := n) (v := v) (w := 3)) (e1_in (κ := κ) (n := n) (v := v) (w := 4)) (e1_in (κ := κ) (n := n) (v := v) (w := 5)) (e1_in (κ := κ) (n := n) (v := v) (w := 6))
  rcases k7 h0 h1 with c | c | c | c | c | c | c <;> subst c
  · rw [show p2 0 = 1 from rfl, b0]
  · rw [show p2 1 = 2 from rfl, b1]
  · rw [show p2 2 = 4 from rfl, b2]
  · rw [show p2 3 = 8 from rfl, b3]
  · rw [show p2 4 = 16 from rfl, b4]
  · rw [show p2 5 = 32 from rfl, b5]
  · rw [show p2 6 = 64 from rfl, b6]
/-- v is k steps or less from u -/
def Cn (κ : Int → Int) (n : Int) : Nat → Int → Int → Prop
  | 0, u, v => u = v
  | k + 1, u, v => Cn κ n k u v ∨ ∃ i, Cn κ n k u i ∧ (Kp κ n i v ∨ Kp κ n v i)
theorem Cn_bit {κ : Int → Int} {n : Nat} (hn : n ≤ 7) {u : Int} (hu : 0 ≤ u ∧ u < (n : Int)) : ∀ (k : Nat) (v : Int), 0 ≤ v → v < 7 → (Cn κ n k u v ↔ stS (nbr κ n) n (p2 u) k / p2 v % 2 = 1)
  | 0, v, v0, v1 => by
    show u = v ↔ p2 u / p2 v % 2 = 1
    rw [p2_bit (by omega) (by omega) v0 v1]; omega
  | k + 1, v, v0, v1 => by
    have hp := p2_in (k := u) (by omega) (by omega)
    show (Cn κ n k u v ∨ ∃ i, Cn κ n k u i ∧ (Kp κ n i v ∨ Kp κ n v i)) ↔ stK (nbr κ n) (stS (nbr κ n) n (p2 u) k) n / p2 v % 2 = 1
    rw [(stK_bits (kin := nbr κ n) (fun i _ _ => nbr_in) (stS_in (kin := nbr κ n) (fun i _ _ => nbr_in) hn (by omega) k) n hn).2 v v0 v1, Cn_bit hn hu k v v0 v1]
    constructor
    · rintro (q | ⟨i, q1, q2⟩)
      · exact Or.inl q
      · have hi : 0 ≤ i ∧ i < (n : Int) := by
          rcases q2 with z | z
          · exact ⟨z.1, by have := z.2.1; have := z.2.2.1; omega⟩
          · exact ⟨by have := z.1; have := z.2.1; omega, z.2.2.1⟩
        refine Or.inr ⟨i.toNat, by omega, ?_, ?_⟩
        · rw [show ((i.toNat : Nat) : Int) = i by omega]; exact (Cn_bit hn hu k i hi.1 (by omega)).mp q1
        · rw [show ((i.toNat : Nat) : Int) = i by omega]; exact (nbr_bit v0 v1).mpr q2
    · rintro (q | ⟨i, q0, q1, q2⟩)
      · exact Or.inl q
      · exact Or.inr ⟨(i : Int), (Cn_bit hn hu k (i : Int) (by omega) (by omega)).mpr q1, (nbr_bit v0 v1).mp q2⟩
theorem Cn_short {κ : Int → Int} {n : Nat} (hn : n ≤ 7) {u v : Int} (hu : 0 ≤ u ∧ u < (n : Int)) (hv : 0 ≤ v ∧ v < (n : Int)) {k : Nat} (h : Cn κ n k u v) : Cn κ n 6 u v := by
  have mono : ∀ d j : Nat, Cn κ n j u v → Cn κ n (j + d) u v := by
    intro d
    induction d with
    | zero => intro j q; exact q
    | succ d ih => intro j q; exact Or.inl (ih j q)
  have hp := p2_in (k := u) (by omega) (by omega)
  have : ∃ j : Nat, j < n ∧ Cn κ n j u v := by
    refine Classical.byContradiction (fun hh => ?_)
    have st := stS_stop (kin := nbr κ n) (fun i _ _ => nbr_in) hn (s := p2 u) (by omega) (a := v.toNat) (by omega) (by
      have := cnt_p2 (f := u.toNat) (n := n) (by omega) hn
      rw [show ((u.toNat : Nat) : Int) = u by omega] at this; exact this) (fun j hj => by
      rw [show ((v.toNat : Nat) : Int) = v by omega]
      rcases b01 (s := stS (nbr κ n) n (p2 u) j) (k := v) with z | z
      · exact z
      · exact absurd ⟨j, hj, (Cn_bit hn hu j v hv.1 (by omega)).mpr z⟩ hh) k
    rw [show ((v.toNat : Nat) : Int) = v by omega] at st
    have := (Cn_bit hn hu k v hv.1 (by omega)).mp h
    omega
  obtain ⟨j, j0, j1⟩ := this
  have := mono (6 - j) j j1
  rw [show j + (6 - j) = 6 by omega] at this
  exact this
theorem Cn_swap {κ : Int → Int} {n : Int} {g : Int → Int} {u : Int} : ∀ (k : Nat) (v : Int), Cn κ n k u v → u ≠ v → ∀ (r : Int → Int) (m : Nat), Wd κ n g m r → ∃ m', m' + 1 ≤ m + 2 * k ∧ Wd κ n g m' (sw r u v)
  | 0, v, h, huv, r, m, w => absurd h huv
  | k + 1, v, h, huv, r, m, w => by
    rcases h with h | ⟨i, h1, h2⟩
    · obtain ⟨m', q1, q2⟩ := Cn_swap k v h huv r m w
      exact ⟨m', by omega, q2⟩
    · have one : ∀ (r : Int → Int) (m : Nat), Wd κ n g m r → Wd κ n g (m + 1) (sw r i v) := fun r m w => by
        rcases h2 with z | z
        · exact Wd_step w z
        · refine Wd_En (m + 1) (Wd_step w z) (fun j _ _ => ?_)
          have hz := z.2.1
          unfold sw
          by_cases c : j = i
          · by_cases d : j = v
            · omega
            · rw [if_neg d, if_pos c, if_pos c]
          · by_cases d : j = v
            · rw [if_pos d, if_neg c, if_pos d]
            · rw [if_neg d, if_neg c, if_neg c, if_neg d]
      have hiv : i ≠ v := by
        rcases h2 with z | z
        · have := z.2.1; omega
        · have := z.2.1; omega
      by_cases c : i = u
      · subst c; exact ⟨m + 1, by omega, one r m w⟩
      · obtain ⟨m', q1, q2⟩ := Cn_swap k i h1 (fun z => c z.symm) (sw r i v) (m + 1) (one r m w)
        refine ⟨m' + 1, by omega, Wd_En (m' + 1) (one _ _ q2) (fun j _ _ => ?_)⟩
        by_cases ju : j = u
        · subst ju
          rw [sw_n (by omega) (by omega), sw_a, sw_a, sw_a]
        · by_cases ji : j = i
          · subst ji
            rw [sw_a, sw_n (by omega) (by omega), sw_b hiv, sw_n ju (by omega)]
          · by_cases jv : j = v
            · subst jv
              rw [sw_b hiv, sw_b (by omega), sw_n (by omega) (by omega), sw_b huv]
            · rw [sw_n ji jv, sw_n ju ji, sw_n ji jv, sw_n ju jv]
theorem Cn_trans {κ : Int → Int} {n u v : Int} : ∀ (m : Nat) (w : Int) {k : Nat}, Cn κ n k u v → Cn κ n m v w → Cn κ n (k + m) u w
  | 0, w, k, h, e => by subst e; exact h
  | m + 1, w, k, h, q => by
    rcases q with q | ⟨i, q1, q2⟩
    · exact Or.inl (Cn_trans m w h q)
    · exact Or.inr ⟨i, Cn_trans m i h q1, q2⟩
theorem Cn_edge {κ : Int → Int} {n u v : Int} (h : Kp κ n u v ∨ Kp κ n v u) : Cn κ n 1 u v := Or.inr ⟨u, rfl, h⟩
theorem Wd_comp {κ : Int → Int} {n : Int} {g : Int → Int} : ∀ (k : Nat) {r : Int → Int}, Wd κ n g k r → ∀ i, 0 ≤ i → i < n → ∃ m j, 0 ≤ j ∧ j < n ∧ Cn κ n m i j ∧ r i = g j
  | 0, r, h, i, i0, i1 => ⟨0, i, i0, i1, rfl, h i i0 i1⟩
  | k + 1, r, h, i, i0, i1 => by
    obtain ⟨a, b, kp, w⟩ := h
    have kp' := kp
    obtain ⟨k0, k1, k2, -⟩ := kp'
    have ih := Wd_comp k w
    by_cases c : i = a
    · subst c
      obtain ⟨m, j, j0, j1, j2, j3⟩ := ih b (by omega) k2
      rw [sw_b (by omega)] at j3
      exact ⟨1 + m, j, j0, j1, Cn_trans m j (Cn_edge (Or.inl kp)) j2, j3⟩
    · by_cases d : i = b
      · subst d
        obtain ⟨m, j, j0, j1, j2, j3⟩ := ih a k0 (by omega)
        rw [sw_a] at j3
        exact ⟨1 + m, j, j0, j1, Cn_trans m j (Cn_edge (Or.inr kp)) j2, j3⟩
      · obtain ⟨m, j, j0, j1, j2, j3⟩ := ih i i0 i1
        rw [sw_n c d] at j3
        exact ⟨m, j, j0, j1, j2, j3⟩
theorem Pm_surj {n : Int} {r : Int → Int} (h : Pm n r) {v : Int} (hv : 0 ≤ v ∧ v < n) : ∃ i, 0 ≤ i ∧ i < n ∧ r i = v := by
  obtain ⟨i, i0, i1⟩ := surj_of (m := n.toNat) (π := fun i => (r (i : Int)).toNat) (fun i hi => by
    have := h.1 (i : Int) (by omega) (by omega)
    omega) (fun i j hi hj e => by
    have a := h.1 (i : Int) (by omega) (by omega)
    have b := h.1 (j : Int) (by omega) (by omega)
    have := h.2 (i : Int) (j : Int) (by omega) (by omega) (by omega) (by omega) (by omega)
    omega) (k := v.toNat) (by omega)
  have a := h.1 (i : Int) (by omega) (by omega)
  exact ⟨(i : Int), by omega, by omega, by omega⟩
theorem sort_ok {κ : Int → Int} {n : Nat} (hn : n ≤ 7) {g : Int → Int} (hg : Pm n g) : ∀ (t : Nat), t ≤ n → ∀ {r : Int → Int}, Pm n r → (∀ i, 0 ≤ i → i < (n : Int) → ∃ m j, 0 ≤ j ∧ j < (n : Int) ∧ Cn κ n m i j ∧ r i = g j) → (∀ i, (t : Int) ≤ i → i < (n : Int) → r i = g i) → ∃ m, m ≤ 11 * t ∧ Wd κ n g m r
  | 0, _, r, hp, hc, ha => ⟨0, by omega, fun i i0 i1 => ha i (by omega) i1⟩
  | t + 1, ht, r, hp, hc, ha => by
    obtain ⟨p, p0, p1, p2'⟩ := Pm_surj hp (v := g (t : Int)) (hg.1 (t : Int) (by omega) (by omega))
    obtain ⟨m, j, j0, j1, j2, j3⟩ := hc p p0 p1
    have hj : j = (t : Int) := hg.2 j (t : Int) j0 j1 (by omega) (by omega) (by omega)
    subst hj
    have hpt : p ≤ (t : Int) := by
      by_cases c : p ≤ (t : Int)
      · exact c
      · have := ha p (by omega) p1
        have := hg.2 p (t : Int) p0 p1 (by omega) (by omega) (by omega)
        omega
    by_cases c : p = (t : Int)
    · subst c
      obtain ⟨m, m0, m1⟩ := sort_ok hn hg t (by omega) hp hc (fun i i0 i1 => by
        by_cases ci : i = (t : Int)
        · rw [ci]; exact p2'
        · exact ha i (by omega) i1)
      exact ⟨m, by omega, m1⟩
    · have hp' := sw_Pm hp (a := p) (b := (t : Int)) ⟨p0, p1⟩ ⟨by omega, by omega⟩ c
      obtain ⟨m', m0, m1⟩ := sort_ok hn hg t (by omega) hp' (fun i i0 i1 => by
        by_cases ci : i = p
        · subst ci
          obtain ⟨l, q, q0, q1, q2, q3⟩ := hc (t : Int) (by omega) (by omega)
          exact ⟨m + l, q, q0, q1, Cn_trans l q j2 q2, by rw [sw_a]; exact q3⟩
        · by_cases ct : i = (t : Int)
          · subst ct
            exact ⟨0, (t : Int), by omega, by omega, rfl, by rw [sw_b c]; exact p2'⟩
          · obtain ⟨l, q, q0, q1, q2, q3⟩ := hc i i0 i1
            exact ⟨l, q, q0, q1, q2, by rw [sw_n ci ct]; exact q3⟩) (fun i i0 i1 => by
        by_cases ct : i = (t : Int)
        · subst ct; rw [sw_b c]; exact p2'
        · rw [sw_n (by omega) ct]; exact ha i (by omega) i1)
      obtain ⟨m2, q1, q2⟩ := Cn_swap 6 (t : Int) (Cn_short hn ⟨p0, p1⟩ ⟨by omega, by omega⟩ j2) c _ m' m1
      exact ⟨m2, by omega, Wd_En m2 q2 (fun i _ _ => sw_sw c i)⟩
theorem Wd_short {κ : Int → Int} {n : Nat} (hn : n ≤ 7) {g : Int → Int} (hg : Pm n g) {k : Nat} {r : Int → Int} (h : Wd κ n g k r) : ∃ m, m ≤ 77 ∧ Wd κ n g m r := by
  obtain ⟨m, m0, m1⟩ := sort_ok (κ := κ) hn hg n (by omega) (Wd_Pm hg k h) (Wd_comp k h) (fun i i0 i1 => by omega)
  exact ⟨m, by omega, m1⟩
