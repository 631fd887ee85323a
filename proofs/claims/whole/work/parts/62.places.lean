/-! places and rows on both sides -/
theorem low_cnt_tbl : ∀ s : Fin 128, ∀ v : Fin 7, (0 ≤ jand (s.val : Int) (w32 (p2 (v.val : Int) - 1)) ∧ jand (s.val : Int) (w32 (p2 (v.val : Int) - 1)) < 128) ∧ pcn (jand (s.val : Int) (w32 (p2 (v.val : Int) - 1))) = cnt (s.val : Int) v.val := by decide +kernel
theorem low_cnt {s v : Int} (hs : 0 ≤ s ∧ s < 128) (hv : 0 ≤ v ∧ v < 7) (N : Nat) (M : jMem) : Jn_bitCount N (jand s (w32 (p2 v - 1))) M = some (cnt s v.toNat) := by
  obtain ⟨i, hi⟩ := fin_of (n := 128) hs.1 (by omega)
  obtain ⟨j, hj⟩ := fin_of (n := 7) hv.1 (by omega)
  have := low_cnt_tbl i j
  rw [hi, hj] at this
  rw [bc_ok N M this.1.1 this.1.2, this.2, show j.val = v.toNat by omega]
theorem dm_ok {a b c : Int} (h0 : 0 ≤ c) (h1 : c < b) : (a * b + c) / b = a ∧ (a * b + c) % b = c := (Int.ediv_emod_unique (by omega)).mpr ⟨by rw [Int.mul_comm b a]; omega, h0, h1⟩
theorem lrH_le {n : Nat} (hn : n ≤ 7) {r : Int → Int} (hr : Pm n r) {k : Nat} (hk : k ≤ n) : 0 ≤ lrH n r k ∧ lrH n r k < 5040 := by
  obtain ⟨a, b⟩ := lrH_in hn hr k hk
  have c := fc_le hn
  have d := fc_pos (n - k)
  have m := Int.mul_le_mul_of_nonneg_left d (show 0 ≤ lrH n r k + 1 by omega)
  rw [Int.mul_one] at m
  omega
theorem mul7 {a b : Int} (ha : 0 ≤ a ∧ a < 5040) (hb : 0 ≤ b ∧ b ≤ 5040) : 0 ≤ a * b ∧ a * b ≤ 25401600 := by
  refine ⟨Int.mul_nonneg ha.1 hb.1, ?_⟩
  have := Int.mul_le_mul (show a ≤ 5040 by omega) hb.2 hb.1 (by omega)
  omega
theorem placeOf_ok {N : Nat} (hN : 1000 ≤ N) {M : jMem} {q : Int} {n : Nat} (hn : n ≤ 7) {r : Int → Int} (hr : Pm n r) (h7 : M 171 7 = (n : Int)) (hq : ∀ i, 0 ≤ i → i < (n : Int) → M q i = r i) : Li_placeOf N q M = some (rank n r) := by
  have H : wp (Li_placeOf N q M) (fun v => v = rank n r) := by
    unfold Li_placeOf
    refine wp_fix (fun t => (7 - t.2.2).toNat) (fun (t : Int × Int × Int) => ∃ k : Nat, k ≤ n ∧ t = (lrH n r k, us r k, (k : Int))) ?_ N _ ⟨0, by omega, rfl⟩ (by dsimp only; omega)
    rintro h t ⟨k, k0, e⟩ ih
    subst e
    unfold Li_placeOf_L7 jlt
    dsimp only
    rw [h7]
    by_cases c : (k : Int) < (n : Int)
    · have v := hr.1 (k : Int) (by omega) c
      obtain ⟨a, -⟩ := us_bits hn hr k (by omega)
      have l := lrH_le hn hr (k := k) (by omega)
      have l' := lrH_le hn hr (k := k + 1) (by omega)
      have m := mul7 l (b := (n : Int) - (k : Int)) (by omega)
      have cn := cnt_in (us r k) (r (k : Int)).toNat
      rw [if_pos c, jchk_pos (by omega), jchk_pos (by omega), hq (k : Int) (by omega) c, shl_ok (by omega) (by omega), low_cnt a (by omega), Option.bind_some, w32_id (x := (n : Int) - (k : Int)) (by omega), w32_id (x := lrH n r k * ((n : Int) - (k : Int))) (by omega), w32_id (x := lrH n r k * ((n : Int) - (k : Int)) + r (k : Int)) (by omega), w32_id (by omega), w32_id (x := (k : Int) + 1) (by omega)]
      refine ih _ ⟨k + 1, by omega, ?_⟩ (by dsimp only; omega)
      show (_, _, _) = (lrH n r k * ((n : Int) - (k : Int)) + dgt r k, jor (us r k) (p2 (r (k : Int))), ((k + 1 : Nat) : Int))
      unfold dgt
      rw [show ((k + 1 : Nat) : Int) = (k : Int) + 1 by omega, show ∀ x y z : Int, x + y - z = x + (y - z) from fun x y z => by omega]
    · rw [if_neg c]
      exact wp_some (by rw [show k = n by omega]; rfl)
  obtain ⟨v, e, q⟩ := H
  rw [e, q]
theorem spread_ok {N : Nat} (hN : 1000 ≤ N) {M : jMem} {n : Nat} (hn : n ≤ 7) {r : Int → Int} (hr : Pm n r) (h7 : M 171 7 = (n : Int)) : ∃ M', Li_spread N (rank n r) M = some (0, M') ∧ (∀ p, p ≠ 174 → p ≠ 175 → M' p = M p) ∧ (∀ i, 0 ≤ i → i < (n : Int) → M' 174 i = r i) := by
  have inner : ∀ (k : Nat) (Z : jMem) (h47 : Int × Int × jMem → Option (Int × jMem)), k < n → Z 171 7 = (n : Int) → ∀ (d x F : Nat), ((x + d : Nat) : Int) = r (k : Int) → d < F → jfix F (Li_spread_L68 N (us r k) (k : Int) Z h47) (dgt r k - ((x : Int) - cnt (us r k) x), (x : Int)) = h47 (us r (k + 1), (k : Int) + 1, up Z 174 (k : Int) (r (k : Int))) := by
    intro k Z h47 hk z7 d
    have v := hr.1 (k : Int) (by omega) (by omega)
    obtain ⟨a, -⟩ := us_bits hn hr k (by omega)
    have fr := us_free hn hr hk
    induction d with
    | zero =>
      intro x F hx hF
      obtain ⟨m, rfl⟩ : ∃ m, F = m + 1 := ⟨F - 1, by omega⟩
      have hxv : (x : Int) = r (k : Int) := by omega
      rw [jfix_s]
      unfold Li_spread_L68 jlt
      dsimp only
      rw [z7, w32_id (x := (n : Int) - 1) (by omega), shr_ok a.1 a.2 (by omega) (by omega), hxv, fr, if_pos rfl, if_neg (show ¬ (0 : Int) < dgt r k - (r (k : Int) - cnt (us r k) x) by unfold dgt; rw [show (r (k : Int)).toNat = x by omega]; omega), jchk_pos (by omega), shl_ok (by omega) (by omega), w32_id (by omega)]
      by_cases c : r (k : Int) < (n : Int) - 1
      · rw [if_pos c]; rfl
      · rw [if_neg c]; rfl
    | succ d ih =>
      intro x F hx hF
      obtain ⟨m, rfl⟩ : ∃ m, F = m + 1 := ⟨F - 1, by omega⟩
      have g := ih (x + 1) m (by omega) (by omega)
      have e : cnt (us r k) (x + 1) = cnt (us r k) x + us r k / p2 (x : Int) % 2 := rfl
      have dg : dgt r k = r (k : Int) - cnt (us r k) (r (k : Int)).toNat := rfl
      have fl := free_mono (s := us r k) d (x + 1)
      rw [show x + 1 + d = (r (k : Int)).toNat by omega, show (((r (k : Int)).toNat : Nat) : Int) = r (k : Int) by omega] at fl
      have ci := cnt_in (us r k) x
      have cj := cnt_in (us r k) (r (k : Int)).toNat
      rw [jfix_s]
      generalize jfix m (Li_spread_L68 N (us r k) (k : Int) Z h47) = kk at g ⊢
      rw [show ((x + 1 : Nat) : Int) = (x : Int) + 1 by omega] at g fl
      unfold Li_spread_L68 jlt
      dsimp only
      rw [z7, w32_id (x := (n : Int) - 1) (by omega), shr_ok a.1 a.2 (by omega) (by omega), if_pos (show (x : Int) < (n : Int) - 1 by omega), w32_id (x := (x : Int) + 1) (by omega)]
      rcases b01 (s := us r k) (k := (x : Int)) with z | z
      · rw [if_pos z, if_pos z, if_pos (show (0 : Int) < dgt r k - ((x : Int) - cnt (us r k) x) by omega), w32_id (by omega)]
        rw [show dgt r k - ((x : Int) - cnt (us r k) x) + -1 = dgt r k - ((x : Int) + 1 - cnt (us r k) (x + 1)) by omega]
        exact g
      · rw [if_neg (show ¬ us r k / p2 (x : Int) % 2 = 0 by omega), if_neg (show ¬ us r k / p2 (x : Int) % 2 = 0 by omega)]
        rw [show dgt r k - ((x : Int) - cnt (us r k) x) = dgt r k - ((x : Int) + 1 - cnt (us r k) (x + 1)) by omega]
        exact g
  have P2 : ∀ Z : jMem, Z 171 7 = (n : Int) → (∀ j : Nat, j < n → Z 175 (j : Int) = dgt r j) → wp (jfix N (Li_spread_L47 N) (0, 0, Z)) (fun o => o.1 = 0 ∧ (∀ p, p ≠ 174 → o.2 p = Z p) ∧ (∀ i, 0 ≤ i → i < (n : Int) → o.2 174 i = r i)) := by
    intro Z z7 z5
    refine wp_fix (fun t => (7 - t.2.1).toNat) (fun (t : Int × Int × jMem) => ∃ k : Nat, k ≤ n ∧ t.1 = us r k ∧ t.2.1 = (k : Int) ∧ (∀ p, p ≠ 174 → t.2.2 p = Z p) ∧ (∀ i, 0 ≤ i → i < (k : Int) → t.2.2 174 i = r i)) ?_ N _ ⟨0, by omega, rfl, rfl, fun _ _ => rfl, fun i i0 i1 => by omega⟩ (by dsimp only; omega)
    rintro h ⟨x5, x6, Zc⟩ ⟨k, k0, k1, k2, k3, k4⟩ ih
    dsimp only at k1 k2 k3 k4
    subst k1; subst k2
    unfold Li_spread_L47 jlt
    dsimp only
    rw [k3 171 (by omega), k3 175 (by omega), z7]
    by_cases c : (k : Int) < (n : Int)
    · have v := hr.1 (k : Int) (by omega) c
      have g := inner k Zc h (by omega) (by rw [k3 171 (by omega)]; exact z7) (r (k : Int)).toNat 0 N (by omega) (by omega)
      rw [show dgt r k - (((0 : Nat) : Int) - cnt (us r k) 0) = dgt r k by show dgt r k - (0 - 0) = dgt r k; omega, show ((0 : Nat) : Int) = 0 from rfl] at g
      rw [if_pos c, jchk_pos (by omega), z5 k (by omega), g]
      refine ih _ ⟨k + 1, by omega, rfl, by dsimp only; omega, fun p hp => ?_, fun i i0 i1 => ?_⟩ (by dsimp only; omega)
      · dsimp only; rw [up_ne hp]; exact k3 p hp
      · dsimp only
        by_cases ci : i = (k : Int)
        · rw [up_hit rfl ci, ci]
        · rw [up_col ci]; exact k4 i i0 (by omega)
    · rw [if_neg c]
      exact wp_some ⟨rfl, k3, fun i i0 i1 => k4 i i0 (by omega)⟩
  have H : wp (Li_spread N (rank n r) M) (fun o => o.1 = 0 ∧ (∀ p, p ≠ 174 → p ≠ 175 → o.2 p = M p) ∧ (∀ i, 0 ≤ i → i < (n : Int) → o.2 174 i = r i)) := by
    unfold Li_spread jlt
    rw [h7, w32_id (by omega)]
    refine wp_fix (fun t => (t.2.1 + 1).toNat) (fun (t : Int × Int × jMem) => ∃ k : Nat, k ≤ n ∧ t.1 = lrH n r k ∧ t.2.1 = (k : Int) - 1 ∧ (∀ p, p ≠ 175 → t.2.2 p = M p) ∧ (∀ j : Nat, k ≤ j → j < n → t.2.2 175 (j : Int) = dgt r j)) ?_ N _ ⟨n, by omega, rfl, rfl, fun _ _ => rfl, fun j j0 j1 => by omega⟩ (by dsimp only; omega)
    rintro h ⟨x2, x3, Mc⟩ ⟨k, k0, k1, k2, k3, k4⟩ ih
    dsimp only at k1 k2 k3 k4
    subst k1; subst k2
    unfold Li_spread_L9 jlt
    dsimp only
    by_cases c : (k : Int) - 1 < 0
    · rw [if_pos c]
      refine wp_mono (P2 Mc (by rw [k3 171 (by omega)]; exact h7) (fun j hj => k4 j (by omega) hj)) (fun o q => ⟨q.1, fun p p0 p1 => by rw [q.2.1 p p0]; exact k3 p p1, q.2.2⟩)
    · obtain ⟨i, rfl⟩ : ∃ i, k = i + 1 := ⟨k - 1, by omega⟩
      have d := dgt_in hn hr (k := i) (by omega)
      have l := lrH_le hn hr (k := i + 1) (by omega)
      have l0 := lrH_le hn hr (k := i) (by omega)
      have e : lrH n r (i + 1) = lrH n r i * ((n : Int) - (i : Int)) + dgt r i := rfl
      obtain ⟨q1, q2⟩ := dm_ok (a := lrH n r i) (b := (n : Int) - (i : Int)) (c := dgt r i) d.1 (by omega)
      rw [show ((i + 1 : Nat) : Int) - 1 = (i : Int) by omega, if_neg (by omega), k3 171 (by omega), h7, w32_id (x := (n : Int) - (i : Int)) (by omega), jchk_pos (by omega), jchk_pos (by omega), up_row (by omega), k3 171 (by omega), h7, w32_id (x := (n : Int) - (i : Int)) (by omega), jchk_pos (by omega), tm_nn (by omega), td_nn (by omega), e, q1, q2, w32_id (x := lrH n r i) (by omega), w32_id (by omega)]
      refine ih _ ⟨i, by omega, rfl, by dsimp only; omega, fun p hp => ?_, fun j j0 j1 => ?_⟩ (by dsimp only; omega)
      · dsimp only; rw [up_ne hp]; exact k3 p hp
      · dsimp only
        by_cases cj : j = i
        · rw [cj, up_hit rfl rfl]
        · rw [up_col (by omega)]; exact k4 j (by omega) j1
  obtain ⟨⟨v, M'⟩, e, q1, q2⟩ := H
  dsimp only at q1 q2
  subst q1
  exact ⟨M', e, q2⟩
theorem rowsOf_ok {N : Nat} (hN : 1000 ≤ N) {M : jMem} {m : Nat} (hm : m ≤ 7) : m_rowsOf N (m : Int) M = some (fc m) := by
  have H : wp (m_rowsOf N (m : Int) M) (fun v => v = fc m) := by
    unfold m_rowsOf
    refine wp_fix (fun t => (9 - t.2).toNat) (fun (t : Int × Int) => ∃ k : Nat, 1 ≤ k ∧ t = (fc k, (k : Int) + 1) ∧ (k ≤ m ∨ (k = 1 ∧ m = 0))) ?_ N _ ⟨1, by omega, rfl, by omega⟩ (by dsimp only; omega)
    rintro h t ⟨k, k0, e, k1⟩ ih
    subst e
    unfold m_rowsOf_L4 jlt
    dsimp only
    by_cases c : (m : Int) < (k : Int) + 1
    · rw [if_pos c]
      refine wp_some ?_
      rcases k1 with z | ⟨z1, z2⟩
      · rw [show k = m by omega]
      · rw [z1, z2]; rfl
    · have f1 := fc_le (n := k + 1) (by omega)
      have f2 := fc_pos (k + 1)
      have e : fc k * ((k : Int) + 1) = fc (k + 1) := rfl
      rw [if_neg c, e, w32_id (by omega), w32_id (by omega)]
      exact ih _ ⟨k + 1, by omega, by rw [show ((k + 1 : Nat) : Int) + 1 = (k : Int) + 1 + 1 by omega], by omega⟩ (by dsimp only; omega)
  obtain ⟨v, e, q⟩ := H
  rw [e, q]
theorem fc_step {n k : Nat} (hk : k < n) : fc (n - k) = fc (n - (k + 1)) * ((n : Int) - (k : Int)) := by
  rw [show n - k = (n - (k + 1)) + 1 by omega]
  show fc (n - (k + 1)) * (((n - (k + 1) : Nat) : Int) + 1) = _
  rw [show (((n - (k + 1) : Nat) : Int) + 1) = (n : Int) - (k : Int) by omega]
theorem sumH {n : Nat} {r : Int → Int} {k : Nat} (hk : k < n) : lrH n r (k + 1) * fc (n - (k + 1)) = lrH n r k * fc (n - k) + dgt r k * fc (n - (k + 1)) := by
  show (lrH n r k * ((n : Int) - (k : Int)) + dgt r k) * fc (n - (k + 1)) = _
  rw [Int.add_mul, fc_step hk, Int.mul_assoc, Int.mul_comm ((n : Int) - (k : Int))]
theorem rankOf_ok {N : Nat} (hN : 1000 ≤ N) {M : jMem} {q : Int} {n : Nat} (hn : n ≤ 7) {r : Int → Int} (hr : Pm n r) (h1 : M 10 1 = (n : Int)) (hq : ∀ i, 0 ≤ i → i < (n : Int) → M q i = r i) : m_rankOf N q M = some (rank n r) := by
  have bnd : ∀ k : Nat, k ≤ n → 0 ≤ lrH n r k * fc (n - k) ∧ lrH n r k * fc (n - k) < 5040 := fun k hk => by
    obtain ⟨a, b⟩ := lrH_in hn hr k hk
    have c := fc_le hn
    have d := fc_pos (n - k)
    rw [Int.add_mul, Int.one_mul] at b
    exact ⟨Int.mul_nonneg a (by omega), by omega⟩
  have inner : ∀ (k : Nat) (h4 : Int × Int → Option Int), k < n → ∀ (d j F : Nat), k < j → j + d = n → d < F → jfix F (m_rankOf_L22 N q M (lrH n r k * fc (n - k)) (k : Int) h4) (cq (fun j => lt1 (r (j : Int)) (r (k : Int))) j - cq (fun j => lt1 (r (j : Int)) (r (k : Int))) k, (j : Int)) = h4 (lrH n r (k + 1) * fc (n - (k + 1)), (k : Int) + 1) := by
    intro k h4 hk d
    have v := hr.1 (k : Int) (by omega) (by omega)
    have dq := dgt_cq hn hr hk
    have di := dgt_in hn hr hk
    have tot := all_less hr (v := r (k : Int)) (by omega)
    induction d with
    | zero =>
      intro j F kj jd hF
      obtain ⟨m, rfl⟩ : ∃ m, F = m + 1 := ⟨F - 1, by omega⟩
      have b0 := bnd k (by omega)
      have b1 := bnd (k + 1) (by omega)
      have sh := sumH (r := r) hk
      have fp := fc_pos (n - (k + 1))
      have m0 := Int.mul_nonneg di.1 (show 0 ≤ fc (n - (k + 1)) by omega)
      rw [jfix_s]
      unfold m_rankOf_L22 jlt
      dsimp only
      rw [h1, if_neg (by omega), w32_id (x := (n : Int) - 1) (by omega), w32_id (by omega), show (n : Int) - 1 - (k : Int) = ((n - (k + 1) : Nat) : Int) by omega, rowsOf_ok hN (by omega), Option.bind_some, show j = n by omega, tot, show r (k : Int) - cq (fun j => lt1 (r (j : Int)) (r (k : Int))) k = dgt r k from dq.symm, w32_id (x := dgt r k * fc (n - (k + 1))) (by omega), w32_id (by omega), w32_id (by omega), ← sh]
    | succ d ih =>
      intro j F kj jd hF
      obtain ⟨m, rfl⟩ : ∃ m, F = m + 1 := ⟨F - 1, by omega⟩
      have g := ih (j + 1) m (by omega) (by omega) (by omega)
      have ec : cq (fun j => lt1 (r (j : Int)) (r (k : Int))) (j + 1) = cq (fun j => lt1 (r (j : Int)) (r (k : Int))) j + lt1 (r (j : Int)) (r (k : Int)) := rfl
      have mo := cq_mono (f := fun j => lt1 (r (j : Int)) (r (k : Int))) (fun _ => lt1_in) k (j - k)
      rw [show k + (j - k) = j by omega] at mo
      rw [jfix_s]
      generalize jfix m (m_rankOf_L22 N q M (lrH n r k * fc (n - k)) (k : Int) h4) = kk at g ⊢
      rw [show ((j + 1 : Nat) : Int) = (j : Int) + 1 by omega, ec] at g
      unfold m_rankOf_L22 jlt
      dsimp only
      rw [h1, if_pos (show (j : Int) < (n : Int) by omega), jchk_pos (by omega), jchk_pos (by omega), hq (j : Int) (by omega) (by omega), hq (k : Int) (by omega) (by omega), w32_id (x := (j : Int) + 1) (by omega)]
      unfold lt1 at g mo ⊢
      by_cases c : r (j : Int) < r (k : Int)
      · rw [if_pos c] at g
        rw [if_pos c, w32_id (by omega), show ∀ x y : Int, x - y + 1 = x + 1 - y from fun x y => by omega]; exact g
      · rw [if_neg c, Int.add_zero] at g
        rw [if_neg c, w32_id (by omega), Int.add_zero]; exact g
  have H : wp (m_rankOf N q M) (fun v => v = rank n r) := by
    unfold m_rankOf
    refine wp_fix (fun t => (7 - t.2).toNat) (fun (t : Int × Int) => ∃ k : Nat, k ≤ n ∧ t = (lrH n r k * fc (n - k), (k : Int))) ?_ N _ ⟨0, by omega, by rw [show lrH n r 0 = 0 from rfl, Int.zero_mul]; rfl⟩ (by dsimp only; omega)
    rintro h t ⟨k, k0, e⟩ ih
    subst e
    unfold m_rankOf_L4 jlt
    dsimp only
    rw [h1]
    by_cases c : (k : Int) < (n : Int)
    · have g := inner k h (by omega) (n - (k + 1)) (k + 1) N (by omega) (by omega) (by omega)
      have z : cq (fun j => lt1 (r (j : Int)) (r (k : Int))) (k + 1) - cq (fun j => lt1 (r (j : Int)) (r (k : Int))) k = 0 := by
        show cq (fun j => lt1 (r (j : Int)) (r (k : Int))) k + lt1 (r (k : Int)) (r (k : Int)) - _ = 0
        unfold lt1; rw [if_neg (show ¬ r (k : Int) < r (k : Int) by omega)]; omega
      rw [z, show ((k + 1 : Nat) : Int) = (k : Int) + 1 by omega] at g
      rw [if_pos c, w32_id (by omega), g]
      exact ih _ ⟨k + 1, by omega, by rw [show ((k + 1 : Nat) : Int) = (k : Int) + 1 by omega]⟩ (by dsimp only; omega)
    · rw [if_neg c]
      exact wp_some (by rw [show k = n by omega, show n - n = 0 by omega]; show lrH n r n * 1 = rank n r; rw [Int.mul_one]; rfl)
  obtain ⟨v, e, q⟩ := H
  rw [e, q]
theorem rowOf_ok {N : Nat} (hN : 1000 ≤ N) {M : jMem} {n : Nat} (hn : n ≤ 7) {r : Int → Int} (hr : Pm n r) (h1 : M 10 1 = (n : Int)) : ∃ M', m_rowOf N (rank n r) M = some (0, M') ∧ (∀ p, p ≠ 13 → M' p = M p) ∧ (∀ i, 0 ≤ i → i < (n : Int) → M' 13 i = r i) := by
  have T : ∀ d k : Nat, k + d = n → 0 ≤ rank n r - lrH n r k * fc (n - k) ∧ rank n r - lrH n r k * fc (n - k) < fc (n - k) := by
    intro d
    induction d with
    | zero =>
      intro k hk
      rw [show k = n by omega, show n - n = 0 by omega, show fc 0 = 1 from rfl, Int.mul_one]
      unfold rank; omega
    | succ d ih =>
      intro k hk
      have i := ih (k + 1) (by omega)
      have sh := sumH (r := r) (show k < n by omega)
      have di := dgt_in hn hr (k := k) (by omega)
      have fs := fc_step (show k < n by omega)
      have fp := fc_pos (n - (k + 1))
      have m0 := Int.mul_nonneg di.1 (show 0 ≤ fc (n - (k + 1)) by omega)
      have m1 := Int.mul_le_mul_of_nonneg_right (show dgt r k + 1 ≤ (n : Int) - (k : Int) by omega) (show 0 ≤ fc (n - (k + 1)) by omega)
      rw [Int.add_mul, Int.one_mul] at m1
      rw [Int.mul_comm (fc (n - (k + 1)))] at fs
      omega
  have inner : ∀ (k : Nat) (Z : jMem) (h7 : Int × Int × Int × jMem → Option (Int × jMem)) (x2 : Int), k < n → x2 % fc (n - (k + 1)) = rank n r - lrH n r (k + 1) * fc (n - (k + 1)) → 0 ≤ x2 → ∀ (d x F : Nat), ((x + d : Nat) : Int) = r (k : Int) → d < F → jfix F (m_rowOf_L43 N (us r k) x2 (k : Int) Z h7 (fc (n - (k + 1)))) (dgt r k - ((x : Int) - cnt (us r k) x), (x : Int)) = h7 (us r (k + 1), rank n r - lrH n r (k + 1) * fc (n - (k + 1)), (k : Int) + 1, up Z 13 (k : Int) (r (k : Int))) := by
    intro k Z h7 x2 hk hx2 hx0 d
    have v := hr.1 (k : Int) (by omega) (by omega)
    obtain ⟨a, -⟩ := us_bits hn hr k (by omega)
    have fr := us_free hn hr hk
    have fp := fc_pos (n - (k + 1))
    induction d with
    | zero =>
      intro x F hx hF
      obtain ⟨m, rfl⟩ : ∃ m, F = m + 1 := ⟨F - 1, by omega⟩
      have hxv : (x : Int) = r (k : Int) := by omega
      rw [jfix_s]
      unfold m_rowOf_L43 m_isOf jlt
      dsimp only
      rw [shr_ok a.1 a.2 (by omega) (by omega), hxv, fr, if_neg (show ¬ (0 : Int) = 1 by decide), Option.bind_some, if_pos rfl, if_neg (show ¬ (0 : Int) < dgt r k - (r (k : Int) - cnt (us r k) x) by unfold dgt; rw [show (r (k : Int)).toNat = x by omega]; omega), jchk_pos (by omega), shl_ok (by omega) (by omega), jchk_pos (by omega), tm_nn hx0, hx2, w32_id (by omega)]
      rfl
    | succ d ih =>
      intro x F hx hF
      obtain ⟨m, rfl⟩ : ∃ m, F = m + 1 := ⟨F - 1, by omega⟩
      have g := ih (x + 1) m (by omega) (by omega)
      have e : cnt (us r k) (x + 1) = cnt (us r k) x + us r k / p2 (x : Int) % 2 := rfl
      have dg : dgt r k = r (k : Int) - cnt (us r k) (r (k : Int)).toNat := rfl
      have fl := free_mono (s := us r k) d (x + 1)
      rw [show x + 1 + d = (r (k : Int)).toNat by omega, show (((r (k : Int)).toNat : Nat) : Int) = r (k : Int) by omega] at fl
      have ci := cnt_in (us r k) x
      have cj := cnt_in (us r k) (r (k : Int)).toNat
      rw [jfix_s]
      generalize jfix m (m_rowOf_L43 N (us r k) x2 (k : Int) Z h7 (fc (n - (k + 1)))) = kk at g ⊢
      rw [show ((x + 1 : Nat) : Int) = (x : Int) + 1 by omega] at g fl
      unfold m_rowOf_L43 m_isOf jlt
      dsimp only
      rw [shr_ok a.1 a.2 (by omega) (by omega), w32_id (x := (x : Int) + 1) (by omega)]
      rcases b01 (s := us r k) (k := (x : Int)) with z | z
      · rw [z, if_neg (show ¬ (0 : Int) = 1 by decide), Option.bind_some, if_pos rfl, if_pos (show (0 : Int) < dgt r k - ((x : Int) - cnt (us r k) x) by omega), Option.bind_some, if_pos rfl, w32_id (by omega)]
        rw [show dgt r k - ((x : Int) - cnt (us r k) x) - 1 = dgt r k - ((x : Int) + 1 - cnt (us r k) (x + 1)) by omega]
        exact g
      · rw [z, if_pos rfl, Option.bind_some, if_neg (show ¬ (1 : Int) = 0 by decide), Option.bind_some, if_neg (show ¬ (1 : Int) = 0 by decide), w32_id (by omega), Int.sub_zero]
        rw [show dgt r k - ((x : Int) - cnt (us r k) x) = dgt r k - ((x : Int) + 1 - cnt (us r k) (x + 1)) by omega]
        exact g
  have H : wp (m_rowOf N (rank n r) M) (fun o => o.1 = 0 ∧ (∀ p, p ≠ 13 → o.2 p = M p) ∧ (∀ i, 0 ≤ i → i < (n : Int) → o.2 13 i = r i)) := by
    unfold m_rowOf
    refine wp_fix (fun t => (7 - t.2.2.1).toNat) (fun (t : Int × Int × Int × jMem) => ∃ k : Nat, k ≤ n ∧ t.1 = us r k ∧ t.2.1 = rank n r - lrH n r k * fc (n - k) ∧ t.2.2.1 = (k : Int) ∧ (∀ p, p ≠ 13 → t.2.2.2 p = M p) ∧ (∀ i, 0 ≤ i → i < (k : Int) → t.2.2.2 13 i = r i)) ?_ N _ ⟨0, by omega, rfl, by rw [show lrH n r 0 = 0 from rfl, Int.zero_mul, Int.sub_zero], rfl, fun _ _ => rfl, fun i i0 i1 => by omega⟩ (by dsimp only; omega)
    rintro h ⟨x1, x2, x3, Mc⟩ ⟨k, k0, k1, k2, k3, k4, k5⟩ ih
    dsimp only at k1 k2 k3 k4 k5
    subst k1; subst k3
    unfold m_rowOf_L7 jlt
    dsimp only
    rw [k4 10 (by omega), h1]
    by_cases c : (k : Int) < (n : Int)
    · have v := hr.1 (k : Int) (by omega) c
      have t0 := T (n - k) k (by omega)
      have t1 := T (n - (k + 1)) (k + 1) (by omega)
      have sh := sumH (r := r) (show k < n by omega)
      have fp := fc_pos (n - (k + 1))
      have di := dgt_in hn hr (k := k) (by omega)
      have e : x2 = dgt r k * fc (n - (k + 1)) + (rank n r - lrH n r (k + 1) * fc (n - (k + 1))) := by omega
      obtain ⟨q1, q2⟩ := dm_ok (a := dgt r k) (b := fc (n - (k + 1))) (c := rank n r - lrH n r (k + 1) * fc (n - (k + 1))) t1.1 t1.2
      rw [← e] at q1 q2
      have g := inner k Mc h x2 (by omega) q2 (by omega) (r (k : Int)).toNat 0 N (by omega) (by omega)
      rw [show dgt r k - (((0 : Nat) : Int) - cnt (us r k) 0) = dgt r k by show dgt r k - (0 - 0) = dgt r k; omega, show ((0 : Nat) : Int) = 0 from rfl] at g
      rw [if_pos c, w32_id (x := (n : Int) - 1) (by omega), w32_id (by omega), show (n : Int) - 1 - (k : Int) = ((n - (k + 1) : Nat) : Int) by omega, rowsOf_ok hN (by omega), Option.bind_some, jchk_pos (by omega), td_nn (by omega), q1, w32_id (by omega), g]
      refine ih _ ⟨k + 1, by omega, rfl, rfl, by dsimp only; omega, fun p hp => ?_, fun i i0 i1 => ?_⟩ (by dsimp only; omega)
      · dsimp only; rw [up_ne hp]; exact k4 p hp
      · dsimp only
        by_cases ci : i = (k : Int)
        · rw [up_hit rfl ci, ci]
        · rw [up_col ci]; exact k5 i i0 (by omega)
    · rw [if_neg c]
      exact wp_some ⟨rfl, k4, fun i i0 i1 => k5 i i0 (by omega)⟩
  obtain ⟨⟨v, M'⟩, e, q1, q2⟩ := H
  dsimp only at q1 q2
  subst q1
  exact ⟨M', e, q2⟩
