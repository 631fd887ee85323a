/-! where to LOOK -/
/-- how many of the first n -/
def cq (f : Nat → Int) : Nat → Int
  | 0 => 0
  | k + 1 => cq f k + f k
theorem cq_mono {f : Nat → Int} (h : ∀ j, 0 ≤ f j ∧ f j ≤ 1) : ∀ n d : Nat, cq f n ≤ cq f (n + d) ∧ cq f (n + d) ≤ cq f n + (d : Int)
  | n, 0 => ⟨Int.le_refl _, by show cq f n ≤ cq f n + 0; omega⟩
  | n, d + 1 => by
    have i := cq_mono h n d
    have g := h (n + d)
    show cq f n ≤ cq f (n + d) + f (n + d) ∧ cq f (n + d) + f (n + d) ≤ cq f n + ((d + 1 : Nat) : Int)
    omega
theorem cq_zero {f : Nat → Int} : ∀ n : Nat, (∀ j, j < n → f j = 0) → cq f n = 0
  | 0 => fun _ => rfl
  | k + 1 => fun h => by
    have i := cq_zero k (fun j hj => h j (by omega))
    have g := h k (by omega)
    show cq f k + f k = 0
    omega
theorem cq_eq {f g : Nat → Int} : ∀ n : Nat, (∀ j, j < n → f j = g j) → cq f n = cq g n
  | 0 => fun _ => rfl
  | k + 1 => fun h => by
    have i := cq_eq k (fun j hj => h j (by omega))
    have q := h k (by omega)
    show cq f k + f k = cq g k + g k
    omega
/-- k and j can both have been, and tell the same -/
def sm (s : Int) (t : Int → Int) (k : Int) (j : Nat) : Int := if s / p2 (j : Int) % 2 = 1 ∧ t k = t (j : Int) then 1 else 0
theorem sm_in (s : Int) (t : Int → Int) (k : Int) : ∀ j, 0 ≤ sm s t k j ∧ sm s t k j ≤ 1 := fun j => by
  unfold sm
  by_cases c : s / p2 (j : Int) % 2 = 1 ∧ t k = t (j : Int)
  · rw [if_pos c]; omega
  · rw [if_neg c]; omega
/-- m is the greatest of g over those that can have been, or 0 -/
def Mx (s : Int) (g : Nat → Int) (m : Int) : Prop := (∀ k : Nat, k < 7 → s / p2 (k : Int) % 2 = 1 → g k ≤ m) ∧ ((m = 0 ∧ ∀ k : Nat, k < 7 → s / p2 (k : Int) % 2 = 0) ∨ ∃ k : Nat, k < 7 ∧ s / p2 (k : Int) % 2 = 1 ∧ m = g k)
theorem Mx_same {s : Int} {t : Int → Int} {m m' : Int} (h : Mx s (fun k => cq (sm s t (k : Int)) 7 - cq (sm s t (k : Int)) k) m) (h' : Mx s (fun k => cq (sm s t (k : Int)) 7) m') : m = m' ∧ (m = 0 → ∀ k : Nat, k < 7 → s / p2 (k : Int) % 2 = 0) ∧ 0 ≤ m ∧ m ≤ 7 := by
  have pos : ∀ k : Nat, k < 7 → s / p2 (k : Int) % 2 = 1 → 1 ≤ cq (sm s t (k : Int)) 7 - cq (sm s t (k : Int)) k := fun k hk hs => by
    have a := (cq_mono (sm_in s t (k : Int)) (k + 1) (7 - (k + 1))).1
    rw [show k + 1 + (7 - (k + 1)) = 7 by omega] at a
    have b : cq (sm s t (k : Int)) (k + 1) = cq (sm s t (k : Int)) k + 1 := by
      show cq (sm s t (k : Int)) k + sm s t (k : Int) k = _
      unfold sm; rw [if_pos ⟨hs, rfl⟩]
    omega
  have up7 : ∀ k : Nat, cq (sm s t (k : Int)) 7 ≤ 7 ∧ ∀ j : Nat, 0 ≤ cq (sm s t (k : Int)) j := fun k => by
    have a := cq_mono (sm_in s t (k : Int)) 0 7
    refine ⟨by have := a.2; rw [show 0 + 7 = 7 from rfl] at this; have z : cq (sm s t (k : Int)) 0 = 0 := rfl; omega, fun j => ?_⟩
    have b := (cq_mono (sm_in s t (k : Int)) 0 j).1
    rw [show 0 + j = j by omega] at b
    have z : cq (sm s t (k : Int)) 0 = 0 := rfl
    omega
  obtain ⟨h1, h2⟩ := h
  obtain ⟨h1', h2'⟩ := h'
  dsimp only at h1 h2 h1' h2'
  rcases h2 with ⟨z1, z2⟩ | ⟨k, z1, z2, z3⟩
  · rcases h2' with ⟨y1, y2⟩ | ⟨k, y1, y2, y3⟩
    · exact ⟨by omega, fun _ => z2, by omega, by omega⟩
    · have := z2 k y1; omega
  · rcases h2' with ⟨y1, y2⟩ | ⟨k', y1, y2, y3⟩
    · have := y2 k z1; omega
    · have p1 := pos k z1 z2
      have u1 := (up7 k).1
      have u2 := (up7 k).2 k
      have le1 := h1' k z1 z2
      have ex : ∃ j : Nat, j ≤ k' ∧ sm s t (k' : Int) j = 1 ∧ ∀ i : Nat, i < j → sm s t (k' : Int) i = 0 := by
        have self : sm s t (k' : Int) k' = 1 := by unfold sm; rw [if_pos ⟨y2, rfl⟩]
        have F : ∀ n : Nat, n ≤ k' → (∀ i : Nat, i < n → sm s t (k' : Int) i = 0) ∨ ∃ j : Nat, j < n ∧ sm s t (k' : Int) j = 1 ∧ ∀ i : Nat, i < j → sm s t (k' : Int) i = 0 := by
          intro n
          induction n with
          | zero => intro _; exact Or.inl (fun i hi => by omega)
          | succ n ih =>
            intro hn
            rcases ih (by omega) with q | ⟨j, q1, q2, q3⟩
            · have := sm_in s t (k' : Int) n
              by_cases c : sm s t (k' : Int) n = 0
              · refine Or.inl (fun i hi => ?_)
                by_cases ci : i = n
                · rw [ci]; exact c
                · exact q i (by omega)
              · exact Or.inr ⟨n, by omega, by omega, q⟩
            · exact Or.inr ⟨j, by omega, q2, q3⟩
        rcases F k' (by omega) with q | ⟨j, q1, q2, q3⟩
        · exact ⟨k', by omega, self, q⟩
        · exact ⟨j, by omega, q2, q3⟩
      obtain ⟨j, j1, j2, j3⟩ := ex
      have hj : s / p2 (j : Int) % 2 = 1 ∧ t (k' : Int) = t (j : Int) := by
        unfold sm at j2
        by_cases c : s / p2 (j : Int) % 2 = 1 ∧ t (k' : Int) = t (j : Int)
        · exact c
        · rw [if_neg c] at j2; omega
      have es : sm s t (j : Int) = sm s t (k' : Int) := by
        funext i; unfold sm; rw [hj.2]
      have le2 := h1 j (by omega) hj.1
      rw [es, cq_zero j (fun i hi => j3 i hi)] at le2
      have p0 := (pos k z1 z2)
      exact ⟨by omega, fun z => by omega, by omega, by omega⟩
theorem mostAlike_ok {N : Nat} (hN : 1000 ≤ N) {X : jMem} {s i : Int} (hs : 0 ≤ s ∧ s < 128) (hi : 0 ≤ i ∧ i < 7) : wp (Fo_mostAlike N i s X) (Mx s (fun k => cq (sm s (fun j => X 170 (j * 7 + i)) (k : Int)) 7 - cq (sm s (fun j => X 170 (j * 7 + i)) (k : Int)) k)) := by
  unfold Fo_mostAlike
  have inner : ∀ (x1 : Int) (k : Nat), k < 7 → ∀ (h5 : Int × Int → Option Int) (d j M : Nat), k ≤ j → j + d = 7 → d < M → jfix M (Fo_mostAlike_L31 N i s X x1 (k : Int) h5) (cq (sm s (fun j => X 170 (j * 7 + i)) (k : Int)) j - cq (sm s (fun j => X 170 (j * 7 + i)) (k : Int)) k, (j : Int)) = h5 (jmax x1 (cq (sm s (fun j => X 170 (j * 7 + i)) (k : Int)) 7 - cq (sm s (fun j => X 170 (j * 7 + i)) (k : Int)) k), (k : Int) + 1) := by
    intro x1 k hk h5 d
    induction d with
    | zero =>
      intro j M kj jd hM
      obtain ⟨m, rfl⟩ : ∃ m, M = m + 1 := ⟨M - 1, by omega⟩
      rw [jfix_s]
      unfold Fo_mostAlike_L31 jlt
      dsimp only
      rw [if_pos (by omega), w32_id (by omega), show j = 7 by omega]
    | succ d ih =>
      intro j M kj jd hM
      obtain ⟨m, rfl⟩ : ∃ m, M = m + 1 := ⟨M - 1, by omega⟩
      have g := ih (j + 1) m (by omega) (by omega) (by omega)
      have ec : cq (sm s (fun j => X 170 (j * 7 + i)) (k : Int)) (j + 1) = cq (sm s (fun j => X 170 (j * 7 + i)) (k : Int)) j + sm s (fun j => X 170 (j * 7 + i)) (k : Int) j := rfl
      have mo := cq_mono (sm_in s (fun j => X 170 (j * 7 + i)) (k : Int)) k (j - k)
      rw [show k + (j - k) = j by omega] at mo
      rw [jfix_s]
      generalize jfix m (Fo_mostAlike_L31 N i s X x1 (k : Int) h5) = kk at g ⊢
      rw [show ((j + 1 : Nat) : Int) = (j : Int) + 1 by omega] at g
      unfold Fo_mostAlike_L31 jlt
      dsimp only
      rw [if_neg (show ¬ (6 : Int) < (j : Int) by omega), w32_id (x := (k : Int) * 7) (by omega), w32_id (x := (k : Int) * 7 + i) (by omega), w32_id (x := (j : Int) * 7) (by omega), w32_id (x := (j : Int) * 7 + i) (by omega), w32_id (x := (j : Int) + 1) (by omega), jchk_pos (by omega), jchk_pos (by omega), shr_ok hs.1 hs.2 (by omega) (by omega)]
      by_cases c1 : X 170 ((k : Int) * 7 + i) = X 170 ((j : Int) * 7 + i)
      · rw [if_pos c1]
        rcases b01 (s := s) (k := (j : Int)) with z | z
        · have e0 : sm s (fun j => X 170 (j * 7 + i)) (k : Int) j = 0 := by unfold sm; rw [if_neg (fun q => by omega)]
          rw [ec, e0, Int.add_zero] at g
          rw [if_pos z]; exact g
        · have e0 : sm s (fun j => X 170 (j * 7 + i)) (k : Int) j = 1 := by unfold sm; rw [if_pos ⟨z, c1⟩]
          rw [if_neg (show ¬ s / p2 (j : Int) % 2 = 0 by omega), if_neg (by decide), w32_id (by omega)]
          rw [ec, e0, show ∀ a b : Int, a + 1 - b = a - b + 1 from fun a b => by omega] at g
          exact g
      · have e0 : sm s (fun j => X 170 (j * 7 + i)) (k : Int) j = 0 := by unfold sm; rw [if_neg (fun q => c1 q.2)]
        rw [ec, e0, Int.add_zero] at g
        rw [if_neg c1]
        rcases b01 (s := s) (k := (j : Int)) with z | z
        · rw [if_pos z]; exact g
        · rw [if_neg (show ¬ s / p2 (j : Int) % 2 = 0 by omega), if_pos rfl]; exact g
  refine wp_fix (fun t => (7 - t.2).toNat) (fun (t : Int × Int) => ∃ k : Nat, k ≤ 7 ∧ t.2 = (k : Int) ∧ 0 ≤ t.1 ∧ (∀ j : Nat, j < k → s / p2 (j : Int) % 2 = 1 → cq (sm s (fun j => X 170 (j * 7 + i)) (j : Int)) 7 - cq (sm s (fun j => X 170 (j * 7 + i)) (j : Int)) j ≤ t.1) ∧ ((t.1 = 0 ∧ ∀ j : Nat, j < k → s / p2 (j : Int) % 2 = 0) ∨ ∃ j : Nat, j < k ∧ s / p2 (j : Int) % 2 = 1 ∧ t.1 = cq (sm s (fun j => X 170 (j * 7 + i)) (j : Int)) 7 - cq (sm s (fun j => X 170 (j * 7 + i)) (j : Int)) j)) ?_ N _ ⟨0, by omega, rfl, by dsimp only; omega, fun j hj => by omega, Or.inl ⟨rfl, fun j hj => by omega⟩⟩ (by dsimp only; omega)
  rintro h5 ⟨x1, x2⟩ ⟨k, k0, k1, k2, k3, k4⟩ ih
  dsimp only at k1 k2 k3 k4
  subst k1
  unfold Fo_mostAlike_L5
  dsimp only
  by_cases c6 : (6 : Int) < (k : Int)
  · rw [if_pos c6]
    rw [show k = 7 by omega] at k3 k4
    exact wp_some ⟨k3, k4⟩
  · rw [if_neg c6, shr_ok hs.1 hs.2 (by omega) (by omega)]
    rcases b01 (s := s) (k := (k : Int)) with z | z
    · rw [if_pos z, w32_id (by omega)]
      refine ih _ ⟨k + 1, by omega, by dsimp only; omega, k2, fun j hj hb => ?_, ?_⟩ (by dsimp only; omega)
      · by_cases cj : j = k
        · subst cj; omega
        · exact k3 j (by omega) hb
      · rcases k4 with ⟨y1, y2⟩ | ⟨j, y1, y2, y3⟩
        · exact Or.inl ⟨y1, fun j hj => by
            by_cases cj : j = k
            · rw [cj]; exact z
            · exact y2 j (by omega)⟩
        · exact Or.inr ⟨j, by omega, y2, y3⟩
    · have g := inner x1 k (by omega) h5 (7 - k) k N (by omega) (by omega) (by omega)
      rw [show ∀ a : Int, a - a = 0 from fun a => by omega] at g
      rw [if_neg (by omega), g]
      have mo := cq_mono (sm_in s (fun j => X 170 (j * 7 + i)) (k : Int)) k (7 - k)
      rw [show k + (7 - k) = 7 by omega] at mo
      have jm : jmax x1 (cq (sm s (fun j => X 170 (j * 7 + i)) (k : Int)) 7 - cq (sm s (fun j => X 170 (j * 7 + i)) (k : Int)) k) = if x1 < cq (sm s (fun j => X 170 (j * 7 + i)) (k : Int)) 7 - cq (sm s (fun j => X 170 (j * 7 + i)) (k : Int)) k then cq (sm s (fun j => X 170 (j * 7 + i)) (k : Int)) 7 - cq (sm s (fun j => X 170 (j * 7 + i)) (k : Int)) k else x1 := rfl
      have hpos : 1 ≤ cq (sm s (fun j => X 170 (j * 7 + i)) (k : Int)) 7 - cq (sm s (fun j => X 170 (j * 7 + i)) (k : Int)) k := by
        have a := (cq_mono (sm_in s (fun j => X 170 (j * 7 + i)) (k : Int)) (k + 1) (7 - (k + 1))).1
        rw [show k + 1 + (7 - (k + 1)) = 7 by omega] at a
        have b : cq (sm s (fun j => X 170 (j * 7 + i)) (k : Int)) (k + 1) = cq (sm s (fun j => X 170 (j * 7 + i)) (k : Int)) k + 1 := by
          show cq (sm s (fun j => X 170 (j * 7 + i)) (k : Int)) k + sm s (fun j => X 170 (j * 7 + i)) (k : Int) k = _
          unfold sm; rw [if_pos ⟨z, rfl⟩]
        omega
      rw [jm]
      by_cases cl : x1 < cq (sm s (fun j => X 170 (j * 7 + i)) (k : Int)) 7 - cq (sm s (fun j => X 170 (j * 7 + i)) (k : Int)) k
      · rw [if_pos cl]
        refine ih _ ⟨k + 1, by omega, by dsimp only; omega, by dsimp only; omega, fun j hj hb => ?_, Or.inr ⟨k, by omega, z, rfl⟩⟩ (by dsimp only; omega)
        dsimp only
        by_cases cj : j = k
        · subst cj; omega
        · have := k3 j (by omega) hb; omega
      · rw [if_neg cl]
        refine ih _ ⟨k + 1, by omega, by dsimp only; omega, k2, fun j hj hb => ?_, ?_⟩ (by dsimp only; omega)
        · dsimp only
          by_cases cj : j = k
          · subst cj; omega
          · exact k3 j (by omega) hb
        · rcases k4 with ⟨y1, y2⟩ | ⟨j, y1, y2, y3⟩
          · omega
          · exact Or.inr ⟨j, by omega, y2, y3⟩
theorem alikeAt_ok {N : Nat} (hN : 1000 ≤ N) {Y : jMem} {s i : Int} (hr : 0 ≤ Y 0 2 ∧ Y 0 2 ≤ 6) (hf : ∀ k, 0 ≤ k → k < 7 → (s / p2 k % 2 = 1 ↔ (k ≤ Y 0 2 ∧ Y 19 k ≠ 0))) (hi : 0 ≤ i ∧ i < 7) : wp (m_alikeAt N i Y) (Mx s (fun k => cq (sm s (fun j => Y 20 (7 * j + i)) (k : Int)) 7)) := by
  unfold m_alikeAt
  have late : ∀ j : Nat, Y 0 2 < (j : Int) → j < 7 → s / p2 (j : Int) % 2 = 0 := fun j q0 q1 => by
    rcases b01 (s := s) (k := (j : Int)) with z | z
    · exact z
    · have := ((hf (j : Int) (by omega) (by omega)).mp z).1; omega
  have tot : ∀ k : Int, cq (sm s (fun j => Y 20 (7 * j + i)) k) (Y 0 2 + 1).toNat = cq (sm s (fun j => Y 20 (7 * j + i)) k) 7 := fun k => by
    have A : ∀ d : Nat, (Y 0 2 + 1).toNat + d ≤ 7 → cq (sm s (fun j => Y 20 (7 * j + i)) k) ((Y 0 2 + 1).toNat + d) = cq (sm s (fun j => Y 20 (7 * j + i)) k) (Y 0 2 + 1).toNat := by
      intro d
      induction d with
      | zero => intro _; rfl
      | succ d ih =>
        intro hd
        have q := ih (by omega)
        have e0 : sm s (fun j => Y 20 (7 * j + i)) k ((Y 0 2 + 1).toNat + d) = 0 := by
          unfold sm; rw [if_neg (fun z => by have := late ((Y 0 2 + 1).toNat + d) (by omega) (by omega); omega)]
        show cq (sm s (fun j => Y 20 (7 * j + i)) k) ((Y 0 2 + 1).toNat + d) + sm s (fun j => Y 20 (7 * j + i)) k ((Y 0 2 + 1).toNat + d) = _
        omega
    have := A (7 - (Y 0 2 + 1).toNat) (by omega)
    rw [show (Y 0 2 + 1).toNat + (7 - (Y 0 2 + 1).toNat) = 7 by omega] at this
    exact this.symm
  have inner : ∀ (x1 : Int) (k : Nat), (k : Int) ≤ Y 0 2 → s / p2 (k : Int) % 2 = 1 → ∀ (h4 : Int × Int → Option Int) (d j M : Nat), ((j + d : Nat) : Int) = Y 0 2 + 1 → d < M → jfix M (m_alikeAt_L18 N i Y x1 (k : Int) h4) (cq (sm s (fun j => Y 20 (7 * j + i)) (k : Int)) j, (j : Int)) = (if x1 < cq (sm s (fun j => Y 20 (7 * j + i)) (k : Int)) 7 then h4 (cq (sm s (fun j => Y 20 (7 * j + i)) (k : Int)) 7, (k : Int) + 1) else h4 (x1, (k : Int) + 1)) := by
    intro x1 k hk hs h4 d
    induction d with
    | zero =>
      intro j M jd hM
      obtain ⟨m, rfl⟩ : ∃ m, M = m + 1 := ⟨M - 1, by omega⟩
      rw [jfix_s]
      unfold m_alikeAt_L18 jlt
      dsimp only
      rw [if_pos (by omega), w32_id (by omega), ← tot (k : Int), show j = (Y 0 2 + 1).toNat by omega]
    | succ d ih =>
      intro j M jd hM
      obtain ⟨m, rfl⟩ : ∃ m, M = m + 1 := ⟨M - 1, by omega⟩
      have g := ih (j + 1) m (by omega) (by omega)
      have ec : cq (sm s (fun j => Y 20 (7 * j + i)) (k : Int)) (j + 1) = cq (sm s (fun j => Y 20 (7 * j + i)) (k : Int)) j + sm s (fun j => Y 20 (7 * j + i)) (k : Int) j := rfl
      have mo := cq_mono (sm_in s (fun j => Y 20 (7 * j + i)) (k : Int)) 0 j
      rw [show 0 + j = j by omega] at mo
      have z0 : cq (sm s (fun j => Y 20 (7 * j + i)) (k : Int)) 0 = 0 := rfl
      have hk19 := ((hf (k : Int) (by omega) (by omega)).mp hs).2
      have hj := hf (j : Int) (by omega) (by omega)
      rw [jfix_s]
      generalize jfix m (m_alikeAt_L18 N i Y x1 (k : Int) h4) = kk at g ⊢
      rw [show ((j + 1 : Nat) : Int) = (j : Int) + 1 by omega] at g
      unfold m_alikeAt_L18 jlt
      dsimp only
      rw [if_neg (show ¬ Y 0 2 < (j : Int) by omega), jchk_pos (by omega), if_neg hk19, jchk_pos (by omega), w32_id (x := (j : Int) + 1) (by omega), w32_id (x := 7 * (k : Int)) (by omega), w32_id (x := 7 * (k : Int) + i) (by omega), w32_id (x := 7 * (j : Int)) (by omega), w32_id (x := 7 * (j : Int) + i) (by omega)]
      by_cases c0 : Y 19 (j : Int) = 0
      · have e0 : sm s (fun j => Y 20 (7 * j + i)) (k : Int) j = 0 := by
          unfold sm; rw [if_neg (fun z => (hj.mp z.1).2 c0)]
        rw [ec, e0, Int.add_zero] at g
        rw [if_pos c0, w32_id (by omega), Int.add_zero]; exact g
      · have hb := hj.mpr ⟨by omega, c0⟩
        rw [if_neg c0, jchk_pos (by omega), jchk_pos (by omega)]
        by_cases c1 : Y 20 (7 * (k : Int) + i) = Y 20 (7 * (j : Int) + i)
        · have e0 : sm s (fun j => Y 20 (7 * j + i)) (k : Int) j = 1 := by unfold sm; rw [if_pos ⟨hb, c1⟩]
          rw [ec, e0] at g
          rw [if_pos c1, w32_id (by omega)]; exact g
        · have e0 : sm s (fun j => Y 20 (7 * j + i)) (k : Int) j = 0 := by unfold sm; rw [if_neg (fun q => c1 q.2)]
          rw [ec, e0, Int.add_zero] at g
          rw [if_neg c1, w32_id (by omega), Int.add_zero]; exact g
  refine wp_fix (fun t => (7 - t.2).toNat) (fun (t : Int × Int) => ∃ k : Nat, (k : Int) ≤ Y 0 2 + 1 ∧ t.2 = (k : Int) ∧ 0 ≤ t.1 ∧ (∀ j : Nat, j < k → s / p2 (j : Int) % 2 = 1 → cq (sm s (fun j => Y 20 (7 * j + i)) (j : Int)) 7 ≤ t.1) ∧ ((t.1 = 0 ∧ ∀ j : Nat, j < k → s / p2 (j : Int) % 2 = 0) ∨ ∃ j : Nat, j < k ∧ s / p2 (j : Int) % 2 = 1 ∧ t.1 = cq (sm s (fun j => Y 20 (7 * j + i)) (j : Int)) 7)) ?_ N _ ⟨0, by omega, rfl, by dsimp only; omega, fun j hj => by omega, Or.inl ⟨rfl, fun j hj => by omega⟩⟩ (by dsimp only; omega)
  rintro h4 ⟨x1, x2⟩ ⟨k, k0, k1, k2, k3, k4⟩ ih
  dsimp only at k1 k2 k3 k4
  subst k1
  unfold m_alikeAt_L4
  dsimp only
  by_cases c6 : Y 0 2 < (k : Int)
  · rw [if_pos c6]
    refine wp_some ⟨fun j q0 q1 => ?_, ?_⟩
    · by_cases cj : j < k
      · exact k3 j cj q1
      · have := late j (by omega) q0; omega
    · rcases k4 with ⟨y1, y2⟩ | ⟨j, y1, y2, y3⟩
      · refine Or.inl ⟨y1, fun j q0 => ?_⟩
        by_cases cj : j < k
        · exact y2 j cj
        · exact late j (by omega) q0
      · exact Or.inr ⟨j, by omega, y2, y3⟩
  · rw [if_neg c6]
    rcases b01 (s := s) (k := (k : Int)) with z | z
    · have h19 : Y 19 (k : Int) = 0 := by
        by_cases c : Y 19 (k : Int) = 0
        · exact c
        · have := (hf (k : Int) (by omega) (by omega)).mpr ⟨by omega, c⟩; omega
      obtain ⟨m, hm⟩ : ∃ m, N = m + 1 := ⟨N - 1, by omega⟩
      have e : jfix N (m_alikeAt_L18 N i Y x1 (k : Int) h4) (0, 0) = h4 (x1, (k : Int) + 1) := by
        rw [show jfix N (m_alikeAt_L18 N i Y x1 (k : Int) h4) (0, 0) = jfix (m + 1) (m_alikeAt_L18 N i Y x1 (k : Int) h4) (0, 0) by rw [← hm], jfix_s]
        unfold m_alikeAt_L18 jlt
        dsimp only
        rw [if_neg (show ¬ Y 0 2 < 0 by omega), jchk_pos (by omega), if_pos h19, if_neg (show ¬ x1 < 0 by omega), w32_id (by omega)]
      rw [e]
      refine ih _ ⟨k + 1, by omega, by dsimp only; omega, k2, fun j hj hb => ?_, ?_⟩ (by dsimp only; omega)
      · by_cases cj : j = k
        · subst cj; omega
        · exact k3 j (by omega) hb
      · rcases k4 with ⟨y1, y2⟩ | ⟨j, y1, y2, y3⟩
        · exact Or.inl ⟨y1, fun j hj => by
            by_cases cj : j = k
            · rw [cj]; exact z
            · exact y2 j (by omega)⟩
        · exact Or.inr ⟨j, by omega, y2, y3⟩
    · have g := inner x1 k (by omega) z h4 (Y 0 2 + 1).toNat 0 N (by omega) (by omega)
      rw [show cq (sm s (fun j => Y 20 (7 * j + i)) (k : Int)) 0 = 0 from rfl, show ((0 : Nat) : Int) = 0 from rfl] at g
      rw [g]
      have hpos : 1 ≤ cq (sm s (fun j => Y 20 (7 * j + i)) (k : Int)) 7 := by
        have a := (cq_mono (sm_in s (fun j => Y 20 (7 * j + i)) (k : Int)) (k + 1) (7 - (k + 1))).1
        rw [show k + 1 + (7 - (k + 1)) = 7 by omega] at a
        have b : cq (sm s (fun j => Y 20 (7 * j + i)) (k : Int)) (k + 1) = cq (sm s (fun j => Y 20 (7 * j + i)) (k : Int)) k + 1 := by
          show cq (sm s (fun j => Y 20 (7 * j + i)) (k : Int)) k + sm s (fun j => Y 20 (7 * j + i)) (k : Int) k = _
          unfold sm; rw [if_pos ⟨z, rfl⟩]
        have c := (cq_mono (sm_in s (fun j => Y 20 (7 * j + i)) (k : Int)) 0 k).1
        rw [show 0 + k = k by omega] at c
        have z0 : cq (sm s (fun j => Y 20 (7 * j + i)) (k : Int)) 0 = 0 := rfl
        omega
      by_cases cl : x1 < cq (sm s (fun j => Y 20 (7 * j + i)) (k : Int)) 7
      · rw [if_pos cl]
        refine ih _ ⟨k + 1, by omega, by dsimp only; omega, by dsimp only; omega, fun j hj hb => ?_, Or.inr ⟨k, by omega, z, rfl⟩⟩ (by dsimp only; omega)
        dsimp only
        by_cases cj : j = k
        · subst cj; omega
        · have := k3 j (by omega) hb; omega
      · rw [if_neg cl]
        refine ih _ ⟨k + 1, by omega, by dsimp only; omega, k2, fun j hj hb => ?_, ?_⟩ (by dsimp only; omega)
        · dsimp only
          by_cases cj : j = k
          · subst cj; omega
          · exact k3 j (by omega) hb
        · rcases k4 with ⟨y1, y2⟩ | ⟨j, y1, y2, y3⟩
          · omega
          · exact Or.inr ⟨j, by omega, y2, y3⟩
theorem tasteAll_ok {N : Nat} (hN : 1000 ≤ N) {X Y X2 Y2 : jMem} {a s : Int} (h : Rel X Y) (ha : 0 ≤ a ∧ a ≤ 60) (hs : 0 ≤ s ∧ s < 128) (hf : ∀ k, 0 ≤ k → k < 7 → (s / p2 k % 2 = 1 ↔ (k ≤ Y 0 2 ∧ Y2 19 k ≠ 0))) (F : FF X Y X2 Y2) (h10 : Y2 10 = Y 10) (ht : ∀ k, 0 ≤ k → k ≤ Y 0 2 → ∀ X0, Bg X X0 → ∀ i, 0 ≤ i → i < Y 10 1 → Y2 20 (7 * k + i) = gy N (rk k) X0 (a + 1).toNat 163 (gy N (rk k) X0 (a + 1).toNat 165 i)) :
    wp (Fo_tasteAll N s a X2) (fun o => o.1 = 0 ∧ FF X Y o.2 Y2 ∧ ∀ k, 0 ≤ k → k < 7 → s / p2 k % 2 = 1 → ∀ i, 0 ≤ i → i < Y 10 1 → o.2 170 (k * 7 + i) = Y2 20 (7 * k + i)) := by
  have w1 := (Rel_s h).2.1.1
  obtain ⟨-, u2, u3, -⟩ := h.2.1
  have inner : ∀ (x1 : Int) (G : jMem), 0 ≤ x1 → x1 < 7 → G 161 0 = Y 10 1 → (∀ i, 0 ≤ i → i < 7 → 0 ≤ G 165 i ∧ G 165 i < 7) → ∀ (h3 : Int × jMem → Option (Int × jMem)) (d : Nat) (i : Int) (M : Nat) (Z : jMem), Y 10 1 - i = (d : Int) → 0 ≤ i → d < M → (∀ p, p ≠ 170 → Z p = G p) → (∀ j, j < x1 * 7 ∨ x1 * 7 + 7 ≤ j → Z 170 j = G 170 j) → (∀ j, 0 ≤ j → j < i → Z 170 (x1 * 7 + j) = G 163 (G 165 j)) →
      ∃ Z', jfix M (Fo_tasteAll_L54 N x1 h3) (i, Z) = h3 (x1 + 1, Z') ∧ (∀ p, p ≠ 170 → Z' p = G p) ∧ (∀ j, j < x1 * 7 ∨ x1 * 7 + 7 ≤ j → Z' 170 j = G 170 j) ∧ (∀ j, 0 ≤ j → j < Y 10 1 → Z' 170 (x1 * 7 + j) = G 163 (G 165 j)) := by
    intro x1 G q0 q1 g0 g5 h3 d
    induction d with
    | zero =>
      intro i M Z hd hi hM f g k
      obtain ⟨m, rfl⟩ : ∃ m, M = m + 1 := ⟨M - 1, by omega⟩
      rw [jfix_s]
      unfold Fo_tasteAll_L54
      dsimp only
      rw [f 161 (by omega), g0, if_neg (by omega), w32_id (by omega)]
      exact ⟨Z, rfl, f, g, fun j j0 j1 => k j j0 (by omega)⟩
    | succ d ih =>
      intro i M Z hd hi hM f g k
      obtain ⟨m, rfl⟩ : ∃ m, M = m + 1 := ⟨M - 1, by omega⟩
      have g5i := g5 i hi (by omega)
      have r := ih (i + 1) m (up Z 170 (x1 * 7 + i) (G 163 (G 165 i))) (by omega) (by omega) (by omega) (fun p hp => by rw [up_ne hp]; exact f p hp) (fun j hj => by rw [up_col (by omega)]; exact g j hj) (fun j j0 j1 => by
        by_cases cj : j = i
        · rw [up_hit rfl (by omega), cj]
        · rw [up_col (by omega)]; exact k j j0 (by omega))
      rw [jfix_s]
      generalize jfix m (Fo_tasteAll_L54 N x1 h3) = kk at r ⊢
      unfold Fo_tasteAll_L54 jlt
      dsimp only
      simp only [f 161 (by omega), f 165 (by omega), f 163 (by omega), g0]
      rw [if_pos (by omega), jchk_pos (by omega), jchk_pos g5i, w32_id (x := x1 * 7) (by omega), w32_id (x := x1 * 7 + i) (by omega), jchk_pos (by omega), w32_id (x := i + 1) (by omega)]
      exact r
  unfold Fo_tasteAll
  refine wp_fix (fun t => (7 - t.1).toNat) (fun (t : Int × jMem) => (0 ≤ t.1 ∧ t.1 ≤ 7) ∧ FF X Y t.2 Y2 ∧ ∀ k, 0 ≤ k → k < t.1 → s / p2 k % 2 = 1 → ∀ i, 0 ≤ i → i < Y 10 1 → t.2 170 (k * 7 + i) = Y2 20 (7 * k + i)) ?_ N _ ⟨⟨by dsimp only; omega, by dsimp only; omega⟩, F, fun k q0 q1 => by dsimp only at q1; omega⟩ (by dsimp only; omega)
  rintro h3 ⟨x1, Xc⟩ ⟨hx, Fc, hc⟩ ih
  dsimp only at hx Fc hc
  unfold Fo_tasteAll_L3
  dsimp only
  by_cases c6 : 6 < x1
  · rw [if_pos c6]; exact wp_some ⟨rfl, Fc, fun k q0 q1 => hc k q0 (by omega)⟩
  · rw [if_neg c6, shr_ok hs.1 hs.2 (by omega) (by omega)]
    rcases b01 (s := s) (k := x1) with z | z
    · rw [if_pos z, w32_id (by omega)]
      exact ih _ ⟨⟨by dsimp only; omega, by dsimp only; omega⟩, Fc, fun k q0 q1 q2 => by
        dsimp only at q1 ⊢
        by_cases ck : k = x1
        · rw [ck] at q2; omega
        · exact hc k q0 (by omega) q2⟩ (by dsimp only; omega)
    · have hfx := (hf x1 (by omega) (by omega)).mp z
      obtain ⟨X3, b1, b2, b3⟩ := Bg_begin hN Fc.1
      obtain ⟨Y3, t1, t2, t3, t4, t5, t6⟩ := again_ok hN (Y' := up Y2 0 21 (x1 - 1)) (k := x1) h (by omega) ⟨fun q hq => by rw [up_ne (by omega)]; exact F.2.1 q hq, fun j q1 q2 q3 q4 => by rw [up_col q2]; exact F.2.2.1 j q1 q2 q3 q4, fun k q1 q2 => by rw [up_row (by omega)]; exact F.2.2.2 k q1 q2⟩ (up_hit rfl rfl) (fun k hk => by rw [up_row (by omega), h10])
      obtain ⟨F3, B3, -⟩ := t2 X3 b2
      obtain ⟨o1, o2⟩ := ruleOf_ok (N := N) (k := x1) (M := X3) (by omega)
      have go := gy_goOn hN B3 (by omega) (n := (a + 1).toNat) (by omega)
      rw [show (((a + 1).toNat : Nat) : Int) = a + 1 by omega] at go
      obtain ⟨Yk, bk, gk, gx, yk⟩ := gy_run hN B3 (by omega) (a + 1).toNat (by omega)
      have tv := ht x1 (by omega) (by omega) X3 b2
      generalize gy N (rk x1) X3 (a + 1).toNat = G at go bk gx tv
      have g0 : G 161 0 = Y 10 1 := by
        rw [show G 161 0 = Yk 10 1 from bk.1.1, gk.2.2 1 (by omega), t6 1 (by omega), up_row (by omega), h10]
      obtain ⟨Z', z1, z2, z3, z4⟩ := inner x1 G (by omega) (by omega) g0 (fun i i0 i1 => (tasteOf_ok (N := N) bk ⟨i0, i1⟩).1) h3 (Y 10 1).toNat 0 N G (by omega) (by omega) (by omega) (fun _ _ => rfl) (fun _ _ => rfl) (fun j j0 j1 => by omega)
      unfold jbv
      rw [if_neg (by omega), b1, Option.bind_some]
      dsimp only
      rw [o1, Option.bind_some, jchk_pos o2, w32_id (by omega), go, Option.bind_some]
      dsimp only
      rw [z1]
      refine ih _ ⟨⟨by dsimp only; omega, by dsimp only; omega⟩, ⟨fun p hp hst => ?_, F.2⟩, fun k q0 q1 q2 i i0 i1 => ?_⟩ (by dsimp only; omega)
      · dsimp only; rw [z2 p (by omega), gx p (by omega) (by omega) hst]; exact F3.1 p hp hst
      · dsimp only at q1 ⊢
        by_cases ck : k = x1
        · rw [ck, z4 i i0 i1]; exact (tv i i0 i1).symm
        · rw [z3 _ (by omega), gx 170 (by omega) (by omega) (by unfold Stk; omega), b3 170 (by omega)]
          exact hc k q0 (by omega) q2 i i0 i1
theorem look_ok {N : Nat} (hN : 1000 ≤ N) (a b : Int) : OK (x_look N a b) (m_look N a b) := by
  intro X Y h
  obtain ⟨r1, e1, f1, g1⟩ := within_ok N a 0 60 X Y
  obtain ⟨r2, e2, f2, g2⟩ := within_ok N b 0 1 X Y
  obtain ⟨r3, e3, f3, g3⟩ := hasParish_ok N h
  unfold x_look m_look
  rw [e1, e2, e3, f1, f2, f3]
  simp only [Option.bind_some]
  by_cases c3 : r3 = 0
  · rw [if_pos c3, if_pos c3]
    by_cases c1 : r1 = 0
    · rw [if_pos c1]; exact ⟨_, _, _, rfl, rfl, h, TF_refl⟩
    · rw [if_neg c1]
      by_cases c2 : r2 = 0
      · rw [if_pos c2]; exact ⟨_, _, _, rfl, rfl, h, TF_refl⟩
      · rw [if_neg c2]; exact ⟨_, _, _, rfl, rfl, h, TF_refl⟩
  · rw [if_neg c3, if_neg c3]
    by_cases c1 : r1 = 0
    · rw [if_pos c1, if_pos c1]; exact ⟨_, _, _, rfl, rfl, h, TF_refl⟩
    · rw [if_neg c1, if_neg c1]
      by_cases c2 : r2 = 0
      · rw [if_pos c2, if_pos c2]; exact ⟨_, _, _, rfl, rfl, h, TF_refl⟩
      · rw [if_neg c2, if_neg c2]
        obtain ⟨s, X2, Y2, p1, pp2, p3, p4, p5, p6, p7, p8⟩ := fits_ok hN (a := a) h (by omega)
        obtain ⟨-, u2, u3, -⟩ := h.2.1
        have w1 := (Rel_s h).2.1.1
        have y02 : Y2 0 2 = Y 0 2 := p5.2.2.1 2 (by omega) (by omega) (by omega) (by omega)
        have al : ∀ i, 0 ≤ i → i < 7 → wp (m_alikeAt N i Y2) (Mx s (fun k => cq (sm s (fun j => Y2 20 (7 * j + i)) (k : Int)) 7)) := fun i i0 i1 => alikeAt_ok hN (by rw [y02]; omega) (by rw [y02]; exact p4) ⟨i0, i1⟩
        unfold jb1 jbv
        rw [p1, pp2, Option.bind_some, Option.bind_some]
        dsimp only
        by_cases cs : s = 0
        · obtain ⟨R, T⟩ := fore_rel h p5 p6 p7
          have H : wp (jfix N (m_look_L46 N b Y2) (-2, -2, 0)) (fun o => o = (-2, Y2)) := by
            refine wp_fix (fun t => (7 - t.2.2).toNat) (fun (t : Int × Int × Int) => t.1 = -2 ∧ t.2.1 = -2 ∧ 0 ≤ t.2.2 ∧ t.2.2 ≤ Y 10 1) ?_ N _ ⟨rfl, rfl, by dsimp only; omega, by dsimp only; omega⟩ (by dsimp only; omega)
            rintro hh ⟨x5, x6, x7⟩ ⟨q1, q2, q3, q4⟩ ih
            dsimp only at q1 q2 q3 q4
            subst q1; subst q2
            unfold m_look_L46 jlt
            dsimp only
            rw [p6]
            by_cases cx : x7 < Y 10 1
            · obtain ⟨m, m1, m2, m3⟩ := al x7 q3 (by omega)
              have m0 : m = 0 := by
                rcases m3 with z | ⟨k, z1, z2, -⟩
                · exact z.1
                · rw [cs, Int.zero_ediv] at z2; omega
              rw [if_pos cx, m1, Option.bind_some, if_pos m0, w32_id (by omega)]
              exact ih _ ⟨rfl, rfl, by dsimp only; omega, by dsimp only; omega⟩ (by dsimp only; omega)
            · rw [if_neg cx]
              by_cases cb : b = 0
              · rw [if_pos cb]; exact wp_some rfl
              · rw [if_neg cb]; exact wp_some rfl
          obtain ⟨o, o1, o2⟩ := H
          rw [if_pos cs, o1, o2]
          exact ⟨_, _, _, rfl, rfl, R, T⟩
        · rw [if_neg cs]
          obtain ⟨⟨v, X3⟩, t1, t2, F3, t3⟩ := tasteAll_ok hN h (by omega) p3 p4 p5 p6 p8
          dsimp only at t2 F3 t3
          subst t2
          have x15 : X3 15 0 = Y 10 1 := by rw [F3.1 15 (by omega) (by unfold Stk; omega)]; exact (Rel_s h).2.2.1.1
          rw [t1, Option.bind_some]
          dsimp only
          rw [x15]
          have nz : ∃ k : Nat, k < 7 ∧ s / p2 (k : Int) % 2 = 1 := by
            refine Classical.byContradiction (fun hh => cs ?_)
            have z : ∀ k : Int, 0 ≤ k → k < 7 → s / p2 k % 2 = 0 := fun k q0 q1 => by
              rcases b01 (s := s) (k := k) with z | z
              · exact z
              · exact absurd ⟨k.toNat, by omega, by rw [show ((k.toNat : Nat) : Int) = k by omega]; exact z⟩ hh
            have a0 := z 0 (by omega) (by omega)
            have a1 := z 1 (by omega) (by omega)
            have a2 := z 2 (by omega) (by omega)
            have a3 := z 3 (by omega) (by omega)
            have a4 := z 4 (by omega) (by omega)
            have a5 := z 5 (by omega) (by omega)
            have a6 := z 6 (by omega) (by omega)
            rw [show p2 0 = 1 from rfl] at a0
            rw [show p2 1 = 2 from rfl] at a1
            rw [show p2 2 = 4 from rfl] at a2
            rw [show p2 3 = 8 from rfl] at a3
            rw [show p2 4 = 16 from rfl] at a4
            rw [show p2 5 = 32 from rfl] at a5
            rw [show p2 6 = 64 from rfl] at a6
            omega
          have same : ∀ (Xc : jMem) (i : Int), 0 ≤ i → i < Y 10 1 → (∀ j, Xc 170 j = X3 170 j) → ∃ m, Fo_mostAlike N i s Xc = some m ∧ m_alikeAt N i Y2 = some m ∧ 1 ≤ m ∧ m ≤ 7 := by
            intro Xc i i0 i1 he
            obtain ⟨m, m1, m2⟩ := mostAlike_ok hN (X := Xc) (s := s) (i := i) p3 (by omega)
            obtain ⟨m', m1', m2'⟩ := al i i0 (by omega)
            have es : ∀ k : Nat, k < 7 → s / p2 (k : Int) % 2 = 1 → ∀ j : Nat, j < 7 → sm s (fun j => Xc 170 (j * 7 + i)) (k : Int) j = sm s (fun j => Y2 20 (7 * j + i)) (k : Int) j := fun k hk hb j hj => by
              unfold sm
              have ek : Xc 170 ((k : Int) * 7 + i) = Y2 20 (7 * (k : Int) + i) := by rw [he]; exact t3 (k : Int) (by omega) (by omega) hb i i0 i1
              rcases b01 (s := s) (k := (j : Int)) with z | z
              · rw [if_neg (fun q => by omega), if_neg (fun q => by omega)]
              · have ej : Xc 170 ((j : Int) * 7 + i) = Y2 20 (7 * (j : Int) + i) := by rw [he]; exact t3 (j : Int) (by omega) (by omega) z i i0 i1
                by_cases cc : Y2 20 (7 * (k : Int) + i) = Y2 20 (7 * (j : Int) + i)
                · rw [if_pos ⟨z, by dsimp only; rw [ek, ej]; exact cc⟩, if_pos ⟨z, cc⟩]
                · rw [if_neg (fun q => cc (by have := q.2; dsimp only at this; rw [ek, ej] at this; exact this)), if_neg (fun q => cc q.2)]
            have m2c : Mx s (fun k => cq (sm s (fun j => Y2 20 (7 * j + i)) (k : Int)) 7 - cq (sm s (fun j => Y2 20 (7 * j + i)) (k : Int)) k) m := by
              obtain ⟨z1, z2⟩ := m2
              refine ⟨fun k q0 q1 => ?_, ?_⟩
              · have := z1 k q0 q1
                dsimp only at this ⊢
                rw [cq_eq 7 (fun j hj => es k q0 q1 j hj), cq_eq k (fun j hj => es k q0 q1 j (by omega))] at this
                exact this
              · rcases z2 with z | ⟨k, y1, y2, y3⟩
                · exact Or.inl z
                · refine Or.inr ⟨k, y1, y2, ?_⟩
                  dsimp only at y3 ⊢
                  rw [cq_eq 7 (fun j hj => es k y1 y2 j hj), cq_eq k (fun j hj => es k y1 y2 j (by omega))] at y3
                  exact y3
            obtain ⟨q1, q2, q3, q4⟩ := Mx_same m2c m2'
            subst q1
            refine ⟨m, m1, m1', ?_, q4⟩
            obtain ⟨k, k0, k1⟩ := nz
            by_cases cm : m = 0
            · have := q2 cm k k0; omega
            · omega
          have H : wp2 (jfix N (Fo_farmThatParts_L11 N (Y 10 1) s) (0, 0, up X3 157 6 8)) (jfix N (m_look_L46 N b Y2) (-2, -2, 0)) (fun o o' => o'.1 = (if b = 0 then o.1 else o.2 157 6) ∧ o'.2 = Y2 ∧ FF X Y o.2 Y2) := by
            refine wp2_fix (fun t => (7 - t.2.1).toNat) (fun (t : Int × Int × jMem) (t' : Int × Int × Int) => t.2.1 = t'.2.2 ∧ (0 ≤ t.2.1 ∧ t.2.1 ≤ Y 10 1) ∧ ((t.2.1 = 0 ∧ t.2.2 157 6 = 8 ∧ t'.1 = -2) ∨ (1 ≤ t.2.1 ∧ t.1 = t'.1 ∧ 0 ≤ t.1 ∧ t.2.2 157 6 = t'.2.1)) ∧ FF X Y t.2.2 Y2 ∧ (∀ j, t.2.2 170 j = X3 170 j)) ?_ N N _ _ ⟨rfl, ⟨by dsimp only; omega, by dsimp only; omega⟩, Or.inl ⟨rfl, by dsimp only; rw [up_hit rfl rfl], rfl⟩, ⟨fun p hp hst => by dsimp only; rw [up_ne (by omega)]; exact F3.1 p hp hst, F3.2⟩, fun j => by dsimp only; rw [up_row (by omega)]⟩ (by dsimp only; omega) (by dsimp only; omega)
            rintro h1 h2 ⟨x2, x3, Xc⟩ ⟨x5, x6, x7⟩ ⟨q1, q2, q3, Fc, he⟩ ih
            dsimp only at q1 q2 q3 Fc he
            subst q1
            unfold Fo_farmThatParts_L11 m_look_L46 jlt
            dsimp only
            rw [p6]
            by_cases cx : x3 < Y 10 1
            · obtain ⟨m, m1, m2, m3, m4⟩ := same Xc x3 q2.1 cx he
              rw [if_pos cx, if_pos cx, m1, m2, Option.bind_some, Option.bind_some, if_neg (show ¬ m = 0 by omega), w32_id (by omega)]
              have take := ih (x3, x3 + 1, up Xc 157 6 m) (x3, m, x3 + 1) ⟨rfl, ⟨by dsimp only; omega, by dsimp only; omega⟩, Or.inr ⟨by dsimp only; omega, rfl, q2.1, by dsimp only; rw [up_hit rfl rfl]⟩, ⟨fun p hp hst => by dsimp only; rw [up_ne (by omega)]; exact Fc.1 p hp hst, Fc.2⟩, fun j => by dsimp only; rw [up_row (by omega)]; exact he j⟩ (by dsimp only; omega)
              rcases q3 with ⟨z1, z2, z3⟩ | ⟨z1, z2, z3, z4⟩
              · rw [if_pos (show m < Xc 157 6 by omega), if_pos (show x5 < 0 by omega)]; exact take
              · rw [if_neg (show ¬ x5 < 0 by omega)]
                by_cases cm : m < Xc 157 6
                · rw [if_pos cm, if_pos (show m < x6 by omega)]; exact take
                · rw [if_neg cm, if_neg (show ¬ m < x6 by omega)]
                  exact ih _ _ ⟨rfl, ⟨by dsimp only; omega, by dsimp only; omega⟩, Or.inr ⟨by dsimp only; omega, z2, z3, z4⟩, Fc, he⟩ (by dsimp only; omega)
            · rw [if_neg cx, if_neg cx]
              rcases q3 with ⟨z1, z2, z3⟩ | ⟨z1, z2, z3, z4⟩
              · omega
              · by_cases cb : b = 0
                · rw [if_pos cb]; exact wp2_some ⟨by dsimp only; rw [if_pos cb]; omega, rfl, Fc⟩
                · rw [if_neg cb]; exact wp2_some ⟨by dsimp only; rw [if_neg cb]; omega, rfl, Fc⟩
          obtain ⟨⟨v, X4⟩, ⟨v', Y4⟩, q1, q2, q3, q4, F4⟩ := H
          dsimp only at q3 q4 F4
          subst q4
          obtain ⟨R, T⟩ := fore_rel h F4 p6 p7
          refine ⟨v', X4, Y4, ?_, q2, R, T⟩
          unfold Fo_farmThatParts jlt
          dsimp only
          rw [q1, Option.bind_some]
          dsimp only
          rw [q3]
          by_cases cb : b = 0
          · rw [if_pos cb, if_pos cb]
          · rw [if_neg cb, if_neg cb]
