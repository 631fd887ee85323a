/-! both tables tell the same -/
def OKT (f g : jMem → Option (Int × jMem)) : Prop := ∀ X Y, Rel X Y → TB X → ∃ v X' Y', f X = some (v, X') ∧ g Y = some (v, Y') ∧ Rel X' Y' ∧ TB X'
theorem Rel_lie {X X' Y Y' : jMem} (h : Rel X Y) (hx : ∀ p, p < 171 ∨ 176 < p → X' p = X p) (hy : ∀ p, p ≠ 0 → p < 13 ∨ 16 < p → Y' p = Y p) (h0 : ∀ j, j ≠ 31 → j ≠ 32 → Y' 0 j = Y 0 j) : Rel X' Y' :=
  Rel_frame h (fun p hp _ => hx p (by omega)) (fun p hp => hy p (by omega) (by omega)) (fun j hj => h0 j (by omega) (by omega))
theorem Wd_to' {κ : Int → Int} {n : Int} {g u : Int → Int} : ∀ (k : Nat) {ρ : Int → Int}, Wd κ n g k ρ → Wd κ n (fun i => u (g i)) k (fun i => u (ρ i))
  | 0, ρ, h => fun i i0 i1 => by dsimp only; rw [h i i0 i1]
  | k + 1, ρ, h => by
    obtain ⟨a, b, kp, w⟩ := h
    refine ⟨a, b, kp, Wd_En k (Wd_to' k w) (fun i _ _ => ?_)⟩
    unfold sw
    by_cases c : i = a
    · rw [if_pos c, if_pos c]
    · rw [if_neg c, if_neg c]
      by_cases d : i = b
      · rw [if_pos d, if_pos d]
      · rw [if_neg d, if_neg d]
theorem Wd_from' {κ : Int → Int} {n : Int} {g u : Int → Int} (hu : Pm n u) (hg : Pm n g) : ∀ (k : Nat) {ρ : Int → Int}, Pm n ρ → Wd κ n (fun i => u (g i)) k (fun i => u (ρ i)) → Wd κ n g k ρ
  | 0, ρ, hp, h => fun i i0 i1 => hu.2 (ρ i) (g i) (hp.1 i i0 i1).1 (hp.1 i i0 i1).2 (hg.1 i i0 i1).1 (hg.1 i i0 i1).2 (h i i0 i1)
  | k + 1, ρ, hp, h => by
    obtain ⟨a, b, kp, w⟩ := h
    have kp' := kp
    obtain ⟨k0, k1, k2, -⟩ := kp'
    refine ⟨a, b, kp, Wd_from' hu hg k (sw_Pm hp ⟨k0, by omega⟩ ⟨by omega, k2⟩ (by omega)) (Wd_En k w (fun i _ _ => ?_))⟩
    unfold sw
    by_cases c : i = a
    · rw [if_pos c, if_pos c]
    · rw [if_neg c, if_neg c]
      by_cases d : i = b
      · rw [if_pos d, if_pos d]
      · rw [if_neg d, if_neg d]
theorem Wd_g {κ : Int → Int} {n : Int} {g g' : Int → Int} (e : En n g g') : ∀ (k : Nat) {r : Int → Int}, Wd κ n g k r → Wd κ n g' k r
  | 0, r, h => fun i i0 i1 => by rw [h i i0 i1]; exact e i i0 i1
  | k + 1, r, h => by
    obtain ⟨a, b, kp, w⟩ := h
    exact ⟨a, b, kp, Wd_g e k w⟩
theorem Nr_map {κ : Int → Int} {n v : Int} {g g' r r' : Int → Int} (h1 : ∀ k : Nat, Wd κ n g k r → Wd κ n g' k r') (h2 : ∀ k : Nat, Wd κ n g' k r' → Wd κ n g k r) (h : Nr κ n g r v) : Nr κ n g' r' v := by
  rcases h with ⟨a, b⟩ | ⟨a, b, c⟩
  · exact Or.inl ⟨a, fun k w => b k (h2 k w)⟩
  · exact Or.inr ⟨a, h1 _ b, fun k w => c k (h2 k w)⟩
theorem comp_Pm {n : Int} {u r : Int → Int} (hu : Pm n u) (hr : Pm n r) : Pm n (fun i => u (r i)) :=
  ⟨fun i i0 i1 => hu.1 _ (hr.1 i i0 i1).1 (hr.1 i i0 i1).2, fun i j i0 i1 j0 j1 e => hr.2 i j i0 i1 j0 j1 (hu.2 _ _ (hr.1 i i0 i1).1 (hr.1 i i0 i1).2 (hr.1 j j0 j1).1 (hr.1 j j0 j1).2 e)⟩
/-- the row that leads back -/
theorem back_row {n : Int} {h : Int → Int} (hh : Pm n h) : ∃ w, Pm n w ∧ (∀ i, 0 ≤ i → i < n → h (w i) = i) ∧ (∀ i, 0 ≤ i → i < n → w (h i) = i) := by
  have ex : ∀ j : Int, ∃ i : Int, (0 ≤ j → j < n → (0 ≤ i ∧ i < n ∧ h i = j)) := fun j => by
    by_cases c : 0 ≤ j ∧ j < n
    · obtain ⟨i, i0, i1, i2⟩ := Pm_surj hh c
      exact ⟨i, fun _ _ => ⟨i0, i1, i2⟩⟩
    · exact ⟨0, fun a b => absurd ⟨a, b⟩ c⟩
  obtain ⟨w, hw⟩ := Classical.axiomOfChoice ex
  refine ⟨w, ⟨fun i i0 i1 => ⟨(hw i i0 i1).1, (hw i i0 i1).2.1⟩, fun i j i0 i1 j0 j1 e => ?_⟩, fun i i0 i1 => (hw i i0 i1).2.2, fun i i0 i1 => ?_⟩
  · rw [← (hw i i0 i1).2.2, ← (hw j j0 j1).2.2, e]
  · have a := hh.1 i i0 i1
    have b := hw (h i) a.1 a.2
    exact hh.2 _ _ b.1 b.2.1 i0 i1 b.2.2
/-- from t to h it is as far as to what t is called by h -/
theorem Nr_tr {κ : Int → Int} {n v : Int} {t h α : Int → Int} (ht : Pm n t) (hh : Pm n h) (ha : Pm n α) (e : ∀ i, 0 ≤ i → i < n → h (α i) = t i) (q : Nr κ n t h v) : Nr κ n (fun i => i) α v := by
  obtain ⟨σ, s1, s2, s3⟩ := back_row ha
  have hs : En n (fun i => t (σ i)) h := fun i i0 i1 => by
    have a := s1.1 i i0 i1
    dsimp only
    rw [← e (σ i) a.1 a.2, s2 i i0 i1]
  refine Nr_map (fun k w => ?_) (fun k w => ?_) q
  · have w1 := Wd_En k w (fun i i0 i1 => (hs i i0 i1).symm)
    have w2 := Wd_from ht k s1 w1
    exact Wd_inv k s1 (fun i i0 i1 => ⟨ha.1 i i0 i1, s3 i i0 i1⟩) w2
  · have w1 := Wd_inv k ha (fun i i0 i1 => ⟨s1.1 i i0 i1, s2 i i0 i1⟩) w
    exact Wd_En k (Wd_to (g := t) k w1) hs
/-- counts go over -/
theorem cq_into {m : Nat} {f f' : Nat → Int} {φ : Nat → Nat} (hf : ∀ c, f c = 0 ∨ f c = 1) (hf' : ∀ c, 0 ≤ f' c ∧ f' c ≤ 1) (h1 : ∀ c, c < m → f c = 1 → φ c < m ∧ f' (φ c) = 1) (h2 : ∀ c d, c < m → d < m → f c = 1 → f d = 1 → φ c = φ d → c = d) : cq f m ≤ cq f' m := by
  have A : ∀ k : Nat, k ≤ m → ∃ g : Nat → Int, (∀ y, g y = 0 ∨ (g y = 1 ∧ ∃ c, c < k ∧ f c = 1 ∧ φ c = y)) ∧ cq g m = cq f k := by
    intro k
    induction k with
    | zero => intro _; exact ⟨fun _ => 0, fun y => Or.inl rfl, cq_zero m (fun _ _ => rfl)⟩
    | succ k ih =>
      intro hk
      obtain ⟨g, g1, g2⟩ := ih (by omega)
      rcases hf k with z | z
      · refine ⟨g, fun y => ?_, ?_⟩
        · rcases g1 y with q | ⟨q, c, c0, c1, c2⟩
          · exact Or.inl q
          · exact Or.inr ⟨q, c, by omega, c1, c2⟩
        · show cq g m = cq f k + f k
          omega
      · obtain ⟨p1, p2'⟩ := h1 k (by omega) z
        have g0 : g (φ k) = 0 := by
          rcases g1 (φ k) with q | ⟨-, c, c0, c1, c2⟩
          · exact q
          · have := h2 c k (by omega) (by omega) c1 z c2; omega
        refine ⟨fun y => if y = φ k then 1 else g y, fun y => ?_, ?_⟩
        · dsimp only
          by_cases cy : y = φ k
          · rw [if_pos cy]; exact Or.inr ⟨rfl, k, by omega, z, cy.symm⟩
          · rw [if_neg cy]
            rcases g1 y with q | ⟨q, c, c0, c1, c2⟩
            · exact Or.inl q
            · exact Or.inr ⟨q, c, by omega, c1, c2⟩
        · rw [cq_upd, if_pos p1, g0, g2]
          show cq f k + (1 - 0) = cq f k + f k
          omega
  obtain ⟨g, g1, g2⟩ := A m (by omega)
  rw [← g2]
  have B : ∀ k : Nat, k ≤ m → cq g k ≤ cq f' k := by
    intro k
    induction k with
    | zero => intro _; exact Int.le_refl _
    | succ k ih =>
      intro hk
      have i := ih (by omega)
      have b := hf' k
      show cq g k + g k ≤ cq f' k + f' k
      rcases g1 k with q | ⟨q, c, c0, c1, c2⟩
      · omega
      · have := (h1 c c0 c1).2
        rw [c2] at this
        omega
  exact B m (by omega)
/-- what one table tells the other tells too, under other names -/
theorem val_map {κ : Int → Int} {n : Nat} (hn : n ≤ 7) {g g' u : Int → Int} {F Q F' Q' : Int → Int} {s s' : Int} {D D' : Int → Int → Prop} (hg : Pm n g) (hu : Pm n u) (e : En n (fun i => u (g i)) g') (b : BI κ n g (rank n) F Q s s D) (b' : BI κ n g' (rank n) F' Q' s' s' D') {r : Int → Int} (hr : Pm n r) : F' (rank n (fun i => u (r i))) = F (rank n r) := by
  have hc := rank_Cd hn
  have hg' : Pm n g' := Pm_En (comp_Pm hu hg) e
  have q := BI_end hc hg b hr
  have q' := BI_end hc hg' b' (comp_Pm hu hr)
  have m : Nr κ n g' (fun i => u (r i)) (F (rank n r)) := Nr_map (fun k w => Wd_g e k (Wd_to' k w)) (fun k w => Wd_from' hu hg k hr (Wd_g (fun i i0 i1 => (e i i0 i1).symm) k w)) q
  exact Nr_one q' m
theorem BI_code {κ : Int → Int} {n s i : Int} {g : Int → Int} {code : (Int → Int) → Int} {F Q : Int → Int} {D : Int → Int → Prop} (b : BI κ n g code F Q s i D) {c : Int} (c0 : 0 ≤ c) (c1 : c < 5040) : F c = -1 ∨ (0 ≤ F c ∧ ∃ j r, 0 ≤ j ∧ j < s ∧ Q j = c ∧ Pm n r ∧ code r = c) := by
  obtain ⟨ρ, h1, h2, h3, -⟩ := b
  rcases h3 c c0 c1 with z | ⟨j, j0, j1, j2⟩
  · exact Or.inl z
  · obtain ⟨p1, p2', p3, -⟩ := h2 j j0 j1
    rw [j2] at p3
    exact Or.inr ⟨p3, j, ρ j, j0, j1, j2, p1, by rw [← p2', j2]⟩
theorem count_le {κ : Int → Int} {n : Nat} (hn : n ≤ 7) {g g' u : Int → Int} {F Q F' Q' : Int → Int} {s s' : Int} {D D' : Int → Int → Prop} (hg : Pm n g) (hu : Pm n u) (e : En n (fun i => u (g i)) g') (b : BI κ n g (rank n) F Q s s D) (b' : BI κ n g' (rank n) F' Q' s' s' D') (a : Int) : cq (fun c => if 0 ≤ F (c : Int) ∧ F (c : Int) ≤ a then (1 : Int) else 0) 5040 ≤ cq (fun c => if 0 ≤ F' (c : Int) ∧ F' (c : Int) ≤ a then (1 : Int) else 0) 5040 := by
  have hc := rank_Cd hn
  have ex : ∀ c : Int, ∃ r : Int → Int, (0 ≤ c → c < 5040 → F c ≠ -1 → Pm n r ∧ rank n r = c) := fun c => by
    by_cases z : 0 ≤ c ∧ c < 5040 ∧ F c ≠ -1
    · rcases BI_code b z.1 z.2.1 with q | ⟨-, j, r, -, -, -, q1, q2⟩
      · exact absurd q z.2.2
      · exact ⟨r, fun _ _ _ => ⟨q1, q2⟩⟩
    · exact ⟨fun i => i, fun x y w => absurd ⟨x, y, w⟩ z⟩
  obtain ⟨row, hrow⟩ := Classical.axiomOfChoice ex
  have one : ∀ c : Nat, c < 5040 → (if 0 ≤ F (c : Int) ∧ F (c : Int) ≤ a then (1 : Int) else 0) = 1 → (0 ≤ F (c : Int) ∧ F (c : Int) ≤ a) ∧ Pm n (row (c : Int)) ∧ rank n (row (c : Int)) = (c : Int) := fun c hc' q => by
    by_cases z : 0 ≤ F (c : Int) ∧ F (c : Int) ≤ a
    · exact ⟨z, hrow (c : Int) (by omega) (by omega) (by omega)⟩
    · rw [if_neg z] at q; omega
  refine cq_into (φ := fun c => (rank n (fun i => u (row (c : Int) i))).toNat) (fun c => ?_) (fun _ => ind_in) (fun c c0 c1 => ?_) (fun c d c0 d0 c1 d1 q => ?_)
  · by_cases z : 0 ≤ F (c : Int) ∧ F (c : Int) ≤ a
    · rw [if_pos z]; exact Or.inr rfl
    · rw [if_neg z]; exact Or.inl rfl
  · obtain ⟨q1, q2, q3⟩ := one c c0 c1
    have rr := rank_in hn (comp_Pm hu q2)
    have vm := val_map hn hg hu e b b' q2
    rw [q3] at vm
    refine ⟨by omega, ?_⟩
    rw [show (((rank n (fun i => u (row (c : Int) i))).toNat : Nat) : Int) = rank n (fun i => u (row (c : Int) i)) by omega, vm, if_pos q1]
  · obtain ⟨-, q2, q3⟩ := one c c0 c1
    obtain ⟨-, p2', p3⟩ := one d d0 d1
    have r1 := rank_in hn (comp_Pm hu q2)
    have r2 := rank_in hn (comp_Pm hu p2')
    have en := hc.2.1 _ _ (comp_Pm hu q2) (comp_Pm hu p2') (by omega)
    have e2 : En n (row (c : Int)) (row (d : Int)) := fun i i0 i1 => hu.2 _ _ (q2.1 i i0 i1).1 (q2.1 i i0 i1).2 (p2'.1 i i0 i1).1 (p2'.1 i i0 i1).2 (en i i0 i1)
    have := hc.2.2 _ _ e2
    omega
theorem rankNow_ok {N : Nat} (hN : 1000 ≤ N) {Y : jMem} {n : Nat} (hn : n ≤ 7) (h1 : Y 10 1 = (n : Int)) (hh : Pm n (fun f => Y 10 (32 + f))) : ∃ Y', m_rankNow N Y = some (rank n (fun f => Y 10 (32 + f)), Y') ∧ (∀ p, p ≠ 13 → Y' p = Y p) := by
  have H : wp (m_rankNow N Y) (fun o => o.1 = rank n (fun f => Y 10 (32 + f)) ∧ (∀ p, p ≠ 13 → o.2 p = Y p)) := by
    unfold m_rankNow
    refine wp_fix (fun t => (7 - t.1).toNat) (fun (t : Int × jMem) => (0 ≤ t.1 ∧ t.1 ≤ (n : Int)) ∧ (∀ p, p ≠ 13 → t.2 p = Y p) ∧ (∀ i, 0 ≤ i → i < t.1 → t.2 13 i = Y 10 (32 + i))) ?_ N _ ⟨⟨by dsimp only; omega, by dsimp only; omega⟩, fun _ _ => rfl, fun i i0 i1 => by dsimp only at i1; omega⟩ (by dsimp only; omega)
    rintro h ⟨x, Z⟩ ⟨hx, f, g⟩ ih
    dsimp only at hx f g
    unfold m_rankNow_L2 jlt
    dsimp only
    rw [f 10 (by omega), h1]
    by_cases c : x < (n : Int)
    · rw [if_pos c, w32_id (x := 32 + x) (by omega), jchk_pos (by omega), jchk_pos (by omega), w32_id (by omega)]
      exact ih _ ⟨⟨by dsimp only; omega, by dsimp only; omega⟩, fun p hp => by dsimp only; rw [up_ne hp]; exact f p hp, fun i i0 i1 => by
        dsimp only at i1 ⊢
        by_cases ci : i = x
        · rw [up_hit rfl ci, ci]
        · rw [up_col ci]; exact g i i0 (by omega)⟩ (by dsimp only; omega)
    · rw [if_neg c, rankOf_ok hN hn hh (by rw [f 10 (by omega)]; exact h1) (fun i i0 i1 => g i i0 (by omega)), Option.bind_some]
      exact wp_some ⟨rfl, f⟩
  obtain ⟨⟨v, M'⟩, e, q1, q2⟩ := H
  dsimp only at q1 q2
  subst q1
  exact ⟨M', e, q2⟩
theorem Rel_K {X Y : jMem} (h : Rel X Y) (h2 : 2 ≤ Y 10 1) : ∃ n : Nat, 2 ≤ n ∧ n ≤ 7 ∧ Y 10 1 = (n : Int) ∧ KX X (fun a => Y 10 (53 + a)) n ∧ KY Y n ∧ Pm n (fun f => Y 10 (32 + f)) ∧ (∀ i, 0 ≤ i → i < 7 → X 25 i = Y 10 (32 + i)) := by
  obtain ⟨s, w, pk, -⟩ := Rel_s h
  have w1 := w.1
  have wk := w.2.2.2.2.2.2.2.2.1
  refine ⟨(Y 10 1).toNat, by omega, by omega, by omega, ⟨by rw [show (((Y 10 1).toNat : Nat) : Int) = Y 10 1 by omega]; exact pk.1, fun i i0 i1 => ⟨pk.2.2 i i0 i1, wk i i0 i1⟩⟩, ⟨by omega, wk⟩, ?_, s.2.2.2.2.2.1⟩
  rw [show (((Y 10 1).toNat : Nat) : Int) = Y 10 1 by omega]
  exact ⟨fun i i0 i1 => ⟨(w.2.2.2.2.2.1 i i0 (by omega)).1, w.2.2.2.2.2.2.2.2.2.1 i i0 i1⟩, w.2.2.2.2.2.2.2.2.2.2.1⟩
