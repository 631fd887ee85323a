/-! nearest first -/
def Cd (n : Int) (code : (Int → Int) → Int) : Prop := (∀ r, Pm n r → 0 ≤ code r ∧ code r < 5040) ∧ (∀ r r', Pm n r → Pm n r' → code r = code r' → En n r r') ∧ (∀ r r', En n r r' → code r = code r')
def BI (κ : Int → Int) (n : Int) (g : Int → Int) (code : (Int → Int) → Int) (F Q : Int → Int) (s i : Int) (D : Int → Int → Prop) : Prop :=
  ∃ ρ : Int → Int → Int, (1 ≤ s ∧ s ≤ 5040 ∧ 0 ≤ i ∧ i ≤ s) ∧
    (∀ j, 0 ≤ j → j < s → Pm n (ρ j) ∧ Q j = code (ρ j) ∧ 0 ≤ F (Q j) ∧ Wd κ n g (F (Q j)).toNat (ρ j)) ∧
    (∀ c, 0 ≤ c → c < 5040 → F c = -1 ∨ ∃ j, 0 ≤ j ∧ j < s ∧ Q j = c) ∧
    (∀ j j', 0 ≤ j → j < s → 0 ≤ j' → j' < s → Q j = Q j' → j = j') ∧
    (∀ j j', 0 ≤ j → j ≤ j' → j' < s → F (Q j) ≤ F (Q j')) ∧
    (i < s → ∀ j, 0 ≤ j → j < s → F (Q j) ≤ F (Q i) + 1) ∧
    (∀ j, 0 ≤ j → j ≤ i → j < s → ∀ a b, Kp κ n a b → (j < i ∨ D a b) → F (code (sw (ρ j) a b)) ≠ -1 ∧ F (code (sw (ρ j) a b)) ≤ F (Q j) + 1) ∧
    (F (code g) = 0 ∧ Q 0 = code g) ∧
    (∀ a, cq (fun c => if 0 ≤ F (c : Int) ∧ F (c : Int) ≤ a then 1 else 0) 5040 = cq (fun j => if F (Q (j : Int)) ≤ a then 1 else 0) s.toNat)
theorem BI_weak {κ : Int → Int} {n s i : Int} {g : Int → Int} {code : (Int → Int) → Int} {F Q : Int → Int} {D D' : Int → Int → Prop} (h : BI κ n g code F Q s i D) (hd : ∀ a b, Kp κ n a b → D' a b → D a b) : BI κ n g code F Q s i D' := by
  obtain ⟨ρ, h1, h2, h3, h4, h5, h6, h7, h8, h9⟩ := h
  refine ⟨ρ, h1, h2, h3, h4, h5, h6, fun j j0 j1 j2 a b kp q => h7 j j0 j1 j2 a b kp ?_, h8, h9⟩
  rcases q with q | q
  · exact Or.inl q
  · exact Or.inr (hd a b kp q)
theorem BI_next {κ : Int → Int} {n s i : Int} {g : Int → Int} {code : (Int → Int) → Int} {F Q : Int → Int} {D D' : Int → Int → Prop} (h : BI κ n g code F Q s i D) (hi : i < s) (hd : ∀ a b, Kp κ n a b → D a b) (hd' : ∀ a b, Kp κ n a b → ¬ D' a b) : BI κ n g code F Q s (i + 1) D' := by
  obtain ⟨ρ, h1, h2, h3, h4, h5, h6, h7, h8, h9⟩ := h
  refine ⟨ρ, by omega, h2, h3, h4, h5, fun q j j0 j1 => ?_, fun j j0 j1 j2 a b kp q => ?_, h8, h9⟩
  · have a1 := h6 hi j j0 j1
    have a2 := h5 i (i + 1) (by omega) (by omega) q
    omega
  · rcases q with q | q
    · by_cases c : j = i
      · exact h7 j j0 (by omega) j2 a b kp (Or.inr (hd a b kp))
      · exact h7 j j0 (by omega) j2 a b kp (Or.inl (by omega))
    · exact absurd q (hd' a b kp)
theorem BI_level {κ : Int → Int} {n s i : Int} {g : Int → Int} {code : (Int → Int) → Int} {F Q : Int → Int} {D : Int → Int → Prop} (hc : Cd n code) (hg : Pm n g) (h : BI κ n g code F Q s i D) (m : Int) (hm : (i < s ∧ m ≤ F (Q i)) ∨ i = s) : ∀ (k : Nat) {r : Int → Int}, (k : Int) ≤ m → Wd κ n g k r → F (code r) ≠ -1 ∧ F (code r) ≤ (k : Int) := by
  obtain ⟨ρ, h1, h2, h3, h4, h5, h6, h7, h8, h9⟩ := h
  intro k
  induction k with
  | zero => intro r hk w; rw [hc.2.2 r g w, h8.1]; omega
  | succ k ih =>
    intro r hk w
    obtain ⟨a, b, kp, w'⟩ := w
    have kp' := kp
    obtain ⟨k0, k1, k2, -⟩ := kp'
    obtain ⟨q1, q2⟩ := ih (by omega) w'
    have hp := Wd_Pm hg k w'
    have hr := hc.1 _ hp
    rcases h3 (code (sw r a b)) hr.1 hr.2 with z | ⟨j, j0, j1, j2⟩
    · exact absurd z q1
    · obtain ⟨p1, p2', p3, p4⟩ := h2 j j0 j1
      have e1 : En n (sw r a b) (ρ j) := hc.2.1 _ _ hp p1 (by rw [← j2]; exact p2')
      have e2 : En n (sw (ρ j) a b) r := fun x x0 x1 => by
        rw [← sw_En e1 (a := a) (b := b) ⟨k0, by omega⟩ ⟨by omega, k2⟩ x x0 x1]
        exact sw_sw (by omega) x
      have ji : j < i := by
        rcases hm with ⟨m1, m2⟩ | m1
        · by_cases c : j < i
          · exact c
          · have := h5 i j (by omega) (by omega) j1
            rw [j2] at this
            omega
        · omega
      have cl := h7 j j0 (by omega) j1 a b kp (Or.inl ji)
      rw [hc.2.2 _ _ e2, j2] at cl
      exact ⟨cl.1, by omega⟩
theorem BI_short {κ : Int → Int} {n : Nat} {s i : Int} {g : Int → Int} {code : (Int → Int) → Int} {F Q : Int → Int} {D : Int → Int → Prop} (hn : n ≤ 7) (hc : Cd n code) (hg : Pm n g) (h : BI κ n g code F Q s i D) (hi : i < s) : 0 ≤ F (Q i) ∧ F (Q i) ≤ 77 := by
  have h' := h
  obtain ⟨ρ, h1, h2, -⟩ := h
  obtain ⟨p1, p2', p3, p4⟩ := h2 i (by omega) hi
  refine ⟨p3, ?_⟩
  obtain ⟨m, m0, m1⟩ := Wd_short hn hg p4
  by_cases c : F (Q i) ≤ (m : Int)
  · omega
  · have := (BI_level hc hg h' (F (Q i)) (Or.inl ⟨hi, Int.le_refl _⟩) m (by omega) m1).2
    rw [← p2'] at this
    omega
theorem ind_in {P : Prop} [Decidable P] : 0 ≤ (if P then (1 : Int) else 0) ∧ (if P then (1 : Int) else 0) ≤ 1 := by
  by_cases c : P
  · rw [if_pos c]; omega
  · rw [if_neg c]; omega
theorem BI_vis {κ : Int → Int} {n : Nat} {s i a b : Int} {g r : Int → Int} {code : (Int → Int) → Int} {F Q : Int → Int} {D D' : Int → Int → Prop} (hn : n ≤ 7) (hc : Cd n code) (hg : Pm n g) (h : BI κ n g code F Q s i D) (hi : i < s) (kp : Kp κ n a b) (hr : Pm n r) (hri : code r = Q i) (hd : ∀ a' b', D' a' b' → D a' b' ∨ (a' = a ∧ b' = b)) :
    (F (code (sw r a b)) ≠ -1 → 0 ≤ F (code (sw r a b)) ∧ BI κ n g code F Q s i D') ∧ (F (code (sw r a b)) = -1 → s < 5040 ∧ BI κ n g code (fun x => if x = code (sw r a b) then F (Q i) + 1 else F x) (fun x => if x = s then code (sw r a b) else Q x) (s + 1) i D') := by
  have h' := h
  obtain ⟨ρ, h1, h2, h3, h4, h5, h6, h7, h8, h9⟩ := h
  have kp' := kp
  obtain ⟨k0, k1, k2, -⟩ := kp'
  obtain ⟨p1, p2', p3, p4⟩ := h2 i (by omega) hi
  have er : En n r (ρ i) := hc.2.1 _ _ hr p1 (by rw [hri]; exact p2')
  have hsw := sw_Pm hr (a := a) (b := b) ⟨k0, by omega⟩ ⟨by omega, k2⟩ (by omega)
  have cr := hc.1 _ hsw
  have ec : code (sw (ρ i) a b) = code (sw r a b) := (hc.2.2 _ _ (sw_En er ⟨k0, by omega⟩ ⟨by omega, k2⟩)).symm
  refine ⟨fun hF => ?_, fun hF => ?_⟩
  · rcases h3 _ cr.1 cr.2 with z | ⟨j, j0, j1, j2⟩
    · exact absurd z hF
    · have pos := (h2 j j0 j1).2.2.1
      rw [j2] at pos
      refine ⟨pos, ρ, h1, h2, h3, h4, h5, h6, fun j' q0 q1 q2 a' b' kp' q => ?_, h8, h9⟩
      rcases q with q | q
      · exact h7 j' q0 q1 q2 a' b' kp' (Or.inl q)
      · rcases hd a' b' q with q | ⟨qa, qb⟩
        · exact h7 j' q0 q1 q2 a' b' kp' (Or.inr q)
        · subst qa; subst qb
          by_cases ci : j' = i
          · subst ci
            rw [ec]
            refine ⟨hF, ?_⟩
            have := h6 hi j j0 j1
            rw [j2] at this
            exact this
          · exact h7 j' q0 q1 q2 a' b' kp' (Or.inl (by omega))
  · generalize code (sw r a b) = c at cr ec hF ⊢
    have old : ∀ j, 0 ≤ j → j < s → Q j ≠ c := fun j j0 j1 z => by
      have := (h2 j j0 j1).2.2.1
      rw [z] at this; omega
    have s5 : s < 5040 := by
      by_cases cs : s < 5040
      · exact cs
      · have e := h9 1000000
        have bound : ∀ j, 0 ≤ j → j < s → F (Q j) ≤ 1000000 := fun j j0 j1 => by
          have := h6 hi j j0 j1
          have := (BI_short hn hc hg h' hi).2
          omega
        have full : cq (fun j => if F (Q (j : Int)) ≤ 1000000 then (1 : Int) else 0) s.toNat = 5040 := by
          have : cq (fun j => if F (Q (j : Int)) ≤ 1000000 then (1 : Int) else 0) s.toNat = cq (fun _ => 1) s.toNat := cq_eq _ (fun j hj => if_pos (bound (j : Int) (by omega) (by omega)))
          rw [this]
          have one : ∀ m : Nat, cq (fun _ => (1 : Int)) m = (m : Int) := by
            intro m; induction m with
            | zero => rfl
            | succ m ih => show cq (fun _ => (1 : Int)) m + 1 = _; rw [ih]; omega
          rw [one]; omega
        rw [full] at e
        have := cq_full (f := fun c => if 0 ≤ F (c : Int) ∧ F (c : Int) ≤ 1000000 then (1 : Int) else 0) (fun _ => ind_in) (k := c.toNat) 5040 e (by omega)
        rw [show ((c.toNat : Nat) : Int) = c by omega, if_neg (by omega)] at this
        omega
    have FQ : ∀ j, 0 ≤ j → j < s → (if (if j = s then c else Q j) = c then F (Q i) + 1 else F (if j = s then c else Q j)) = F (Q j) := fun j j0 j1 => by
      rw [if_neg (show ¬ j = s by omega), if_neg (old j j0 j1)]
    have FQs : (if (if s = s then c else Q s) = c then F (Q i) + 1 else F (if s = s then c else Q s)) = F (Q i) + 1 := by
      rw [if_pos rfl, if_pos rfl]
    have ip := (h2 i (by omega) hi).2.2.1
    refine ⟨s5, fun j => if j = s then sw (ρ i) a b else ρ j, by omega, fun j j0 j1 => ?_, fun x x0 x1 => ?_, fun j j' q0 q1 q2 q3 e => ?_, fun j j' q0 q1 q2 => ?_, fun _ j q0 q1 => ?_, fun j' q0 q1 q2 a' b' kp' q => ?_, ⟨?_, ?_⟩, fun a' => ?_⟩
    · dsimp only
      by_cases cj : j = s
      · subst cj
        rw [FQs, if_pos rfl, if_pos rfl]
        refine ⟨sw_Pm p1 ⟨k0, by omega⟩ ⟨by omega, k2⟩ (by omega), ec.symm, by omega, ?_⟩
        rw [show (F (Q i) + 1).toNat = (F (Q i)).toNat + 1 by omega]
        exact Wd_step p4 kp
      · rw [FQ j j0 (by omega), if_neg cj, if_neg cj]
        exact h2 j j0 (by omega)
    · dsimp only
      by_cases cx : x = c
      · exact Or.inr ⟨s, by omega, by omega, by rw [if_pos rfl]; exact cx.symm⟩
      · rw [if_neg cx]
        rcases h3 x x0 x1 with z | ⟨j, j0, j1, j2⟩
        · exact Or.inl z
        · exact Or.inr ⟨j, j0, by omega, by rw [if_neg (show ¬ j = s by omega)]; exact j2⟩
    · dsimp only at e
      by_cases cj : j = s
      · by_cases cj' : j' = s
        · omega
        · rw [if_pos cj, if_neg cj'] at e
          exact absurd e.symm (old j' q2 (by omega))
      · by_cases cj' : j' = s
        · rw [if_neg cj, if_pos cj'] at e
          exact absurd e (old j q0 (by omega))
        · rw [if_neg cj, if_neg cj'] at e
          exact h4 j j' q0 (by omega) q2 (by omega) e
    · dsimp only
      by_cases cj' : j' = s
      · subst cj'
        rw [FQs]
        by_cases cj : j = j'
        · subst cj; rw [FQs]; omega
        · rw [FQ j q0 (by omega)]; exact h6 hi j q0 (by omega)
      · rw [FQ j' (by omega) (by omega), FQ j q0 (by omega)]
        exact h5 j j' q0 q1 (by omega)
    · dsimp only
      rw [FQ i (by omega) hi]
      by_cases cj : j = s
      · subst cj; rw [FQs]; omega
      · rw [FQ j q0 (by omega)]; exact h6 hi j q0 (by omega)
    · dsimp only
      have js : ¬ j' = s := by omega
      rw [FQ j' q0 (by omega), if_neg js]
      have res : (j' < i ∨ D a' b') → (if code (sw (ρ j') a' b') = c then F (Q i) + 1 else F (code (sw (ρ j') a' b'))) ≠ -1 ∧ (if code (sw (ρ j') a' b') = c then F (Q i) + 1 else F (code (sw (ρ j') a' b'))) ≤ F (Q j') + 1 := fun q => by
        have := h7 j' q0 q1 (by omega) a' b' kp' q
        by_cases cc : code (sw (ρ j') a' b') = c
        · rw [cc] at this; exact absurd hF this.1
        · rw [if_neg cc]; exact this
      rcases q with q | q
      · exact res (Or.inl q)
      · rcases hd a' b' q with q | ⟨qa, qb⟩
        · exact res (Or.inr q)
        · subst qa; subst qb
          by_cases ci : j' = i
          · subst ci
            rw [if_pos ec]; omega
          · exact res (Or.inl (by omega))
    · dsimp only
      rw [if_neg (fun z => by rw [← z] at hF; rw [h8.1] at hF; omega)]
      exact h8.1
    · dsimp only
      rw [if_neg (show ¬ (0 : Int) = s by omega)]; exact h8.2
    · have e := h9 a'
      have l1 : cq (fun x => if 0 ≤ (if (x : Int) = c then F (Q i) + 1 else F (x : Int)) ∧ (if (x : Int) = c then F (Q i) + 1 else F (x : Int)) ≤ a' then (1 : Int) else 0) 5040 = cq (fun x => if x = c.toNat then (if F (Q i) + 1 ≤ a' then 1 else 0) else (if 0 ≤ F (x : Int) ∧ F (x : Int) ≤ a' then 1 else 0)) 5040 := cq_eq _ (fun x hx => by
        by_cases cx : (x : Int) = c
        · rw [if_pos (show x = c.toNat by omega)]
          by_cases ca : F (Q i) + 1 ≤ a'
          · rw [if_pos ca, if_pos (by rw [if_pos cx]; omega)]
          · rw [if_neg ca, if_neg (by rw [if_pos cx]; omega)]
        · rw [if_neg (show ¬ x = c.toNat by omega)]
          by_cases ca : 0 ≤ F (x : Int) ∧ F (x : Int) ≤ a'
          · rw [if_pos ca, if_pos (by rw [if_neg cx]; exact ca)]
          · rw [if_neg ca, if_neg (by rw [if_neg cx]; exact ca)])
      have l2 := cq_upd (f := fun x => if 0 ≤ F (x : Int) ∧ F (x : Int) ≤ a' then (1 : Int) else 0) (k := c.toNat) (v := if F (Q i) + 1 ≤ a' then 1 else 0) 5040
      have fk : (if 0 ≤ F ((c.toNat : Nat) : Int) ∧ F ((c.toNat : Nat) : Int) ≤ a' then (1 : Int) else 0) = 0 := by
        rw [show ((c.toNat : Nat) : Int) = c by omega]
        exact if_neg (by omega)
      rw [if_pos (show c.toNat < 5040 by omega), fk] at l2
      rw [l1, l2, e]
      rw [show (s + 1).toNat = s.toNat + 1 by omega]
      show _ = cq (fun j => if (if (if (j : Int) = s then c else Q (j : Int)) = c then F (Q i) + 1 else F (if (j : Int) = s then c else Q (j : Int))) ≤ a' then (1 : Int) else 0) s.toNat + (if (if (if ((s.toNat : Nat) : Int) = s then c else Q ((s.toNat : Nat) : Int)) = c then F (Q i) + 1 else F (if ((s.toNat : Nat) : Int) = s then c else Q ((s.toNat : Nat) : Int))) ≤ a' then (1 : Int) else 0)
      rw [show ((s.toNat : Nat) : Int) = s by omega]
      have l3 : cq (fun j => if (if (if (j : Int) = s then c else Q (j : Int)) = c then F (Q i) + 1 else F (if (j : Int) = s then c else Q (j : Int))) ≤ a' then (1 : Int) else 0) s.toNat = cq (fun j => if F (Q (j : Int)) ≤ a' then (1 : Int) else 0) s.toNat := cq_eq _ (fun j hj => by
        have := FQ (j : Int) (by omega) (by omega)
        by_cases ca : F (Q (j : Int)) ≤ a'
        · rw [if_pos ca, if_pos (by rw [this]; exact ca)]
        · rw [if_neg ca, if_neg (by rw [this]; exact ca)])
      rw [l3]
      by_cases ca : F (Q i) + 1 ≤ a'
      · rw [if_pos ca, if_pos (by rw [FQs]; exact ca)]; omega
      · rw [if_neg ca, if_neg (by rw [FQs]; exact ca)]; omega
theorem BI_init {κ : Int → Int} {n : Int} {g : Int → Int} {code : (Int → Int) → Int} {F Q : Int → Int} {D : Int → Int → Prop} (hc : Cd n code) (hg : Pm n g) (hF : ∀ c, 0 ≤ c → c < 5040 → F c = if c = code g then 0 else -1) (hQ : Q 0 = code g) (hD : ∀ a b, ¬ D a b) : BI κ n g code F Q 1 0 D := by
  have cg := hc.1 g hg
  have F0 : F (code g) = 0 := by rw [hF _ cg.1 cg.2, if_pos rfl]
  refine ⟨fun _ => g, by omega, fun j j0 j1 => ?_, fun c c0 c1 => ?_, fun j j' _ _ _ _ _ => by omega, fun j j' q0 q1 q2 => ?_, fun _ j j0 j1 => ?_, fun j j0 j1 j2 a b kp q => ?_, ⟨F0, hQ⟩, fun a => ?_⟩
  · rw [show j = 0 by omega, hQ, F0]
    exact ⟨hg, rfl, Int.le_refl 0, fun i _ _ => rfl⟩
  · rw [hF c c0 c1]
    by_cases cc : c = code g
    · exact Or.inr ⟨0, by omega, by omega, by rw [hQ, cc]⟩
    · rw [if_neg cc]; exact Or.inl rfl
  · rw [show j = j' by omega]; omega
  · rw [show j = 0 by omega]; omega
  · rcases q with q | q
    · omega
    · exact absurd q (hD a b)
  · have l1 : cq (fun x => if 0 ≤ F (x : Int) ∧ F (x : Int) ≤ a then (1 : Int) else 0) 5040 = cq (fun x => if x = (code g).toNat then (if 0 ≤ a then 1 else 0) else (fun _ => 0) x) 5040 := cq_eq _ (fun x hx => by
      rw [hF (x : Int) (by omega) (by omega)]
      by_cases cx : (x : Int) = code g
      · rw [if_pos (show x = (code g).toNat by omega)]
        by_cases ca : 0 ≤ a
        · rw [if_pos ca, if_pos (by rw [if_pos cx]; omega)]
        · rw [if_neg ca, if_neg (by rw [if_pos cx]; omega)]
      · rw [if_neg (show ¬ x = (code g).toNat by omega), if_neg (by rw [if_neg cx]; omega)])
    rw [l1, cq_upd, cq_zero 5040 (fun _ _ => rfl), if_pos (by omega)]
    show 0 + ((if 0 ≤ a then (1 : Int) else 0) - 0) = 0 + (if F (Q ((0 : Nat) : Int)) ≤ a then (1 : Int) else 0)
    rw [show ((0 : Nat) : Int) = 0 from rfl, hQ, F0]
    omega
/-- how near a row is -/
def Nr (κ : Int → Int) (n : Int) (g r : Int → Int) (v : Int) : Prop := (v = -1 ∧ ∀ k : Nat, ¬ Wd κ n g k r) ∨ (0 ≤ v ∧ Wd κ n g v.toNat r ∧ ∀ k : Nat, Wd κ n g k r → v ≤ (k : Int))
theorem Nr_one {κ : Int → Int} {n : Int} {g r : Int → Int} {v v' : Int} (h : Nr κ n g r v) (h' : Nr κ n g r v') : v = v' := by
  rcases h with ⟨a1, a2⟩ | ⟨a1, a2, a3⟩
  · rcases h' with ⟨b1, -⟩ | ⟨b1, b2, -⟩
    · omega
    · exact absurd b2 (a2 _)
  · rcases h' with ⟨b1, b2⟩ | ⟨b1, b2, b3⟩
    · exact absurd a2 (b2 _)
    · have := a3 _ b2
      have := b3 _ a2
      omega
theorem BI_end {κ : Int → Int} {n s : Int} {g r : Int → Int} {code : (Int → Int) → Int} {F Q : Int → Int} {D : Int → Int → Prop} (hc : Cd n code) (hg : Pm n g) (h : BI κ n g code F Q s s D) (hr : Pm n r) : Nr κ n g r (F (code r)) := by
  have h' := h
  obtain ⟨ρ, h1, h2, h3, -⟩ := h
  have cr := hc.1 r hr
  have low : ∀ k : Nat, Wd κ n g k r → F (code r) ≠ -1 ∧ F (code r) ≤ (k : Int) := fun k w => BI_level hc hg h' (k : Int) (Or.inr rfl) k (Int.le_refl _) w
  rcases h3 _ cr.1 cr.2 with z | ⟨j, j0, j1, j2⟩
  · exact Or.inl ⟨z, fun k w => (low k w).1 z⟩
  · obtain ⟨p1, p2', p3, p4⟩ := h2 j j0 j1
    rw [j2] at p3 p4
    have e : En n (ρ j) r := hc.2.1 _ _ p1 hr (by rw [← p2']; exact j2)
    exact Or.inr ⟨p3, Wd_En _ p4 e, fun k w => (low k w).2⟩
