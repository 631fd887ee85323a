/-! reckoning with the functions: what they come to -/
def wp {α : Type} (t : Option α) (Q : α → Prop) : Prop := ∃ a, t = some a ∧ Q a
def wp2 {α β : Type} (t : Option α) (u : Option β) (Q : α → β → Prop) : Prop := ∃ a b, t = some a ∧ u = some b ∧ Q a b
theorem wp_some {α : Type} {a : α} {Q : α → Prop} (h : Q a) : wp (some a) Q := ⟨a, rfl, h⟩
theorem wp_mono {α : Type} {t : Option α} {Q Q' : α → Prop} (h : wp t Q) (hq : ∀ a, Q a → Q' a) : wp t Q' := by
  obtain ⟨a, h1, h2⟩ := h; exact ⟨a, h1, hq a h2⟩
theorem wp_bind {α β : Type} {t : Option α} {k : α → Option β} {Q : β → Prop} (h : wp t (fun a => wp (k a) Q)) : wp (t.bind k) Q := by
  obtain ⟨a, rfl, b, h2, h3⟩ := h; exact ⟨b, h2, h3⟩
theorem wp_jbv {α : Type} {t : Option (Int × jMem)} {k : jMem → Option α} {Q : α → Prop} (h : wp t (fun o => wp (k o.2) Q)) : wp (jbv t k) Q := by
  obtain ⟨a, rfl, b, h2, h3⟩ := h; exact ⟨b, h2, h3⟩
theorem wp_jb1 {α : Type} {t : Option (Int × jMem)} {k : Int → jMem → Option α} {Q : α → Prop} (h : wp t (fun o => wp (k o.1 o.2) Q)) : wp (jb1 t k) Q := by
  obtain ⟨a, rfl, b, h2, h3⟩ := h; exact ⟨b, h2, h3⟩
theorem wp_ite {α : Type} {c : Prop} [Decidable c] {A B : Option α} {Q : α → Prop} (h1 : c → wp A Q) (h2 : ¬ c → wp B Q) : wp (if c then A else B) Q := by
  by_cases h : c
  · rw [if_pos h]; exact h1 h
  · rw [if_neg h]; exact h2 h
theorem wp_fix {σ α : Type} {body : (σ → Option α) → σ → Option α} {Q : α → Prop} (μ : σ → Nat) (I : σ → Prop) (step : ∀ h s, I s → (∀ s', I s' → μ s' < μ s → wp (h s') Q) → wp (body h s) Q) : ∀ (n : Nat) (s : σ), I s → μ s < n → wp (jfix n body s) Q := by
  intro n
  induction n with
  | zero => intro s _ h; omega
  | succ n ih => intro s hs hn; exact step (jfix n body) s hs (fun s' h1 h2 => ih s' h1 (by omega))
theorem wp2_of {α β : Type} {t : Option α} {u : Option β} {Q : α → β → Prop} (h : wp t (fun a => wp u (fun b => Q a b))) : wp2 t u Q := by
  obtain ⟨a, h1, b, h2, h3⟩ := h; exact ⟨a, b, h1, h2, h3⟩
theorem wp2_to {α β : Type} {t : Option α} {u : Option β} {Q : α → β → Prop} (h : wp2 t u Q) : wp t (fun a => wp u (fun b => Q a b)) := by
  obtain ⟨a, b, h1, h2, h3⟩ := h; exact ⟨a, h1, b, h2, h3⟩
theorem wp2_some {α β : Type} {a : α} {b : β} {Q : α → β → Prop} (h : Q a b) : wp2 (some a) (some b) Q := ⟨a, b, rfl, rfl, h⟩
theorem wp2_mono {α β : Type} {t : Option α} {u : Option β} {Q Q' : α → β → Prop} (h : wp2 t u Q) (hq : ∀ a b, Q a b → Q' a b) : wp2 t u Q' := by
  obtain ⟨a, b, h1, h2, h3⟩ := h; exact ⟨a, b, h1, h2, hq a b h3⟩
theorem wp2_bindL {α β γ : Type} {t : Option α} {k : α → Option β} {u : Option γ} {Q : β → γ → Prop} (h : wp t (fun a => wp2 (k a) u Q)) : wp2 (t.bind k) u Q := by
  obtain ⟨a, rfl, b, c, h2, h3, h4⟩ := h; exact ⟨b, c, h2, h3, h4⟩
theorem wp2_bindR {α β γ : Type} {t : Option α} {k : α → Option β} {u : Option γ} {Q : γ → β → Prop} (h : wp t (fun a => wp2 u (k a) Q)) : wp2 u (t.bind k) Q := by
  obtain ⟨a, rfl, b, c, h2, h3, h4⟩ := h; exact ⟨b, c, h2, h3, h4⟩
theorem wp2_bind {α β γ δ : Type} {t : Option α} {k : α → Option β} {u : Option γ} {v : γ → Option δ} {Q : β → δ → Prop} (h : wp2 t u (fun a b => wp2 (k a) (v b) Q)) : wp2 (t.bind k) (u.bind v) Q := by
  obtain ⟨a, b, rfl, rfl, c, d, h2, h3, h4⟩ := h; exact ⟨c, d, h2, h3, h4⟩
theorem wp2_ite {α β : Type} {c d : Prop} [Decidable c] [Decidable d] {A B : Option α} {C D : Option β} {Q : α → β → Prop} (hcd : c ↔ d) (h1 : c → wp2 A C Q) (h2 : ¬ c → wp2 B D Q) : wp2 (if c then A else B) (if d then C else D) Q := by
  by_cases h : c
  · rw [if_pos h, if_pos (hcd.mp h)]; exact h1 h
  · rw [if_neg h, if_neg (fun z => h (hcd.mpr z))]; exact h2 h
theorem wp2_iteL {α β : Type} {c : Prop} [Decidable c] {A B : Option α} {C : Option β} {Q : α → β → Prop} (h1 : c → wp2 A C Q) (h2 : ¬ c → wp2 B C Q) : wp2 (if c then A else B) C Q := by
  by_cases h : c
  · rw [if_pos h]; exact h1 h
  · rw [if_neg h]; exact h2 h
theorem wp2_iteR {α β : Type} {c : Prop} [Decidable c] {A B : Option β} {C : Option α} {Q : α → β → Prop} (h1 : c → wp2 C A Q) (h2 : ¬ c → wp2 C B Q) : wp2 C (if c then A else B) Q := by
  by_cases h : c
  · rw [if_pos h]; exact h1 h
  · rw [if_neg h]; exact h2 h
theorem wp2_fix {σ τ α β : Type} {b1 : (σ → Option α) → σ → Option α} {b2 : (τ → Option β) → τ → Option β} {Q : α → β → Prop} (μ : σ → Nat) (I : σ → τ → Prop)
    (step : ∀ h1 h2 s t, I s t → (∀ s' t', I s' t' → μ s' < μ s → wp2 (h1 s') (h2 t') Q) → wp2 (b1 h1 s) (b2 h2 t) Q) : ∀ (n k : Nat) (s : σ) (t : τ), I s t → μ s < n → μ s < k → wp2 (jfix n b1 s) (jfix k b2 t) Q := by
  intro n
  induction n with
  | zero => intro k s t _ h; omega
  | succ n ih =>
    intro k s t hs hn hk
    match k, hk with
    | k + 1, hk => exact step (jfix n b1) (jfix k b2) s t hs (fun s' t' h1 h2 => ih k s' t' h1 (by omega) (by omega))
theorem jchk_pos {α : Type} {c : Prop} [Decidable c] {t : Option α} (h : c) : jchk c t = t := if_pos h
theorem up_hit {M : jMem} {q j v q' j' : Int} (h1 : q' = q) (h2 : j' = j) : up M q j v q' j' = v := by subst h1; subst h2; rw [up_eq]; exact if_pos rfl
theorem up_row {M : jMem} {q j v q' j' : Int} (h1 : q' ≠ q) : up M q j v q' j' = M q' j' := by rw [up_ne h1]
theorem up_col {M : jMem} {q j v q' j' : Int} (h1 : j' ≠ j) : up M q j v q' j' = M q' j' := by
  by_cases h : q' = q
  · subst h; rw [up_eq]; exact if_neg h1
  · rw [up_ne h]
theorem up_all {M : jMem} {q j v q' j' : Int} : up M q j v q' j' = if q' = q ∧ j' = j then v else M q' j' := by
  by_cases h : q' = q
  · by_cases h2 : j' = j
    · rw [if_pos ⟨h, h2⟩, up_hit h h2]
    · rw [if_neg (fun z => h2 z.2), up_col h2]
  · rw [if_neg (fun z => h z.1), up_row h]
theorem jcp_all {M : jMem} {a0 a n q j : Int} : jcp M a0 a n q j = if q = a ∧ (0 ≤ j ∧ j < n) then M a0 j else M q j := by
  by_cases h : q = a
  · subst h
    rw [jcp_eq]
    by_cases h2 : 0 ≤ j ∧ j < n
    · rw [if_pos ⟨rfl, h2⟩]; exact if_pos h2
    · rw [if_neg (fun z => h2 z.2)]; exact if_neg h2
  · rw [jcp_ne h, if_neg (fun z => h z.1)]
