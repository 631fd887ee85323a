/-! the class beside the reference -/
def NR (X : jMem) (q : Int) (σ : Int → Int) : Prop := X q 0 = σ 111 ∧ ∀ i, 0 ≤ i → i < σ 111 → X (q + 1) i = σ (81 + 3 * i) ∧ X (q + 2) i = σ (82 + 3 * i) ∧ X (q + 3) i = σ (83 + 3 * i)
def PR (X : jMem) (q : Int) (σ : Int → Int) : Prop := X q 0 = σ 1 ∧ X q 1 = σ 2 ∧ (∀ i, 0 ≤ i → i < 7 → X (q + 1) i = σ (60 + i)) ∧ (∀ i, 0 ≤ i → i < 7 → X (q + 2) i = σ (67 + i)) ∧ (∀ i, 0 ≤ i → i < 7 → X (q + 3) i = σ (46 + i)) ∧ (∀ i, 0 ≤ i → i < 7 → X (q + 4) i = σ (74 + i)) ∧ (∀ i, 0 ≤ i → i < 7 → X (q + 5) i = σ (53 + i))
def WR (X : jMem) (w : Int) (σ : Int → Int) : Prop := PR X (w + 1) σ ∧ SR X (w + 7) σ ∧ NR X (w + 13) σ
def WT (σ : Int → Int) : Prop := (∀ i, 0 ≤ i → i < 7 → 0 ≤ σ (60 + i) ∧ σ (60 + i) ≤ 30) ∧ (∀ i, 0 ≤ i → i < 7 → 0 ≤ σ (67 + i) ∧ σ (67 + i) ≤ 60) ∧ (∀ i, 0 ≤ i → i < 7 → 0 ≤ σ (74 + i) ∧ σ (74 + i) ≤ 9) ∧ (0 ≤ σ 111 ∧ σ 111 ≤ 10) ∧ (∀ i, 0 ≤ i → i < σ 111 → (0 ≤ σ (81 + 3 * i) ∧ σ (81 + 3 * i) ≤ 60) ∧ (0 ≤ σ (82 + 3 * i) ∧ σ (82 + 3 * i) < σ 1) ∧ (0 ≤ σ (83 + 3 * i) ∧ σ (83 + 3 * i) ≤ 60)) ∧ ((σ 0 = 0 ∧ σ 1 = 0) ∨ (σ 0 = 1 ∧ 2 ≤ σ 1)) ∧ (0 ≤ σ 10 ∧ σ 10 ≤ 999)
def TR (X Y : jMem) : Prop := X 0 1 = Y 0 1 ∧ 0 ≤ Y 0 1 ∧ Y 0 1 ≤ 400 ∧ ∀ i, 0 ≤ i → i < 400 → X 1 i = Y 1 i ∧ -128 ≤ Y 1 i ∧ Y 1 i < 128
def UR (X Y : jMem) : Prop := X 0 6 = Y 0 2 ∧ 0 ≤ Y 0 2 ∧ Y 0 2 ≤ 6 ∧ ∀ r, 0 ≤ r → r < Y 0 2 → RuleR X Y r
def VR (X Y : jMem) : Prop := WR X 14 (Y 10) ∧ WS (Y 10) ∧ WT (Y 10) ∧ X 14 3 = Y 0 21 ∧ (-1 ≤ Y 0 21 ∧ Y 0 21 < Y 0 2) ∧ X 14 4 = Y 0 22 ∧ (0 ≤ Y 0 22 ∧ Y 0 22 < 2147483648)
def wasR (Y : jMem) (j : Int) : Int → Int := fun k => if 10 ≤ k ∧ k < 46 then Y 12 (36 * j + (k - 10)) else Y 10 k
def AR (X Y : jMem) : Prop := X 31 2 = Y 0 26 ∧ (0 ≤ Y 0 26 ∧ Y 0 26 ≤ 20) ∧ (0 ≤ X 31 1 ∧ X 31 1 < 20) ∧ ∀ j, 0 ≤ j → j < Y 0 26 → SR X (33 + 6 * ((X 31 1 - Y 0 26 + j) % 20)) (wasR Y j) ∧ WS (wasR Y j) ∧ 0 ≤ wasR Y j 10 ∧ wasR Y j 10 ≤ 999
def imgR (Y : jMem) (k : Int) : Int → Int := fun i => Y 21 (112 * k + i)
def IR (X Y : jMem) : Prop := ∀ k, 0 ≤ k → k < 4 → X (213 + 17 * k) 5 = Y 24 k ∧ (Y 24 k = 0 ∨ Y 24 k = 1) ∧ (Y 24 k = 1 → WR X (213 + 17 * k) (imgR Y k) ∧ WS (imgR Y k) ∧ WT (imgR Y k) ∧ X (213 + 17 * k) 3 = Y 22 k ∧ (-1 ≤ Y 22 k ∧ Y 22 k < Y 0 2) ∧ X (213 + 17 * k) 4 = Y 23 k ∧ (0 ≤ Y 23 k ∧ Y 23 k < 2147483648))
def Rel (X Y : jMem) : Prop := TR X Y ∧ UR X Y ∧ VR X Y ∧ AR X Y ∧ IR X Y
/-- the table of LIES is left as it was -/
def TF (X X' : jMem) : Prop := X' 171 = X 171 ∧ X' 172 = X 172 ∧ X' 173 = X 173
/-- what one call does on both sides -/
def OK (f g : jMem → Option (Int × jMem)) : Prop := ∀ X Y, Rel X Y → ∃ v X' Y', f X = some (v, X') ∧ g Y = some (v, Y') ∧ Rel X' Y' ∧ TF X X'
def OKp (f g : jMem → Option Int) : Prop := ∀ X Y, Rel X Y → ∃ v, f X = some v ∧ g Y = some v
theorem TF_refl {X : jMem} : TF X X := ⟨rfl, rfl, rfl⟩
theorem PR_congr {X X' : jMem} {q : Int} {σ : Int → Int} (h : PR X q σ) (hx : ∀ p, q ≤ p → p ≤ q + 5 → X' p = X p) : PR X' q σ := by
  unfold PR at h ⊢
  rw [hx q (by omega) (by omega), hx (q + 1) (by omega) (by omega), hx (q + 2) (by omega) (by omega), hx (q + 3) (by omega) (by omega), hx (q + 4) (by omega) (by omega), hx (q + 5) (by omega) (by omega)]
  exact h
theorem NR_congr {X X' : jMem} {q : Int} {σ : Int → Int} (h : NR X q σ) (hx : ∀ p, q ≤ p → p ≤ q + 3 → X' p = X p) : NR X' q σ := by
  unfold NR at h ⊢
  rw [hx q (by omega) (by omega), hx (q + 1) (by omega) (by omega), hx (q + 2) (by omega) (by omega), hx (q + 3) (by omega) (by omega)]
  exact h
theorem WR_congr {X X' : jMem} {w : Int} {σ : Int → Int} (h : WR X w σ) (hx : ∀ p, w + 1 ≤ p → p ≤ w + 16 → X' p = X p) : WR X' w σ :=
  ⟨PR_congr h.1 (fun p a b => hx p (by omega) (by omega)), SR_congr h.2.1 (fun p a b => hx p (by omega) (by omega)), NR_congr h.2.2 (fun p a b => hx p (by omega) (by omega))⟩
theorem TR_congr {X X' Y Y' : jMem} (h : TR X Y) (h1 : X' 0 1 = X 0 1) (h2 : X' 1 = X 1) (h3 : Y' 0 1 = Y 0 1) (h4 : Y' 1 = Y 1) : TR X' Y' := by
  unfold TR; rw [h1, h2, h3, h4]; exact h
theorem UR_congr {X X' Y Y' : jMem} (h : UR X Y) (h1 : X' 0 6 = X 0 6) (hx : ∀ p, 177 ≤ p → p ≤ 212 → ¬ Stk p → X' p = X p) (h2 : Y' 0 2 = Y 0 2) (g2 : Y' 2 = Y 2) (g4 : Y' 4 = Y 4) (g5 : Y' 5 = Y 5) : UR X' Y' := by
  obtain ⟨a, b, c, d⟩ := h
  refine ⟨by rw [h1, h2]; exact a, by rw [h2]; exact b, by rw [h2]; exact c, fun r r0 r1 => ?_⟩
  rw [h2] at r1
  exact RuleR_congr (d r r0 r1) (fun p p1 p2 => hx p (by omega) (by omega) (by unfold Stk; omega)) g5 g4 g2
theorem VR_congr {X X' Y Y' : jMem} (h : VR X Y) (hx : ∀ p, 14 ≤ p → p ≤ 30 → X' p = X p) (h10 : Y' 10 = Y 10) (h21 : Y' 0 21 = Y 0 21) (h22 : Y' 0 22 = Y 0 22) (h2 : Y' 0 2 = Y 0 2) : VR X' Y' := by
  obtain ⟨a, b, c, d, e, f, g⟩ := h
  unfold VR
  rw [h10, h21, h22, h2, hx 14 (by omega) (by omega)]
  exact ⟨WR_congr a (fun p p1 p2 => hx p (by omega) (by omega)), b, c, d, e, f, g⟩
theorem wasR_congr {Y Y' : jMem} (h10 : Y' 10 = Y 10) (h12 : Y' 12 = Y 12) (j : Int) : wasR Y' j = wasR Y j := by
  unfold wasR; rw [h10, h12]
theorem AR_congr {X X' Y Y' : jMem} (h : AR X Y) (hx : ∀ p, 31 ≤ p → p ≤ 152 → X' p = X p) (h10 : Y' 10 = Y 10) (h12 : Y' 12 = Y 12) (h26 : Y' 0 26 = Y 0 26) : AR X' Y' := by
  obtain ⟨a, b, c, d⟩ := h
  unfold AR
  rw [hx 31 (by omega) (by omega), h26]
  refine ⟨a, b, c, fun j j0 j1 => ?_⟩
  rw [wasR_congr h10 h12]
  obtain ⟨d1, d2⟩ := d j j0 j1
  have hm : 0 ≤ (X 31 1 - Y 0 26 + j) % 20 ∧ (X 31 1 - Y 0 26 + j) % 20 < 20 := by omega
  exact ⟨SR_congr d1 (fun p p1 p2 => hx p (by omega) (by omega)), d2⟩
theorem IR_congr {X X' Y Y' : jMem} (h : IR X Y) (hx : ∀ p, 213 ≤ p → p ≤ 280 → X' p = X p) (h21 : Y' 21 = Y 21) (h22 : Y' 22 = Y 22) (h23 : Y' 23 = Y 23) (h24 : Y' 24 = Y 24) (h2 : Y' 0 2 = Y 0 2) : IR X' Y' := by
  intro k k0 k1
  obtain ⟨a, b, c⟩ := h k k0 k1
  have e : imgR Y' k = imgR Y k := by unfold imgR; rw [h21]
  rw [hx (213 + 17 * k) (by omega) (by omega), h24, h22, h23, h2, e]
  refine ⟨a, b, fun z => ?_⟩
  obtain ⟨c1, c2⟩ := c z
  exact ⟨WR_congr c1 (fun p p1 p2 => hx p (by omega) (by omega)), c2⟩
/-- only rows that nobody looks into later have changed -/
theorem Rel_frame {X X' Y Y' : jMem} (h : Rel X Y) (hx : ∀ p, (p = 0 ∨ p = 1 ∨ (14 ≤ p ∧ p ≤ 152) ∨ (177 ≤ p ∧ p ≤ 280)) → ¬ Stk p → X' p = X p) (hy : ∀ p, p = 1 ∨ p = 2 ∨ p = 4 ∨ p = 5 ∨ p = 10 ∨ p = 12 ∨ p = 21 ∨ p = 22 ∨ p = 23 ∨ p = 24 → Y' p = Y p) (h0 : ∀ j, j = 1 ∨ j = 2 ∨ j = 21 ∨ j = 22 ∨ j = 26 → Y' 0 j = Y 0 j) : Rel X' Y' := by
  obtain ⟨a, b, c, d, e⟩ := h
  refine ⟨TR_congr a ?_ (hx 1 (by omega) (by unfold Stk; omega)) (h0 1 (by omega)) (hy 1 (by omega)), UR_congr b ?_ (fun p p1 p2 p3 => hx p (by omega) p3) (h0 2 (by omega)) (hy 2 (by omega)) (hy 4 (by omega)) (hy 5 (by omega)), VR_congr c (fun p p1 p2 => hx p (by omega) (by unfold Stk; omega)) (hy 10 (by omega)) (h0 21 (by omega)) (h0 22 (by omega)) (h0 2 (by omega)), AR_congr d (fun p p1 p2 => hx p (by omega) (by unfold Stk; omega)) (hy 10 (by omega)) (hy 12 (by omega)) (h0 26 (by omega)), IR_congr e (fun p p1 p2 => hx p (by omega) (by unfold Stk; omega)) (hy 21 (by omega)) (hy 22 (by omega)) (hy 23 (by omega)) (hy 24 (by omega)) (h0 2 (by omega))⟩
  · rw [hx 0 (by omega) (by unfold Stk; omega)]
  · rw [hx 0 (by omega) (by unfold Stk; omega)]
/-! tests that both sides make -/
theorem within_ok (N : Nat) (a lo hi : Int) (X Y : jMem) : ∃ r, x_isWithin N a lo hi X = some r ∧ m_in N a lo hi Y = some r ∧ ((r = 1 ∧ lo ≤ a ∧ a ≤ hi) ∨ (r = 0 ∧ ¬ (lo ≤ a ∧ a ≤ hi))) := by
  unfold x_isWithin m_in
  by_cases h1 : a < lo
  · rw [if_pos h1, if_pos (jcmp_lt.mpr h1)]; exact ⟨0, rfl, rfl, Or.inr ⟨rfl, by omega⟩⟩
  · rw [if_neg h1, if_neg (fun z => h1 (jcmp_lt.mp z))]
    by_cases h2 : hi < a
    · rw [if_pos h2, if_pos (jcmp_gt.mpr h2)]; exact ⟨0, rfl, rfl, Or.inr ⟨rfl, by omega⟩⟩
    · rw [if_neg h2, if_neg (fun z => h2 (jcmp_gt.mp z))]; exact ⟨1, rfl, rfl, Or.inl ⟨rfl, by omega, by omega⟩⟩
theorem isFarm_ok (N : Nat) (a : Int) {X Y : jMem} (h : Rel X Y) : ∃ r, x_isFarm N a X = some r ∧ x_isWell N a X = some r ∧ m_isOne N a Y = some r ∧ ((r = 1 ∧ 0 ≤ a ∧ a < Y 10 1) ∨ (r = 0 ∧ ¬ (0 ≤ a ∧ a < Y 10 1))) := by
  have h15 : X 15 0 = Y 10 1 := h.2.2.1.1.1.1
  unfold x_isWell x_isFarm m_isOne
  rw [h15]
  by_cases h1 : a < 0
  · rw [if_pos h1]; exact ⟨0, rfl, rfl, rfl, Or.inr ⟨rfl, by omega⟩⟩
  · rw [if_neg h1]
    by_cases h2 : a < Y 10 1
    · rw [if_pos h2]; exact ⟨1, rfl, rfl, rfl, Or.inl ⟨rfl, by omega, h2⟩⟩
    · rw [if_neg h2]; exact ⟨0, rfl, rfl, rfl, Or.inr ⟨rfl, by omega⟩⟩
theorem hasParish_ok (N : Nat) {X Y : jMem} (h : Rel X Y) : ∃ r, x_hasParish N X = some r ∧ m_isParish N Y = some r ∧ ((r = 1 ∧ 2 ≤ Y 10 1) ∨ (r = 0 ∧ Y 10 1 = 0)) := by
  have h15 : X 15 0 = Y 10 1 := h.2.2.1.1.1.1
  have hp := h.2.2.1.2.2.1.2.2.2.2.2.1
  unfold x_hasParish m_isParish
  rw [h15]
  rcases hp with ⟨h1, h2⟩ | ⟨h1, h2⟩
  · rw [if_neg (by omega), if_neg (by omega)]; exact ⟨0, rfl, rfl, Or.inr ⟨rfl, h2⟩⟩
  · rw [if_pos (by omega), if_pos h1]; exact ⟨1, rfl, rfl, Or.inl ⟨rfl, h2⟩⟩
theorem jnb_rule : ∀ r : Fin 6, jnb jTX (177 + 6 * (r.val : Int)) 5 = true := by decide +kernel
theorem inForce_ok {N : Nat} {X Y : jMem} (h : Rel X Y) : ∃ rl, x_ruleInForce N X = some rl ∧ FR X Y rl ∧ jnb jTX rl 5 = true := by
  obtain ⟨-, ⟨u1, u2, u3, u4⟩, ⟨-, -, -, v1, ⟨v2, v3⟩, -⟩, -⟩ := h
  unfold x_ruleInForce x_isWithin
  rw [v1, u1, w32_id (by omega)]
  by_cases h1 : Y 0 21 < 0
  · rw [if_pos h1, Option.bind_some, if_pos rfl]
    exact ⟨-1, rfl, Or.inl ⟨by omega, h1⟩, by decide⟩
  · rw [if_neg h1, if_neg (by omega), Option.bind_some, if_neg (by decide), jchk_pos (by omega)]
    refine ⟨_, rfl, Or.inr ⟨Y 0 21, by omega, by omega, by omega, rfl, u4 _ (by omega) v3⟩, ?_⟩
    obtain ⟨k, hk⟩ := fin_of (n := 6) (x := Y 0 21) (by omega) (by omega)
    rw [← hk]
    exact jnb_rule k
theorem Rel_YB {X Y : jMem} {rl : Int} (h : Rel X Y) (hf : FR X Y rl) : YB X Y 21 18 rl := by
  obtain ⟨-, -, ⟨⟨p, s, -⟩, w, -⟩, -⟩ := h
  exact ⟨s, ⟨p.1, p.2.1, p.2.2.2.2.2.2⟩, w, p.2.2.2.2.1, hf⟩
