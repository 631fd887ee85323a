/-! every call answers alike, so the law answers 1 -/
theorem case_ok {f g : jMem → Option (Int × jMem)} {h : Int × jMem × jMem → Option Int} {i : Int} {X Y : jMem} (ho : OK f g) (hR : Rel X Y) (hT : TB X) (ih : ∀ X' Y', Rel X' Y' → TB X' → wp (h (i, X', Y')) (fun r => r = 1)) : wp ((f X).bind fun o => (g Y).bind fun o' => if o.1 = o'.1 then h (i, o.2, o'.2) else some 0) (fun r => r = 1) := by
  obtain ⟨v, X', Y', e1, e2, e3, e4⟩ := ho X Y hR
  rw [e1, e2, Option.bind_some, Option.bind_some, if_pos rfl]
  exact ih X' Y' e3 (TB_TF hT e4)
theorem case_okt {f g : jMem → Option (Int × jMem)} {h : Int × jMem × jMem → Option Int} {i : Int} {X Y : jMem} (ho : OKT f g) (hR : Rel X Y) (hT : TB X) (ih : ∀ X' Y', Rel X' Y' → TB X' → wp (h (i, X', Y')) (fun r => r = 1)) : wp ((f X).bind fun o => (g Y).bind fun o' => if o.1 = o'.1 then h (i, o.2, o'.2) else some 0) (fun r => r = 1) := by
  obtain ⟨v, X', Y', e1, e2, e3, e4⟩ := ho X Y hR hT
  rw [e1, e2, Option.bind_some, Option.bind_some, if_pos rfl]
  exact ih X' Y' e3 e4
theorem case_okp {f g : jMem → Option Int} {h : Int × jMem × jMem → Option Int} {i : Int} {X Y : jMem} (ho : OKp f g) (hR : Rel X Y) (hT : TB X) (ih : ∀ X' Y', Rel X' Y' → TB X' → wp (h (i, X', Y')) (fun r => r = 1)) : wp ((f X).bind fun r => (g Y).bind fun r' => if r = r' then h (i, X, Y) else some 0) (fun r => r = 1) := by
  obtain ⟨v, e1, e2⟩ := ho X Y hR
  rw [e1, e2, Option.bind_some, Option.bind_some, if_pos rfl]
  exact ih X Y hR hT
theorem jsx_lt {xs : Nat → Int32} {i : Int} : jsx xs i < 2147483648 := Int32.toInt_lt _
theorem law_0 {N L : Nat} (hN : 6000 ≤ N) {xs : Nat → Int32} {h : Int × jMem × jMem → Option Int} {i : Int} {X Y : jMem} (h0 : 0 ≤ i) (h1 : i + 6 ≤ (L : Int)) (hL : L ≤ 3072) (hR : Rel X Y) (hT : TB X) (ih : ∀ X' Y', Rel X' Y' → TB X' → wp (h (i + 6, X', Y')) (fun r => r = 1)) : wp (law_C0 N L xs h i X Y) (fun r => r = 1) := by
  unfold law_C0 jb1
  simp (disch := omega) only [w32_id, jchk_pos]
  exact case_ok (feed_ok (show 1000 ≤ N by omega) (jsx xs (i + 1)) (jsx xs (i + 2)) (jsx xs (i + 3)) (jsx xs (i + 4)) (jsx xs (i + 5))) hR hT ih
theorem law_1 {N L : Nat} (hN : 6000 ≤ N) {xs : Nat → Int32} {h : Int × jMem × jMem → Option Int} {i : Int} {X Y : jMem} (h0 : 0 ≤ i) (h1 : i + 6 ≤ (L : Int)) (hL : L ≤ 3072) (hR : Rel X Y) (hT : TB X) (ih : ∀ X' Y', Rel X' Y' → TB X' → wp (h (i + 6, X', Y')) (fun r => r = 1)) : wp (law_C1 N L xs h i X Y) (fun r => r = 1) := by
  unfold law_C1 jb1
  simp (disch := omega) only [w32_id, jchk_pos]
  exact case_ok (end_ok (N := N) (jsx xs (i + 1))) hR hT ih
theorem law_2 {N L : Nat} (hN : 6000 ≤ N) {xs : Nat → Int32} {h : Int × jMem × jMem → Option Int} {i : Int} {X Y : jMem} (h0 : 0 ≤ i) (h1 : i + 6 ≤ (L : Int)) (hL : L ≤ 3072) (hR : Rel X Y) (hT : TB X) (ih : ∀ X' Y', Rel X' Y' → TB X' → wp (h (i + 6, X', Y')) (fun r => r = 1)) : wp (law_C2 N L xs h i X Y) (fun r => r = 1) := by
  unfold law_C2 jb1
  simp (disch := omega) only [w32_id, jchk_pos]
  exact case_ok (parish_ok (show 1000 ≤ N by omega) ) hR hT ih
theorem law_3 {N L : Nat} (hN : 6000 ≤ N) {xs : Nat → Int32} {h : Int × jMem × jMem → Option Int} {i : Int} {X Y : jMem} (h0 : 0 ≤ i) (h1 : i + 6 ≤ (L : Int)) (hL : L ≤ 3072) (hR : Rel X Y) (hT : TB X) (ih : ∀ X' Y', Rel X' Y' → TB X' → wp (h (i + 6, X', Y')) (fun r => r = 1)) : wp (law_C3 N L xs h i X Y) (fun r => r = 1) := by
  unfold law_C3 jb1
  simp (disch := omega) only [w32_id, jchk_pos]
  exact case_ok (rule_ok (show 1000 ≤ N by omega) ) hR hT ih
theorem law_4 {N L : Nat} (hN : 6000 ≤ N) {xs : Nat → Int32} {h : Int × jMem × jMem → Option Int} {i : Int} {X Y : jMem} (h0 : 0 ≤ i) (h1 : i + 6 ≤ (L : Int)) (hL : L ≤ 3072) (hR : Rel X Y) (hT : TB X) (ih : ∀ X' Y', Rel X' Y' → TB X' → wp (h (i + 6, X', Y')) (fun r => r = 1)) : wp (law_C4 N L xs h i X Y) (fun r => r = 1) := by
  unfold law_C4 jb1
  simp (disch := omega) only [w32_id, jchk_pos]
  exact case_ok (force_ok (N := N) (jsx xs (i + 1))) hR hT ih
theorem law_5 {N L : Nat} (hN : 6000 ≤ N) {xs : Nat → Int32} {h : Int × jMem × jMem → Option Int} {i : Int} {X Y : jMem} (h0 : 0 ≤ i) (h1 : i + 6 ≤ (L : Int)) (hL : L ≤ 3072) (hR : Rel X Y) (hT : TB X) (ih : ∀ X' Y', Rel X' Y' → TB X' → wp (h (i + 6, X', Y')) (fun r => r = 1)) : wp (law_C5 N L xs h i X Y) (fun r => r = 1) := by
  unfold law_C5
  simp (disch := omega) only [w32_id, jchk_pos]
  exact case_okp (well_ok (show 1000 ≤ N by omega) (jsx xs (i + 1)) (jsx xs (i + 2))) hR hT ih
theorem law_6 {N L : Nat} (hN : 6000 ≤ N) {xs : Nat → Int32} {h : Int × jMem × jMem → Option Int} {i : Int} {X Y : jMem} (h0 : 0 ≤ i) (h1 : i + 6 ≤ (L : Int)) (hL : L ≤ 3072) (hR : Rel X Y) (hT : TB X) (ih : ∀ X' Y', Rel X' Y' → TB X' → wp (h (i + 6, X', Y')) (fun r => r = 1)) : wp (law_C6 N L xs h i X Y) (fun r => r = 1) := by
  unfold law_C6
  simp (disch := omega) only [w32_id, jchk_pos]
  exact case_okp (farm_ok (N := N) (jsx xs (i + 1)) (jsx xs (i + 2))) hR hT ih
theorem law_7 {N L : Nat} (hN : 6000 ≤ N) {xs : Nat → Int32} {h : Int × jMem × jMem → Option Int} {i : Int} {X Y : jMem} (h0 : 0 ≤ i) (h1 : i + 6 ≤ (L : Int)) (hL : L ≤ 3072) (hR : Rel X Y) (hT : TB X) (ih : ∀ X' Y', Rel X' Y' → TB X' → wp (h (i + 6, X', Y')) (fun r => r = 1)) : wp (law_C7 N L xs h i X Y) (fun r => r = 1) := by
  unfold law_C7
  simp (disch := omega) only [w32_id, jchk_pos]
  exact case_okp (lieop_ok (show 1000 ≤ N by omega) ) hR hT ih
theorem law_8 {N L : Nat} (hN : 6000 ≤ N) {xs : Nat → Int32} {h : Int × jMem × jMem → Option Int} {i : Int} {X Y : jMem} (h0 : 0 ≤ i) (h1 : i + 6 ≤ (L : Int)) (hL : L ≤ 3072) (hR : Rel X Y) (hT : TB X) (ih : ∀ X' Y', Rel X' Y' → TB X' → wp (h (i + 6, X', Y')) (fun r => r = 1)) : wp (law_C8 N L xs h i X Y) (fun r => r = 1) := by
  unfold law_C8 jb1
  simp (disch := omega) only [w32_id, jchk_pos]
  exact case_ok (year_ok (show 1000 ≤ N by omega) ) hR hT ih
theorem law_9 {N L : Nat} (hN : 6000 ≤ N) {xs : Nat → Int32} {h : Int × jMem × jMem → Option Int} {i : Int} {X Y : jMem} (h0 : 0 ≤ i) (h1 : i + 6 ≤ (L : Int)) (hL : L ≤ 3072) (hR : Rel X Y) (hT : TB X) (ih : ∀ X' Y', Rel X' Y' → TB X' → wp (h (i + 6, X', Y')) (fun r => r = 1)) : wp (law_C9 N L xs h i X Y) (fun r => r = 1) := by
  unfold law_C9 jb1
  simp (disch := omega) only [w32_id, jchk_pos]
  exact case_ok (wed_ok (show 1000 ≤ N by omega) (jsx xs (i + 1)) (jsx xs (i + 2))) hR hT ih
theorem law_10 {N L : Nat} (hN : 6000 ≤ N) {xs : Nat → Int32} {h : Int × jMem × jMem → Option Int} {i : Int} {X Y : jMem} (h0 : 0 ≤ i) (h1 : i + 6 ≤ (L : Int)) (hL : L ≤ 3072) (hR : Rel X Y) (hT : TB X) (ih : ∀ X' Y', Rel X' Y' → TB X' → wp (h (i + 6, X', Y')) (fun r => r = 1)) : wp (law_C10 N L xs h i X Y) (fun r => r = 1) := by
  unfold law_C10 jb1
  simp (disch := omega) only [w32_id, jchk_pos]
  exact case_ok (pour_ok (show 1000 ≤ N by omega) (jsx xs (i + 1)) (jsx xs (i + 2))) hR hT ih
theorem law_11 {N L : Nat} (hN : 6000 ≤ N) {xs : Nat → Int32} {h : Int × jMem × jMem → Option Int} {i : Int} {X Y : jMem} (h0 : 0 ≤ i) (h1 : i + 6 ≤ (L : Int)) (hL : L ≤ 3072) (hR : Rel X Y) (hT : TB X) (ih : ∀ X' Y', Rel X' Y' → TB X' → wp (h (i + 6, X', Y')) (fun r => r = 1)) : wp (law_C11 N L xs h i X Y) (fun r => r = 1) := by
  unfold law_C11 jb1
  simp (disch := omega) only [w32_id, jchk_pos]
  exact case_ok (dig_ok (show 1000 ≤ N by omega) (jsx xs (i + 1)) (jsx xs (i + 2))) hR hT ih
theorem law_12 {N L : Nat} (hN : 6000 ≤ N) {xs : Nat → Int32} {h : Int × jMem × jMem → Option Int} {i : Int} {X Y : jMem} (h0 : 0 ≤ i) (h1 : i + 6 ≤ (L : Int)) (hL : L ≤ 3072) (hR : Rel X Y) (hT : TB X) (ih : ∀ X' Y', Rel X' Y' → TB X' → wp (h (i + 6, X', Y')) (fun r => r = 1)) : wp (law_C12 N L xs h i X Y) (fun r => r = 1) := by
  unfold law_C12 jb1
  simp (disch := omega) only [w32_id, jchk_pos]
  exact case_ok (birth_ok (show 1000 ≤ N by omega) (jsx xs (i + 1))) hR hT ih
theorem law_13 {N L : Nat} (hN : 6000 ≤ N) {xs : Nat → Int32} {h : Int × jMem × jMem → Option Int} {i : Int} {X Y : jMem} (h0 : 0 ≤ i) (h1 : i + 6 ≤ (L : Int)) (hL : L ≤ 3072) (hR : Rel X Y) (hT : TB X) (ih : ∀ X' Y', Rel X' Y' → TB X' → wp (h (i + 6, X', Y')) (fun r => r = 1)) : wp (law_C13 N L xs h i X Y) (fun r => r = 1) := by
  unfold law_C13 jb1
  simp (disch := omega) only [w32_id, jchk_pos]
  exact case_ok (undo_ok (show 1000 ≤ N by omega) ) hR hT ih
theorem law_14 {N L : Nat} (hN : 6000 ≤ N) {xs : Nat → Int32} {h : Int × jMem × jMem → Option Int} {i : Int} {X Y : jMem} (h0 : 0 ≤ i) (h1 : i + 6 ≤ (L : Int)) (hL : L ≤ 3072) (hR : Rel X Y) (hT : TB X) (ih : ∀ X' Y', Rel X' Y' → TB X' → wp (h (i + 6, X', Y')) (fun r => r = 1)) : wp (law_C14 N L xs h i X Y) (fun r => r = 1) := by
  unfold law_C14 jb1
  simp (disch := omega) only [w32_id, jchk_pos]
  exact case_okt (fewest_ok (show 6000 ≤ N by omega) (jsx xs (i + 1))) hR hT ih
theorem law_15 {N L : Nat} (hN : 6000 ≤ N) {xs : Nat → Int32} {h : Int × jMem × jMem → Option Int} {i : Int} {X Y : jMem} (h0 : 0 ≤ i) (h1 : i + 6 ≤ (L : Int)) (hL : L ≤ 3072) (hR : Rel X Y) (hT : TB X) (ih : ∀ X' Y', Rel X' Y' → TB X' → wp (h (i + 6, X', Y')) (fun r => r = 1)) : wp (law_C15 N L xs h i X Y) (fun r => r = 1) := by
  unfold law_C15 jb1
  simp (disch := omega) only [w32_id, jchk_pos]
  exact case_okt (step_ok (show 6000 ≤ N by omega) (jsx xs (i + 1)) (jsx xs (i + 2)) (jsx xs (i + 3))) hR hT ih
theorem law_16 {N L : Nat} (hN : 6000 ≤ N) {xs : Nat → Int32} {h : Int × jMem × jMem → Option Int} {i : Int} {X Y : jMem} (h0 : 0 ≤ i) (h1 : i + 6 ≤ (L : Int)) (hL : L ≤ 3072) (hR : Rel X Y) (hT : TB X) (ih : ∀ X' Y', Rel X' Y' → TB X' → wp (h (i + 6, X', Y')) (fun r => r = 1)) : wp (law_C16 N L xs h i X Y) (fun r => r = 1) := by
  unfold law_C16 jb1
  simp (disch := omega) only [w32_id, jchk_pos]
  exact case_okt (lies_ok (show 6000 ≤ N by omega) (jsx xs (i + 1))) hR hT ih
theorem law_17 {N L : Nat} (hN : 6000 ≤ N) {xs : Nat → Int32} {h : Int × jMem × jMem → Option Int} {i : Int} {X Y : jMem} (h0 : 0 ≤ i) (h1 : i + 6 ≤ (L : Int)) (hL : L ≤ 3072) (hR : Rel X Y) (hT : TB X) (ih : ∀ X' Y', Rel X' Y' → TB X' → wp (h (i + 6, X', Y')) (fun r => r = 1)) : wp (law_C17 N L xs h i X Y) (fun r => r = 1) := by
  unfold law_C17 jb1
  simp (disch := omega) only [w32_id, jchk_pos]
  exact case_okt (farthest_ok (show 6000 ≤ N by omega) (jsx xs (i + 1))) hR hT ih
theorem law_18 {N L : Nat} (hN : 6000 ≤ N) {xs : Nat → Int32} {h : Int × jMem × jMem → Option Int} {i : Int} {X Y : jMem} (h0 : 0 ≤ i) (h1 : i + 6 ≤ (L : Int)) (hL : L ≤ 3072) (hR : Rel X Y) (hT : TB X) (ih : ∀ X' Y', Rel X' Y' → TB X' → wp (h (i + 6, X', Y')) (fun r => r = 1)) : wp (law_C18 N L xs h i X Y) (fun r => r = 1) := by
  unfold law_C18
  simp (disch := omega) only [w32_id, jchk_pos]
  exact case_okp (comes_ok (show 1000 ≤ N by omega) (jsx xs (i + 1)) (jsx xs (i + 2))) hR hT ih
theorem law_19 {N L : Nat} (hN : 6000 ≤ N) {xs : Nat → Int32} {h : Int × jMem × jMem → Option Int} {i : Int} {X Y : jMem} (h0 : 0 ≤ i) (h1 : i + 6 ≤ (L : Int)) (hL : L ≤ 3072) (hR : Rel X Y) (hT : TB X) (ih : ∀ X' Y', Rel X' Y' → TB X' → wp (h (i + 6, X', Y')) (fun r => r = 1)) : wp (law_C19 N L xs h i X Y) (fun r => r = 1) := by
  unfold law_C19
  simp (disch := omega) only [w32_id, jchk_pos]
  exact case_okp (rings_ok (show 1000 ≤ N by omega) (jsx xs (i + 1))) hR hT ih
theorem law_20 {N L : Nat} (hN : 6000 ≤ N) {xs : Nat → Int32} {h : Int × jMem × jMem → Option Int} {i : Int} {X Y : jMem} (h0 : 0 ≤ i) (h1 : i + 6 ≤ (L : Int)) (hL : L ≤ 3072) (hR : Rel X Y) (hT : TB X) (ih : ∀ X' Y', Rel X' Y' → TB X' → wp (h (i + 6, X', Y')) (fun r => r = 1)) : wp (law_C20 N L xs h i X Y) (fun r => r = 1) := by
  unfold law_C20 jb1
  simp (disch := omega) only [w32_id, jchk_pos]
  exact case_ok (ahead_ok (show 1000 ≤ N by omega) (jsx xs (i + 1)) (jsx xs (i + 2)) (jsx xs (i + 3))) hR hT ih
theorem law_21 {N L : Nat} (hN : 6000 ≤ N) {xs : Nat → Int32} {h : Int × jMem × jMem → Option Int} {i : Int} {X Y : jMem} (h0 : 0 ≤ i) (h1 : i + 6 ≤ (L : Int)) (hL : L ≤ 3072) (hR : Rel X Y) (hT : TB X) (ih : ∀ X' Y', Rel X' Y' → TB X' → wp (h (i + 6, X', Y')) (fun r => r = 1)) : wp (law_C21 N L xs h i X Y) (fun r => r = 1) := by
  unfold law_C21 jb1
  simp (disch := omega) only [w32_id, jchk_pos]
  exact case_ok (dry_ok (show 1000 ≤ N by omega) (jsx xs (i + 1))) hR hT ih
theorem law_22 {N L : Nat} (hN : 6000 ≤ N) {xs : Nat → Int32} {h : Int × jMem × jMem → Option Int} {i : Int} {X Y : jMem} (h0 : 0 ≤ i) (h1 : i + 6 ≤ (L : Int)) (hL : L ≤ 3072) (hR : Rel X Y) (hT : TB X) (ih : ∀ X' Y', Rel X' Y' → TB X' → wp (h (i + 6, X', Y')) (fun r => r = 1)) : wp (law_C22 N L xs h i X Y) (fun r => r = 1) := by
  unfold law_C22 jb1
  simp (disch := omega) only [w32_id, jchk_pos]
  exact case_ok (home_ok (show 1000 ≤ N by omega) ) hR hT ih
theorem law_23 {N L : Nat} (hN : 6000 ≤ N) {xs : Nat → Int32} {h : Int × jMem × jMem → Option Int} {i : Int} {X Y : jMem} (h0 : 0 ≤ i) (h1 : i + 6 ≤ (L : Int)) (hL : L ≤ 3072) (hR : Rel X Y) (hT : TB X) (ih : ∀ X' Y', Rel X' Y' → TB X' → wp (h (i + 6, X', Y')) (fun r => r = 1)) : wp (law_C23 N L xs h i X Y) (fun r => r = 1) := by
  unfold law_C23 jb1
  simp (disch := omega) only [w32_id, jchk_pos]
  exact case_ok (heir_ok (show 1000 ≤ N by omega) (jsx xs (i + 1)) (jsx xs (i + 2))) hR hT ih
theorem law_24 {N L : Nat} (hN : 6000 ≤ N) {xs : Nat → Int32} {h : Int × jMem × jMem → Option Int} {i : Int} {X Y : jMem} (h0 : 0 ≤ i) (h1 : i + 6 ≤ (L : Int)) (hL : L ≤ 3072) (hR : Rel X Y) (hT : TB X) (ih : ∀ X' Y', Rel X' Y' → TB X' → wp (h (i + 6, X', Y')) (fun r => r = 1)) : wp (law_C24 N L xs h i X Y) (fun r => r = 1) := by
  unfold law_C24 jb1
  simp (disch := omega) only [w32_id, jchk_pos]
  exact case_ok (depths_ok (show 1000 ≤ N by omega) (jsx xs (i + 1)) (jsx xs (i + 2))) hR hT ih
theorem law_25 {N L : Nat} (hN : 6000 ≤ N) {xs : Nat → Int32} {h : Int × jMem × jMem → Option Int} {i : Int} {X Y : jMem} (h0 : 0 ≤ i) (h1 : i + 6 ≤ (L : Int)) (hL : L ≤ 3072) (hR : Rel X Y) (hT : TB X) (ih : ∀ X' Y', Rel X' Y' → TB X' → wp (h (i + 6, X', Y')) (fun r => r = 1)) : wp (law_C25 N L xs h i X Y) (fun r => r = 1) := by
  unfold law_C25 jb1
  simp (disch := omega) only [w32_id, jchk_pos]
  exact case_ok (tastes_ok (show 1000 ≤ N by omega) (jsx xs (i + 1)) (jsx xs (i + 2))) hR hT ih
theorem law_26 {N L : Nat} (hN : 6000 ≤ N) {xs : Nat → Int32} {h : Int × jMem × jMem → Option Int} {i : Int} {X Y : jMem} (h0 : 0 ≤ i) (h1 : i + 6 ≤ (L : Int)) (hL : L ≤ 3072) (hR : Rel X Y) (hT : TB X) (ih : ∀ X' Y', Rel X' Y' → TB X' → wp (h (i + 6, X', Y')) (fun r => r = 1)) : wp (law_C26 N L xs h i X Y) (fun r => r = 1) := by
  unfold law_C26 jb1
  simp (disch := omega) only [w32_id, jchk_pos]
  exact case_ok (rests_ok (show 1000 ≤ N by omega) (jsx xs (i + 1)) (jsx xs (i + 2)) (jsx xs (i + 3)) (jsx xs (i + 4))) hR hT ih
theorem law_27 {N L : Nat} (hN : 6000 ≤ N) {xs : Nat → Int32} {h : Int × jMem × jMem → Option Int} {i : Int} {X Y : jMem} (h0 : 0 ≤ i) (h1 : i + 6 ≤ (L : Int)) (hL : L ≤ 3072) (hR : Rel X Y) (hT : TB X) (ih : ∀ X' Y', Rel X' Y' → TB X' → wp (h (i + 6, X', Y')) (fun r => r = 1)) : wp (law_C27 N L xs h i X Y) (fun r => r = 1) := by
  unfold law_C27
  simp (disch := omega) only [w32_id, jchk_pos]
  exact case_okp (pence_ok (show 1000 ≤ N by omega) (jsx xs (i + 1)) (jsx xs (i + 2))) hR hT ih
theorem law_28 {N L : Nat} (hN : 6000 ≤ N) {xs : Nat → Int32} {h : Int × jMem × jMem → Option Int} {i : Int} {X Y : jMem} (h0 : 0 ≤ i) (h1 : i + 6 ≤ (L : Int)) (hL : L ≤ 3072) (hR : Rel X Y) (hT : TB X) (ih : ∀ X' Y', Rel X' Y' → TB X' → wp (h (i + 6, X', Y')) (fun r => r = 1)) : wp (law_C28 N L xs h i X Y) (fun r => r = 1) := by
  unfold law_C28 jb1
  simp (disch := omega) only [w32_id, jchk_pos]
  exact case_ok (note_ok (N := N) (jsx xs (i + 1)) (jsx xs (i + 2)) (jsx xs (i + 3))) hR hT ih
theorem law_29 {N L : Nat} (hN : 6000 ≤ N) {xs : Nat → Int32} {h : Int × jMem × jMem → Option Int} {i : Int} {X Y : jMem} (h0 : 0 ≤ i) (h1 : i + 6 ≤ (L : Int)) (hL : L ≤ 3072) (hR : Rel X Y) (hT : TB X) (ih : ∀ X' Y', Rel X' Y' → TB X' → wp (h (i + 6, X', Y')) (fun r => r = 1)) : wp (law_C29 N L xs h i X Y) (fun r => r = 1) := by
  unfold law_C29 jb1
  simp (disch := omega) only [w32_id, jchk_pos]
  exact case_ok (ruled_ok (show 1000 ≤ N by omega) (jsx xs (i + 1))) hR hT ih
theorem law_30 {N L : Nat} (hN : 6000 ≤ N) {xs : Nat → Int32} {h : Int × jMem × jMem → Option Int} {i : Int} {X Y : jMem} (h0 : 0 ≤ i) (h1 : i + 6 ≤ (L : Int)) (hL : L ≤ 3072) (hR : Rel X Y) (hT : TB X) (ih : ∀ X' Y', Rel X' Y' → TB X' → wp (h (i + 6, X', Y')) (fun r => r = 1)) : wp (law_C30 N L xs h i X Y) (fun r => r = 1) := by
  unfold law_C30 jb1
  simp (disch := omega) only [w32_id, jchk_pos]
  exact case_ok (look_ok (show 1000 ≤ N by omega) (jsx xs (i + 1)) (jsx xs (i + 2))) hR hT ih
theorem law_31 {N L : Nat} (hN : 6000 ≤ N) {xs : Nat → Int32} {h : Int × jMem × jMem → Option Int} {i : Int} {X Y : jMem} (h0 : 0 ≤ i) (h1 : i + 6 ≤ (L : Int)) (hL : L ≤ 3072) (hR : Rel X Y) (hT : TB X) (ih : ∀ X' Y', Rel X' Y' → TB X' → wp (h (i + 6, X', Y')) (fun r => r = 1)) : wp (law_C31 N L xs h i X Y) (fun r => r = 1) := by
  unfold law_C31 jb1
  simp (disch := omega) only [w32_id, jchk_pos]
  exact case_ok (seed_ok (N := N) (jsx xs (i + 1)) jsx_lt) hR hT ih
theorem law_32 {N L : Nat} (hN : 6000 ≤ N) {xs : Nat → Int32} {h : Int × jMem × jMem → Option Int} {i : Int} {X Y : jMem} (h0 : 0 ≤ i) (h1 : i + 6 ≤ (L : Int)) (hL : L ≤ 3072) (hR : Rel X Y) (hT : TB X) (ih : ∀ X' Y', Rel X' Y' → TB X' → wp (h (i + 6, X', Y')) (fun r => r = 1)) : wp (law_C32 N L xs h i X Y) (fun r => r = 1) := by
  unfold law_C32 jb1
  simp (disch := omega) only [w32_id, jchk_pos]
  exact case_ok (droughts_ok (show 1000 ≤ N by omega) (jsx xs (i + 1)) (jsx xs (i + 2)) (jsx xs (i + 3)) (jsx xs (i + 4))) hR hT ih
theorem law_33 {N L : Nat} (hN : 6000 ≤ N) {xs : Nat → Int32} {h : Int × jMem × jMem → Option Int} {i : Int} {X Y : jMem} (h0 : 0 ≤ i) (h1 : i + 6 ≤ (L : Int)) (hL : L ≤ 3072) (hR : Rel X Y) (hT : TB X) (ih : ∀ X' Y', Rel X' Y' → TB X' → wp (h (i + 6, X', Y')) (fun r => r = 1)) : wp (law_C33 N L xs h i X Y) (fun r => r = 1) := by
  unfold law_C33
  simp (disch := omega) only [w32_id, jchk_pos]
  exact case_okp (count_ok (show 1000 ≤ N by omega) (jsx xs (i + 1))) hR hT ih
theorem law_34 {N L : Nat} (hN : 6000 ≤ N) {xs : Nat → Int32} {h : Int × jMem × jMem → Option Int} {i : Int} {X Y : jMem} (h0 : 0 ≤ i) (h1 : i + 6 ≤ (L : Int)) (hL : L ≤ 3072) (hR : Rel X Y) (hT : TB X) (ih : ∀ X' Y', Rel X' Y' → TB X' → wp (h (i + 6, X', Y')) (fun r => r = 1)) : wp (law_C34 N L xs h i X Y) (fun r => r = 1) := by
  unfold law_C34 jb1
  simp (disch := omega) only [w32_id, jchk_pos]
  exact case_ok (image_ok (show 1000 ≤ N by omega) (jsx xs (i + 1))) hR hT ih
theorem law_35 {N L : Nat} (hN : 6000 ≤ N) {xs : Nat → Int32} {h : Int × jMem × jMem → Option Int} {i : Int} {X Y : jMem} (h0 : 0 ≤ i) (h1 : i + 6 ≤ (L : Int)) (hL : L ≤ 3072) (hR : Rel X Y) (hT : TB X) (ih : ∀ X' Y', Rel X' Y' → TB X' → wp (h (i + 6, X', Y')) (fun r => r = 1)) : wp (law_C35 N L xs h i X Y) (fun r => r = 1) := by
  unfold law_C35 jb1
  simp (disch := omega) only [w32_id, jchk_pos]
  exact case_ok (back_ok (show 1000 ≤ N by omega) (jsx xs (i + 1))) hR hT ih
theorem law_any {N L : Nat} (hN : 6000 ≤ N) (hL : L ≤ 3072) (xs : Nat → Int32) {X0 Y0 : jMem} (hR0 : Rel X0 Y0) (hT0 : TB X0) : law_f N L xs X0 Y0 = some 1 := by
  have H : wp (law_f N L xs X0 Y0) (fun r => r = 1) := by
    unfold law_f
    refine wp_fix (fun z => (4000 - z.1).toNat) (fun (z : Int × jMem × jMem) => (0 ≤ z.1 ∧ z.1 ≤ 3078) ∧ Rel z.2.1 z.2.2 ∧ TB z.2.1) ?_ N _ ⟨⟨by dsimp only; omega, by dsimp only; omega⟩, hR0, hT0⟩ (by dsimp only; omega)
    rintro h ⟨i, X, Y⟩ ⟨i0, hR, hT⟩ ih
    dsimp only at i0 hR hT ih
    unfold law_L jlt
    dsimp only
    rw [w32_id (by omega)]
    by_cases c : (L : Int) - 6 < i
    · rw [if_pos c]; exact wp_some rfl
    · rw [if_neg c, jchk_pos (by omega)]
      have ih' : ∀ X' Y', Rel X' Y' → TB X' → wp (h (i + 6, X', Y')) (fun r => r = 1) := fun X' Y' r1 r2 => ih (i + 6, X', Y') ⟨by dsimp only; omega, r1, r2⟩ (by dsimp only; omega)
      have h1 : i + 6 ≤ (L : Int) := by omega
      generalize jand (jsx xs i) 63 = sw
      by_cases c0 : sw = 0
      · rw [if_pos c0]; exact law_0 hN i0.1 h1 hL hR hT ih'
      rw [if_neg c0]
      by_cases c1 : sw = 1
      · rw [if_pos c1]; exact law_1 hN i0.1 h1 hL hR hT ih'
      rw [if_neg c1]
      by_cases c2 : sw = 2
      · rw [if_pos c2]; exact law_2 hN i0.1 h1 hL hR hT ih'
      rw [if_neg c2]
      by_cases c3 : sw = 3
      · rw [if_pos c3]; exact law_3 hN i0.1 h1 hL hR hT ih'
      rw [if_neg c3]
      by_cases c4 : sw = 4
      · rw [if_pos c4]; exact law_4 hN i0.1 h1 hL hR hT ih'
      rw [if_neg c4]
      by_cases c5 : sw = 5
      · rw [if_pos c5]; exact law_5 hN i0.1 h1 hL hR hT ih'
      rw [if_neg c5]
      by_cases c6 : sw = 6
      · rw [if_pos c6]; exact law_6 hN i0.1 h1 hL hR hT ih'
      rw [if_neg c6]
      by_cases c7 : sw = 7
      · rw [if_pos c7]; exact law_7 hN i0.1 h1 hL hR hT ih'
      rw [if_neg c7]
      by_cases c8 : sw = 8
      · rw [if_pos c8]; exact law_8 hN i0.1 h1 hL hR hT ih'
      rw [if_neg c8]
      by_cases c9 : sw = 9
      · rw [if_pos c9]; exact law_9 hN i0.1 h1 hL hR hT ih'
      rw [if_neg c9]
      by_cases c10 : sw = 10
      · rw [if_pos c10]; exact law_10 hN i0.1 h1 hL hR hT ih'
      rw [if_neg c10]
      by_cases c11 : sw = 11
      · rw [if_pos c11]; exact law_11 hN i0.1 h1 hL hR hT ih'
      rw [if_neg c11]
      by_cases c12 : sw = 12
      · rw [if_pos c12]; exact law_12 hN i0.1 h1 hL hR hT ih'
      rw [if_neg c12]
      by_cases c13 : sw = 13
      · rw [if_pos c13]; exact law_13 hN i0.1 h1 hL hR hT ih'
      rw [if_neg c13]
      by_cases c14 : sw = 14
      · rw [if_pos c14]; exact law_14 hN i0.1 h1 hL hR hT ih'
      rw [if_neg c14]
      by_cases c15 : sw = 15
      · rw [if_pos c15]; exact law_15 hN i0.1 h1 hL hR hT ih'
      rw [if_neg c15]
      by_cases c16 : sw = 16
      · rw [if_pos c16]; exact law_16 hN i0.1 h1 hL hR hT ih'
      rw [if_neg c16]
      by_cases c17 : sw = 17
      · rw [if_pos c17]; exact law_17 hN i0.1 h1 hL hR hT ih'
      rw [if_neg c17]
      by_cases c18 : sw = 18
      · rw [if_pos c18]; exact law_18 hN i0.1 h1 hL hR hT ih'
      rw [if_neg c18]
      by_cases c19 : sw = 19
      · rw [if_pos c19]; exact law_19 hN i0.1 h1 hL hR hT ih'
      rw [if_neg c19]
      by_cases c20 : sw = 20
      · rw [if_pos c20]; exact law_20 hN i0.1 h1 hL hR hT ih'
      rw [if_neg c20]
      by_cases c21 : sw = 21
      · rw [if_pos c21]; exact law_21 hN i0.1 h1 hL hR hT ih'
      rw [if_neg c21]
      by_cases c22 : sw = 22
      · rw [if_pos c22]; exact law_22 hN i0.1 h1 hL hR hT ih'
      rw [if_neg c22]
      by_cases c23 : sw = 23
      · rw [if_pos c23]; exact law_23 hN i0.1 h1 hL hR hT ih'
      rw [if_neg c23]
      by_cases c24 : sw = 24
      · rw [if_pos c24]; exact law_24 hN i0.1 h1 hL hR hT ih'
      rw [if_neg c24]
      by_cases c25 : sw = 25
      · rw [if_pos c25]; exact law_25 hN i0.1 h1 hL hR hT ih'
      rw [if_neg c25]
      by_cases c26 : sw = 26
      · rw [if_pos c26]; exact law_26 hN i0.1 h1 hL hR hT ih'
      rw [if_neg c26]
      by_cases c27 : sw = 27
      · rw [if_pos c27]; exact law_27 hN i0.1 h1 hL hR hT ih'
      rw [if_neg c27]
      by_cases c28 : sw = 28
      · rw [if_pos c28]; exact law_28 hN i0.1 h1 hL hR hT ih'
      rw [if_neg c28]
      by_cases c29 : sw = 29
      · rw [if_pos c29]; exact law_29 hN i0.1 h1 hL hR hT ih'
      rw [if_neg c29]
      by_cases c30 : sw = 30
      · rw [if_pos c30]; exact law_30 hN i0.1 h1 hL hR hT ih'
      rw [if_neg c30]
      by_cases c31 : sw = 31
      · rw [if_pos c31]; exact law_31 hN i0.1 h1 hL hR hT ih'
      rw [if_neg c31]
      by_cases c32 : sw = 32
      · rw [if_pos c32]; exact law_32 hN i0.1 h1 hL hR hT ih'
      rw [if_neg c32]
      by_cases c33 : sw = 33
      · rw [if_pos c33]; exact law_33 hN i0.1 h1 hL hR hT ih'
      rw [if_neg c33]
      by_cases c34 : sw = 34
      · rw [if_pos c34]; exact law_34 hN i0.1 h1 hL hR hT ih'
      rw [if_neg c34]
      by_cases c35 : sw = 35
      · rw [if_pos c35]; exact law_35 hN i0.1 h1 hL hR hT ih'
      rw [if_neg c35]
      rw [w32_id (by omega)]
      exact ih' X Y hR hT
  obtain ⟨r, e1, e2⟩ := H
  rw [e1, e2]
theorem law_true {L : Nat} (hL : L ≤ 3072) (xs : Nat → Int32) : law_f 10000 L xs jX0 jY0 = some 1 := law_any (by decide) hL xs start_ok.1 start_ok.2
