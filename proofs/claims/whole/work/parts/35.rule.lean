/-! a RULE's code on both sides, in step -/
theorem bv_nat {x : Int} (h0 : 0 ≤ x) (h1 : x < 2147483648) : (Int32.ofInt x).toBitVec.toNat = x.toNat := by
  show (BitVec.ofInt 32 x).toNat = x.toNat
  rw [BitVec.toNat_ofInt]; omega
theorem jand_nat {x y : Int} (h0 : 0 ≤ x) (h1 : x < 2147483648) (h2 : 0 ≤ y) (h3 : y < 2147483648) : jand x y = ((x.toNat &&& y.toNat : Nat) : Int) := by
  unfold jand
  show ((Int32.ofInt x).toBitVec &&& (Int32.ofInt y).toBitVec).toInt = _
  have e : ((Int32.ofInt x).toBitVec &&& (Int32.ofInt y).toBitVec).toNat = x.toNat &&& y.toNat := by
    rw [BitVec.toNat_and, bv_nat h0 h1, bv_nat h2 h3]
  have hle : x.toNat &&& y.toNat ≤ x.toNat := Nat.and_le_left
  rw [BitVec.toInt_eq_toNat_of_lt (by rw [e]; omega), e]
theorem and15 {x : Int} (h0 : 0 ≤ x) (h1 : x < 2147483648) : jand x 15 = x % 16 := by
  rw [jand_nat h0 h1 (by decide) (by decide)]
  have e := Nat.and_two_pow_sub_one_eq_mod x.toNat 4
  show ((x.toNat &&& 15 : Nat) : Int) = x % 16
  have e2 : x.toNat &&& 15 = x.toNat % 16 := e
  rw [e2]; omega
theorem shr4 {x : Int} (h0 : 0 ≤ x) (h1 : x < 2147483648) : jshr x 4 = x / 16 := by
  unfold jshr
  have e : Int32.ofInt 4 &&& 31 = 4 := by decide
  rw [e]
  show ((Int32.ofInt x).toBitVec.sshiftRight' ((4 : Int32).toBitVec.smod 32)).toInt = _
  have e2 : ((4 : Int32).toBitVec.smod 32) = 4#32 := by decide
  rw [e2, BitVec.toInt_sshiftRight']
  have e3 : (Int32.ofInt x).toBitVec.toInt = x := i32_toInt' ⟨by omega, h1⟩
  rw [e3, Int.shiftRight_eq_div_pow]
  rfl
theorem jcmp_0 {x y : Int} : jcmp x y = 0 ↔ x = y := by unfold jcmp; (repeat' split) <;> omega
theorem jcmp_lt {x y : Int} : jcmp x y < 0 ↔ x < y := by unfold jcmp; (repeat' split) <;> omega
theorem jcmp_gt {x y : Int} : 0 < jcmp x y ↔ y < x := by unfold jcmp; (repeat' split) <;> omega
/-- one sign of the class's code and of the reference's -/
def CR (c s : Int) : Prop := (0 ≤ c ∧ c ≤ 99999 ∧ s = 16 * c) ∨ (-37 ≤ c ∧ c ≤ -26 ∧ s = 1 + 16 * (-c - 26)) ∨ (c = -25 ∧ s = 11) ∨ (c = -7 ∧ s = 2) ∨ (c = -8 ∧ s = 3) ∨ (c = -9 ∧ s = 4) ∨ (c = -10 ∧ s = 5) ∨ (c = -11 ∧ s = 14) ∨ (c = -12 ∧ s = 6) ∨ (c = -13 ∧ s = 8) ∨ (c = -14 ∧ s = 10) ∨ (c = -15 ∧ s = 7) ∨ (c = -16 ∧ s = 9) ∨ (c = -23 ∧ s = 13) ∨ (c = -24 ∧ s = 12)
/-- what is on the stack: true a truth (0 or 1), false a number -/
def tyS (c : Int) (ts : List Bool) : Option (List Bool) :=
  if 0 ≤ c ∨ c < -25 then (if ts.length < 40 then some (false :: ts) else none)
  else if c = -25 then (match ts with
    | true :: r => some (true :: r)
    | _ => none)
  else if -11 ≤ c then (match ts with
    | false :: false :: r => some (false :: r)
    | _ => none)
  else if -16 ≤ c then (match ts with
    | false :: false :: r => some (true :: r)
    | _ => none)
  else (match ts with
    | true :: true :: r => some (true :: r)
    | _ => none)
def tyF (code : Int → Int) : Nat → Int → List Bool → Option (List Bool)
  | 0, _, ts => some ts
  | n + 1, i, ts => (tyS (code i) ts).bind (tyF code n (i + 1))
def TS (row : Int → Int) : List Bool → Prop
  | [] => True
  | t :: r => (t = true → row (r.length : Int) = 0 ∨ row (r.length : Int) = 1) ∧ TS row r
theorem TS_congr {row row' : Int → Int} {ts : List Bool} (h : ∀ k, 0 ≤ k → k < (ts.length : Int) → row' k = row k) (hT : TS row ts) : TS row' ts := by
  induction ts with
  | nil => trivial
  | cons t r ih =>
    refine ⟨fun ht => ?_, ih (fun k h0 h1 => h k h0 (by simp only [List.length_cons]; omega)) hT.2⟩
    rw [h (r.length : Int) (by omega) (by simp only [List.length_cons]; omega)]; exact hT.1 ht
/-- what two values make: the same on both sides -/
theorem comb_ok {N : Nat} {c s u v : Int} {A B : jMem} (h : (c = -7 ∧ s = 2) ∨ (c = -8 ∧ s = 3) ∨ (c = -9 ∧ s = 4) ∨ (c = -10 ∧ s = 5) ∨ (c = -11 ∧ s = 14) ∨ (c = -12 ∧ s = 6) ∨ (c = -13 ∧ s = 8) ∨ (c = -14 ∧ s = 10) ∨ (c = -15 ∧ s = 7) ∨ (c = -16 ∧ s = 9) ∨ (c = -23 ∧ s = 13) ∨ (c = -24 ∧ s = 12)) :
    ∃ r, Ru_combine N (-c) u v A = some r ∧ m_one N s u v B = some r ∧ (c ≤ -12 → -16 ≤ c → r = 0 ∨ r = 1) := by
  unfold Ru_combine m_one
  rcases h with ⟨rfl, rfl⟩ | ⟨rfl, rfl⟩ | ⟨rfl, rfl⟩ | ⟨rfl, rfl⟩ | ⟨rfl, rfl⟩ | ⟨rfl, rfl⟩ | ⟨rfl, rfl⟩ | ⟨rfl, rfl⟩ | ⟨rfl, rfl⟩ | ⟨rfl, rfl⟩ | ⟨rfl, rfl⟩ | ⟨rfl, rfl⟩
  · exact ⟨_, rfl, rfl, fun h _ => by omega⟩
  · exact ⟨_, rfl, rfl, fun h _ => by omega⟩
  · exact ⟨_, rfl, rfl, fun h _ => by omega⟩
  · by_cases hv : v = 0
    · subst hv; exact ⟨0, rfl, rfl, fun h _ => by omega⟩
    · have h1 : ¬ jcmp v 0 = 0 := fun z => hv (jcmp_0.mp z)
      refine ⟨w64 (u.tdiv v), ?_, ?_, fun h _ => by omega⟩
      · show (if jcmp v 0 = 0 then some 0 else jchk (v ≠ 0) <| some (w64 (u.tdiv v))) = _
        rw [if_neg h1, jchk_pos hv]
      · show (if jcmp v 0 = 0 then some 0 else jchk (v ≠ 0) <| some (w64 (u.tdiv v))) = _
        rw [if_neg h1, jchk_pos hv]
  · by_cases hv : v = 0
    · subst hv; exact ⟨0, rfl, rfl, fun h _ => by omega⟩
    · have h1 : ¬ jcmp v 0 = 0 := fun z => hv (jcmp_0.mp z)
      refine ⟨u.tmod v, ?_, ?_, fun h _ => by omega⟩
      · show (if jcmp v 0 = 0 then some 0 else jchk (v ≠ 0) <| some (u.tmod v)) = _
        rw [if_neg h1, jchk_pos hv]
      · show (if jcmp v 0 = 0 then some 0 else jchk (v ≠ 0) <| some (u.tmod v)) = _
        rw [if_neg h1, jchk_pos hv]
  · by_cases h1 : jcmp u v < 0
    · exact ⟨1, if_pos h1, if_pos h1, fun _ _ => Or.inr rfl⟩
    · exact ⟨0, if_neg h1, if_neg h1, fun _ _ => Or.inl rfl⟩
  · by_cases h1 : jcmp u v = 0
    · exact ⟨1, if_pos h1, if_pos h1, fun _ _ => Or.inr rfl⟩
    · exact ⟨0, if_neg h1, if_neg h1, fun _ _ => Or.inl rfl⟩
  · by_cases h1 : 0 < jcmp u v
    · exact ⟨1, if_pos h1, if_pos h1, fun _ _ => Or.inr rfl⟩
    · exact ⟨0, if_neg h1, if_neg h1, fun _ _ => Or.inl rfl⟩
  · by_cases h1 : 0 < jcmp u v
    · exact ⟨0, if_pos h1, if_pos h1, fun _ _ => Or.inl rfl⟩
    · exact ⟨1, if_neg h1, if_neg h1, fun _ _ => Or.inr rfl⟩
  · by_cases h1 : jcmp u v < 0
    · exact ⟨0, if_pos h1, if_pos h1, fun _ _ => Or.inl rfl⟩
    · exact ⟨1, if_neg h1, if_neg h1, fun _ _ => Or.inr rfl⟩
  · exact ⟨_, rfl, rfl, fun _ h => by omega⟩
  · exact ⟨_, rfl, rfl, fun _ h => by omega⟩
