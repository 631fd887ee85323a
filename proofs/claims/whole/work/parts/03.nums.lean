/-! numbers: the machine's ints and longs as whole numbers in their range -/
def in32 (x : Int) : Prop := -2147483648 ≤ x ∧ x < 2147483648
def in64 (x : Int) : Prop := -9223372036854775808 ≤ x ∧ x < 9223372036854775808
def w32 (x : Int) : Int := (x + 2147483648) % 4294967296 - 2147483648
def w64 (x : Int) : Int := (x + 9223372036854775808) % 18446744073709551616 - 9223372036854775808
def w8 (x : Int) : Int := (x + 128) % 256 - 128
def w16 (x : Int) : Int := (x + 32768) % 65536 - 32768
theorem w32_in (x : Int) : in32 (w32 x) := by unfold in32 w32; omega
theorem w64_in (x : Int) : in64 (w64 x) := by unfold in64 w64; omega
theorem w8_in (x : Int) : in32 (w8 x) := by unfold in32 w8; omega
theorem w16_in (x : Int) : in32 (w16 x) := by unfold in32 w16; omega
theorem w32_id {x : Int} (h : -2147483648 ≤ x ∧ x < 2147483648) : w32 x = x := by unfold w32; omega
theorem w64_id {x : Int} (h : -9223372036854775808 ≤ x ∧ x < 9223372036854775808) : w64 x = x := by unfold w64; omega
theorem w32_bmod (x : Int) : x.bmod 4294967296 = w32 x := by
  unfold w32 Int.bmod; dsimp only; split <;> omega
theorem w64_bmod (x : Int) : x.bmod 18446744073709551616 = w64 x := by
  unfold w64 Int.bmod; dsimp only; split <;> omega
theorem w8_bmod (x : Int) : x.bmod 256 = w8 x := by
  unfold w8 Int.bmod; dsimp only; split <;> omega
theorem w16_bmod (x : Int) : x.bmod 65536 = w16 x := by
  unfold w16 Int.bmod; dsimp only; split <;> omega
theorem i32_toInt (x : Int) : (Int32.ofInt x).toInt = w32 x := by rw [Int32.toInt_ofInt]; exact w32_bmod x
theorem i64_toInt (x : Int) : (Int64.ofInt x).toInt = w64 x := by rw [Int64.toInt_ofInt]; exact w64_bmod x
theorem i32_toInt' {x : Int} (h : in32 x) : (Int32.ofInt x).toInt = x := by rw [i32_toInt, w32_id h]
theorem i64_toInt' {x : Int} (h : in64 x) : (Int64.ofInt x).toInt = x := by rw [i64_toInt, w64_id h]
theorem i32_w (x : Int) : Int32.ofInt (w32 x) = Int32.ofInt x := by rw [← i32_toInt, Int32.ofInt_toInt]
theorem i64_w (x : Int) : Int64.ofInt (w64 x) = Int64.ofInt x := by rw [← i64_toInt, Int64.ofInt_toInt]
theorem i32_add (x y : Int) : Int32.ofInt (w32 (x + y)) = Int32.ofInt x + Int32.ofInt y := by rw [i32_w, Int32.ofInt_add]
theorem i32_sub (x y : Int) : Int32.ofInt (w32 (x - y)) = Int32.ofInt x - Int32.ofInt y := by rw [i32_w, Int32.ofInt_sub]
theorem i32_mul (x y : Int) : Int32.ofInt (w32 (x * y)) = Int32.ofInt x * Int32.ofInt y := by rw [i32_w, Int32.ofInt_mul]
theorem i32_neg (x : Int) : Int32.ofInt (w32 (-x)) = -Int32.ofInt x := by rw [i32_w, Int32.ofInt_neg]
theorem i64_add (x y : Int) : Int64.ofInt (w64 (x + y)) = Int64.ofInt x + Int64.ofInt y := by rw [i64_w, Int64.ofInt_add]
theorem i64_sub (x y : Int) : Int64.ofInt (w64 (x - y)) = Int64.ofInt x - Int64.ofInt y := by rw [i64_w, Int64.ofInt_sub]
theorem i64_mul (x y : Int) : Int64.ofInt (w64 (x * y)) = Int64.ofInt x * Int64.ofInt y := by rw [i64_w, Int64.ofInt_mul]
theorem i32_div {x y : Int} (hx : in32 x) (hy : in32 y) : Int32.ofInt (w32 (x.tdiv y)) = Int32.ofInt x / Int32.ofInt y := by
  apply Int32.toInt_inj.mp
  rw [Int32.toInt_div, i32_toInt, i32_toInt' hx, i32_toInt' hy]
  exact (w32_id (w32_in _)).trans (w32_bmod _).symm
theorem i32_mod {x y : Int} (hx : in32 x) (hy : in32 y) : Int32.ofInt (x.tmod y) = Int32.ofInt x % Int32.ofInt y := by
  rw [← Int32.ofInt_toInt (Int32.ofInt x % Int32.ofInt y), Int32.toInt_mod, i32_toInt' hx, i32_toInt' hy]
theorem i64_div {x y : Int} (hx : in64 x) (hy : in64 y) : Int64.ofInt (w64 (x.tdiv y)) = Int64.ofInt x / Int64.ofInt y := by
  apply Int64.toInt_inj.mp
  rw [Int64.toInt_div, i64_toInt, i64_toInt' hx, i64_toInt' hy]
  exact (w64_id (w64_in _)).trans (w64_bmod _).symm
theorem i64_mod {x y : Int} (hx : in64 x) (hy : in64 y) : Int64.ofInt (x.tmod y) = Int64.ofInt x % Int64.ofInt y := by
  rw [← Int64.ofInt_toInt (Int64.ofInt x % Int64.ofInt y), Int64.toInt_mod, i64_toInt' hx, i64_toInt' hy]
theorem tmod_in32 {x y : Int} (hx : in32 x) (hy : in32 y) : in32 (x.tmod y) := by
  have h := Int32.toInt_mod (Int32.ofInt x) (Int32.ofInt y)
  rw [i32_toInt' hx, i32_toInt' hy] at h
  rw [← h]; exact ⟨Int32.le_toInt _, Int32.toInt_lt _⟩
theorem tmod_in64 {x y : Int} (hx : in64 x) (hy : in64 y) : in64 (x.tmod y) := by
  have h := Int64.toInt_mod (Int64.ofInt x) (Int64.ofInt y)
  rw [i64_toInt' hx, i64_toInt' hy] at h
  rw [← h]; exact ⟨Int64.le_toInt _, Int64.toInt_lt _⟩
theorem i32_lt {x y : Int} (hx : in32 x) (hy : in32 y) : Int32.ofInt x < Int32.ofInt y ↔ x < y := by
  rw [Int32.lt_iff_toInt_lt, i32_toInt' hx, i32_toInt' hy]
theorem i32_le {x y : Int} (hx : in32 x) (hy : in32 y) : Int32.ofInt x ≤ Int32.ofInt y ↔ x ≤ y := by
  rw [Int32.le_iff_toInt_le, i32_toInt' hx, i32_toInt' hy]
theorem i32_eq {x y : Int} (hx : in32 x) (hy : in32 y) : Int32.ofInt x = Int32.ofInt y ↔ x = y := by
  rw [← Int32.toInt_inj, i32_toInt' hx, i32_toInt' hy]
theorem i64_lt {x y : Int} (hx : in64 x) (hy : in64 y) : Int64.ofInt x < Int64.ofInt y ↔ x < y := by
  rw [Int64.lt_iff_toInt_lt, i64_toInt' hx, i64_toInt' hy]
theorem i64_eq {x y : Int} (hx : in64 x) (hy : in64 y) : Int64.ofInt x = Int64.ofInt y ↔ x = y := by
  rw [← Int64.toInt_inj, i64_toInt' hx, i64_toInt' hy]
/-- bits, as the machine has them -/
def jand (x y : Int) : Int := (Int32.ofInt x &&& Int32.ofInt y).toInt
def jor (x y : Int) : Int := (Int32.ofInt x ||| Int32.ofInt y).toInt
def jshl (x y : Int) : Int := (Int32.ofInt x <<< (Int32.ofInt y &&& 31)).toInt
def jshr (x y : Int) : Int := (Int32.ofInt x >>> (Int32.ofInt y &&& 31)).toInt
def jushr (x y : Int) : Int := ((Int32.ofInt x).toUInt32 >>> ((Int32.ofInt y).toUInt32 &&& Int32.toUInt32 31)).toInt32.toInt
def jlan (x y : Int) : Int := (Int64.ofInt x &&& Int64.ofInt y).toInt
def jlor (x y : Int) : Int := (Int64.ofInt x ||| Int64.ofInt y).toInt
def jlshl (x y : Int) : Int := (Int64.ofInt x <<< ((Int32.ofInt y).toInt64 &&& 63)).toInt
theorem toInt_in32 (x : Int32) : in32 x.toInt := ⟨Int32.le_toInt _, Int32.toInt_lt _⟩
theorem toInt_in64 (x : Int64) : in64 x.toInt := ⟨Int64.le_toInt _, Int64.toInt_lt _⟩
def jcmp (x y : Int) : Int := if y < x then 1 else if x = y then 0 else -1
theorem jcmp_ok {x y : Int} (hx : in64 x) (hy : in64 y) : Int32.ofInt (jcmp x y) = lg_cmp (Int64.ofInt x) (Int64.ofInt y) := by
  unfold jcmp lg_cmp
  by_cases h : y < x
  · rw [if_pos h, if_pos ((i64_lt hy hx).mpr h)]; rfl
  · rw [if_neg h, if_neg (fun z => h ((i64_lt hy hx).mp z))]
    by_cases h2 : x = y
    · rw [if_pos h2, if_pos ((i64_eq hx hy).mpr h2)]; rfl
    · rw [if_neg h2, if_neg (fun z => h2 ((i64_eq hx hy).mp z))]; rfl
theorem jcmp_in (x y : Int) : in32 (jcmp x y) := by
  unfold jcmp in32; (repeat' split) <;> omega
theorem i32_i64 {x : Int} (hx : in32 x) : (Int32.ofInt x).toInt64 = Int64.ofInt x := by
  rw [← Int64.ofInt_toInt (Int32.ofInt x).toInt64, Int32.toInt_toInt64, i32_toInt' hx]
theorem in32_64 {x : Int} (hx : in32 x) : in64 x := by unfold in32 at hx; unfold in64; omega
theorem i64_i32 {x : Int} (hx : in64 x) : (Int64.ofInt x).toInt32 = Int32.ofInt (w32 x) := by
  rw [i32_w, Int64.toInt32_ofInt]
theorem i32_i8 {x : Int} (hx : in32 x) : (Int32.ofInt x).toInt8.toInt32 = Int32.ofInt (w8 x) := by
  apply Int32.toInt_inj.mp
  rw [Int8.toInt_toInt32, Int32.toInt_toInt8, i32_toInt' hx, i32_toInt' (w8_in _)]
  exact w8_bmod x
theorem i32_i16 {x : Int} (hx : in32 x) : (Int32.ofInt x).toInt16.toInt32 = Int32.ofInt (w16 x) := by
  apply Int32.toInt_inj.mp
  rw [Int16.toInt_toInt32, Int32.toInt_toInt16, i32_toInt' hx, i32_toInt' (w16_in _)]
  exact w16_bmod x
