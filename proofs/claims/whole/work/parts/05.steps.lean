/-! one row an instruction, over the world of whole numbers -/
theorem i32_cl {i : Int} (h : in32 i) : (Int32.ofInt i).toNatClampNeg = i.toNat := by rw [← Int32.toNat_toInt, i32_toInt' h]
theorem i32_lt0 {x : Int} (h : in32 x) : Int32.ofInt x < 0 ↔ x < 0 := by rw [Int32.lt_iff_toInt_lt, i32_toInt' h, Int32.toInt_zero]
theorem i32_le0 {x : Int} (h : in32 x) : Int32.ofInt x ≤ 0 ↔ x ≤ 0 := by rw [Int32.le_iff_toInt_le, i32_toInt' h, Int32.toInt_zero]
theorem i32_0lt {x : Int} (h : in32 x) : 0 < Int32.ofInt x ↔ 0 < x := by rw [Int32.lt_iff_toInt_lt, i32_toInt' h, Int32.toInt_zero]
theorem i32_0le {x : Int} (h : in32 x) : 0 ≤ Int32.ofInt x ↔ 0 ≤ x := by rw [Int32.le_iff_toInt_le, i32_toInt' h, Int32.toInt_zero]
theorem i32_eq0 {x : Int} (h : in32 x) : Int32.ofInt x = 0 ↔ x = 0 := by rw [← Int32.toInt_inj, i32_toInt' h, Int32.toInt_zero]
theorem i64_eq0 {x : Int} (h : in64 x) : Int64.ofInt x = 0 ↔ x = 0 := by rw [← Int64.toInt_inj, i64_toInt' h]; exact Iff.rfl
theorem i32_and (x y : Int) : Int32.ofInt (jand x y) = Int32.ofInt x &&& Int32.ofInt y := Int32.ofInt_toInt _
theorem i32_or (x y : Int) : Int32.ofInt (jor x y) = Int32.ofInt x ||| Int32.ofInt y := Int32.ofInt_toInt _
theorem i32_shl (x y : Int) : Int32.ofInt (jshl x y) = Int32.ofInt x <<< (Int32.ofInt y &&& 31) := Int32.ofInt_toInt _
theorem i32_shr (x y : Int) : Int32.ofInt (jshr x y) = Int32.ofInt x >>> (Int32.ofInt y &&& 31) := Int32.ofInt_toInt _
theorem i64_and (x y : Int) : Int64.ofInt (jlan x y) = Int64.ofInt x &&& Int64.ofInt y := Int64.ofInt_toInt _
theorem i64_or (x y : Int) : Int64.ofInt (jlor x y) = Int64.ofInt x ||| Int64.ofInt y := Int64.ofInt_toInt _
theorem i32_rem {x y : Int} (hx : in32 x) (hy : in32 y) : Int32.ofInt (x.tmod y) = Int32.ofInt x - Int32.ofInt x / Int32.ofInt y * Int32.ofInt y := by
  rw [Int.tmod_def, Int32.ofInt_sub, Int32.ofInt_mul, ← i32_div hx hy, i32_w, Int32.mul_comm]
theorem i64_rem {x y : Int} (hx : in64 x) (hy : in64 y) : Int64.ofInt (x.tmod y) = Int64.ofInt x - Int64.ofInt x / Int64.ofInt y * Int64.ofInt y := by
  rw [Int.tmod_def, Int64.ofInt_sub, Int64.ofInt_mul, ← i64_div hx hy, i64_w, Int64.mul_comm]
def jin32 (n : Int) : Bool := decide (-2147483648 ≤ n) && decide (n < 2147483648)
def jin8 (n : Int) : Bool := decide (-128 ≤ n) && decide (n < 128)
def jin16 (n : Int) : Bool := decide (-32768 ≤ n) && decide (n < 32768)
def jin64 (n : Int) : Bool := decide (-9223372036854775808 ≤ n) && decide (n < 9223372036854775808)
theorem jin32_ok {n : Int} (h : jin32 n = true) : in32 n := by simpa [jin32, in32] using h
theorem jin64_ok {n : Int} (h : jin64 n = true) : in64 n := by simpa [jin64, in64] using h
theorem jv_ref {b : Nat} {q : Int} (h : 0 ≤ q) : jv b (2, q) = .ref (b + q.toNat) := by
  show (if q < 0 then Value.null else .ref (b + q.toNat)) = _
  rw [if_neg (by omega)]
theorem jv_null {b : Nat} {q : Int} (h : q < 0) : jv b (2, q) = .null := by
  show (if q < 0 then Value.null else .ref (b + q.toNat)) = _
  rw [if_pos h]
theorem jcell_obj {g : jG} {T : List Nat} {r : Int → Int} {id ci : Nat} (h : T[id]? = some ci) (hc : ci < 100) : jcell g T r id = .inr (ci, jfs g.2.2 id r (jFL ci)) := by
  have e : T.getD id 99 = ci := by rw [List.getD_eq_getElem?_getD, h]; rfl
  unfold jcell; rw [e, if_pos hc]
theorem jcell_int {g : jG} {T : List Nat} {r : Int → Int} {id ty n : Nat} (h : T[id]? = some (1000000 * (ty + 1) + n)) (hn : n < 1000000) (ht : ty < 4) : jcell g T r id = .inl (g.2.1 ty, n, .inl (fun j => Int32.ofInt (r j))) := by
  have e : T.getD id 99 = 1000000 * (ty + 1) + n := by rw [List.getD_eq_getElem?_getD, h]; rfl
  have e1 : (1000000 * (ty + 1) + n) / 1000000 - 1 = ty := by omega
  have e2 : (1000000 * (ty + 1) + n) % 1000000 = n := by omega
  unfold jcell; rw [e, if_neg (by omega), e1, e2, if_pos (by omega)]
theorem jcell_long {g : jG} {T : List Nat} {r : Int → Int} {id n : Nat} (h : T[id]? = some (1000000 * (4 + 1) + n)) (hn : n < 1000000) : jcell g T r id = .inl (g.2.1 4, n, .inr (.inl (fun j => Int64.ofInt (r j)))) := by
  have e : T.getD id 99 = 1000000 * (4 + 1) + n := by rw [List.getD_eq_getElem?_getD, h]; rfl
  have e1 : (1000000 * (4 + 1) + n) / 1000000 - 1 = 4 := by omega
  have e2 : (1000000 * (4 + 1) + n) % 1000000 = n := by omega
  unfold jcell; rw [e, if_neg (by omega), e1, e2, if_neg (by omega), if_pos (by omega)]
theorem jcell_refs {g : jG} {T : List Nat} {r : Int → Int} {id ty n : Nat} (h : T[id]? = some (1000000 * (ty + 1) + n)) (hn : n < 1000000) (ht : 5 ≤ ty) : jcell g T r id = .inl (g.2.1 ty, n, .inr (.inr (.inr (.inr (fun j => some (g.2.2 + jSt ty id j)))))) := by
  have e : T.getD id 99 = 1000000 * (ty + 1) + n := by rw [List.getD_eq_getElem?_getD, h]; rfl
  have e1 : (1000000 * (ty + 1) + n) / 1000000 - 1 = ty := by omega
  have e2 : (1000000 * (ty + 1) + n) % 1000000 = n := by omega
  unfold jcell; rw [e, if_neg (by omega), e1, e2, if_neg (by omega), if_neg (by omega)]
theorem jfs_get {b id k c : Nat} {r : Int → Int} {L : List Nat} (h : L[k]? = some c) : (jfs b id r L)[k]? = some (jfld b id r k c) := by
  have hl : k < L.length := (List.getElem?_eq_some_iff.mp h).1
  have e : L.getD k 0 = c := by rw [List.getD_eq_getElem?_getD, h]; rfl
  rw [← e]
  unfold jfs
  rw [List.getElem?_map, List.getElem?_range hl]; rfl
theorem jfs_len {b id : Nat} {r : Int → Int} {L : List Nat} : (jfs b id r L).length = L.length := by simp [jfs]
theorem jfs_set {b id k c : Nat} {r r' : Int → Int} {L : List Nat} (h : L[k]? = some c) (hr : ∀ j : Nat, j ≠ k → r' (j : Int) = r (j : Int)) : (jfs b id r L).set k (jfld b id r' k c) = jfs b id r' L := by
  have hl : k < L.length := (List.getElem?_eq_some_iff.mp h).1
  apply List.ext_getElem?
  intro j
  by_cases hj : j = k
  · subst hj
    rw [List.getElem?_set_self (by rw [jfs_len]; exact hl), jfs_get h]
  · rw [List.getElem?_set_ne (fun z => hj z.symm)]
    by_cases hl2 : j < L.length
    · have h2 : L[j]? = some L[j] := List.getElem?_eq_getElem hl2
      rw [jfs_get h2, jfs_get h2]
      have h3 := hr j hj
      congr 1
      unfold jfld
      split <;> first | rfl | rw [h3]
    · rw [List.getElem?_eq_none (by rw [jfs_len]; omega), List.getElem?_eq_none (by rw [jfs_len]; omega)]
theorem jcd_obj {T : List Nat} {id ci k c : Nat} (h : T[id]? = some ci) (hc : ci < 100) (hk : (jFL ci)[k]? = some c) : jcd T id k = c := by
  have e : T.getD id 99 = ci := by rw [List.getD_eq_getElem?_getD, h]; rfl
  unfold jcd; rw [e, if_pos hc, List.getD_eq_getElem?_getD, hk]; rfl
theorem jcd_int {T : List Nat} {id ty n j : Nat} (h : T[id]? = some (1000000 * (ty + 1) + n)) (hn : n < 1000000) (ht : ty < 4) : jcd T id j = 0 := by
  have e : T.getD id 99 = 1000000 * (ty + 1) + n := by rw [List.getD_eq_getElem?_getD, h]; rfl
  unfold jcd; rw [e, if_neg (by omega), if_pos (by omega)]
theorem jcd_long {T : List Nat} {id n j : Nat} (h : T[id]? = some (1000000 * (4 + 1) + n)) (hn : n < 1000000) : jcd T id j = 1 := by
  have e : T.getD id 99 = 1000000 * (4 + 1) + n := by rw [List.getD_eq_getElem?_getD, h]; rfl
  unfold jcd; rw [e, if_neg (by omega), if_neg (by omega), if_pos (by omega)]
theorem jok_up {T : List Nat} {M : jMem} {id j : Nat} {x : Int} (h : jok T M) (hx : jcan (jcd T id j, x)) : jok T (up M (id : Int) (j : Int) x) := by
  intro q i
  by_cases hq : q = id
  · subst hq
    rw [up_eq]
    by_cases hi : i = j
    · subst hi
      show jcan (_, if (i : Int) = (i : Int) then x else _)
      rw [if_pos rfl]; exact hx
    · show jcan (_, if (i : Int) = (j : Int) then x else _)
      rw [if_neg (by omega)]; exact h q i
  · rw [up_ne (by omega)]; exact h q i
def jF (ci k : Nat) (own : String) (idx : Nat) : Prop := ∃ (C : String) (Tb : u_T) (N : Nat), vwCl[ci]? = some (C, Tb, N) ∧ (∀ w ∈ u_ws C Tb N, w ∈ lw_g) ∧ k < N ∧ Cond.fieldLink own idx (Tb k).1 (Tb k).2.1 (Tb k).2.2.1 ∈ lw_g
def jP (ci k : Nat) (own : String) (idx : Nat) (ty : FieldType) : Prop := ∃ (C : String) (Tb : u_T) (N : Nat) (ty0 : Nat → FieldType), vwCl[ci]? = some (C, Tb, N) ∧ (∀ w ∈ u_ws C Tb N, w ∈ lw_g) ∧ k < N ∧ Cond.fieldLink own idx (Tb k).1 (Tb k).2.1 (Tb k).2.2.1 ∈ lw_g ∧
  (∀ j, j < N → parseFieldDescriptor (Tb j).2.2.1 = some (ty0 j)) ∧ (∀ a, a < N → ∀ b, b < N → a ≠ b → (Tb a).2.1 ≠ (Tb b).2.1) ∧ (Tb k).2.2.2 = false ∧ parseFieldDescriptor (Tb k).2.2.1 = some ty
section Rows
variable {l : Launch} {g : jG} {T : List Nat} {own : String} {cc : ByteArray} {nL rk d : Nat} {ret : Option FieldType} {K : Nat → jL → List jV → jMem → Int × jMem → Prop} {α : Type} {em : α → Int × jMem} {pc : Nat} {lv : jL} {st : List jV} {M : jMem} {t : Option α}

theorem z_iconst (hR : jR l g T own cc nL rk ret d K) {n : Int} (hd : decode cc pc = .ok (.iconst n, 1)) (hn : jin32 n = true) (k : jZ K em (pc + 1) lv ((0, n) :: st) M t) : jZ K em pc lv st M t := by
  obtain ⟨p, e, s, m, args, below, meth, c, rfl, hx, hb, hml, hown, hts, hlk, hrt, hK, hE⟩ := hR
  intro a ha ls H locs hl hH hS c1 c2 c3
  exact lv_iconst hx hb hd rfl (k a ha ls H locs hl hH hS c1 (jc_cons (jin32_ok hn) c2) c3)
theorem z_bipush (hR : jR l g T own cc nL rk ret d K) {n : Int} (hd : decode cc pc = .ok (.bipush n, 2)) (hn : jin8 n = true) (k : jZ K em (pc + 2) lv ((0, n) :: st) M t) : jZ K em pc lv st M t := by
  obtain ⟨p, e, s, m, args, below, meth, c, rfl, hx, hb, hml, hown, hts, hlk, hrt, hK, hE⟩ := hR
  intro a ha ls H locs hl hH hS c1 c2 c3
  have h8 : -128 ≤ n ∧ n < 128 := by simpa [jin8] using hn
  have h3 : in32 n := by unfold in32; omega
  refine lv_bipush hx hb hd (v := Int32.ofInt n) ?_ (k a ha ls H locs hl hH hS c1 (jc_cons h3 c2) c3)
  apply Int32.toInt_inj.mp
  rw [Int8.toInt_toInt32, i32_toInt' h3, Int8.toInt_ofInt_of_le (by omega) (by omega)]
theorem z_sipush (hR : jR l g T own cc nL rk ret d K) {n : Int} (hd : decode cc pc = .ok (.sipush n, 3)) (hn : jin16 n = true) (k : jZ K em (pc + 3) lv ((0, n) :: st) M t) : jZ K em pc lv st M t := by
  obtain ⟨p, e, s, m, args, below, meth, c, rfl, hx, hb, hml, hown, hts, hlk, hrt, hK, hE⟩ := hR
  intro a ha ls H locs hl hH hS c1 c2 c3
  have h8 : -32768 ≤ n ∧ n < 32768 := by simpa [jin16] using hn
  have h3 : in32 n := by unfold in32; omega
  refine lv_sipush hx hb hd (v := Int32.ofInt n) ?_ (k a ha ls H locs hl hH hS c1 (jc_cons h3 c2) c3)
  apply Int32.toInt_inj.mp
  rw [Int16.toInt_toInt32, i32_toInt' h3, Int16.toInt_ofInt_of_le (by omega) (by omega)]
theorem z_ldc (hR : jR l g T own cc nL rk ret d K) {v : Int32} {n : Int} {idx : Nat} (hw : Cond.constant own idx v ∈ lw_g) (hv : v = Int32.ofInt n) (hn : jin32 n = true) (hd : decode cc pc = .ok (.ldc idx, 2)) (k : jZ K em (pc + 2) lv ((0, n) :: st) M t) : jZ K em pc lv st M t := by
  obtain ⟨p, e, s, m, args, below, meth, c, rfl, hx, hb, hml, hown, hts, hlk, hrt, hK, hE⟩ := hR
  intro a ha ls H locs hl hH hS c1 c2 c3
  subst hv
  exact lv_ldc hx hb hown (hts _ hw) hd (k a ha ls H locs hl hH hS c1 (jc_cons (jin32_ok hn) c2) c3)
theorem z_ldcw (hR : jR l g T own cc nL rk ret d K) {v : Int32} {n : Int} {idx : Nat} (hw : Cond.constant own idx v ∈ lw_g) (hv : v = Int32.ofInt n) (hn : jin32 n = true) (hd : decode cc pc = .ok (.ldc_w idx, 3)) (k : jZ K em (pc + 3) lv ((0, n) :: st) M t) : jZ K em pc lv st M t := by
  obtain ⟨p, e, s, m, args, below, meth, c, rfl, hx, hb, hml, hown, hts, hlk, hrt, hK, hE⟩ := hR
  intro a ha ls H locs hl hH hS c1 c2 c3
  subst hv
  exact lv_ldcw hx hb hown (hts _ hw) hd (k a ha ls H locs hl hH hS c1 (jc_cons (jin32_ok hn) c2) c3)
theorem z_ldc2 (hR : jR l g T own cc nL rk ret d K) {v : Int64} {n : Int} {idx : Nat} (hw : Cond.constantLong own idx v ∈ lw_g) (hv : v = Int64.ofInt n) (hn : jin64 n = true) (hd : decode cc pc = .ok (.ldc2_w idx, 3)) (k : jZ K em (pc + 3) lv ((1, n) :: st) M t) : jZ K em pc lv st M t := by
  obtain ⟨p, e, s, m, args, below, meth, c, rfl, hx, hb, hml, hown, hts, hlk, hrt, hK, hE⟩ := hR
  intro a ha ls H locs hl hH hS c1 c2 c3
  subst hv
  exact lv_ldc2 hx hb hown (hts _ hw) hd (k a ha ls H locs hl hH hS c1 (jc_cons (jin64_ok hn) c2) c3)
theorem z_lconst (hR : jR l g T own cc nL rk ret d K) {n : Fin 2} {x : Int} (hd : decode cc pc = .ok (.lconst n, 1)) (hn : ((n : Nat) : Int) = x) (k : jZ K em (pc + 1) lv ((1, x) :: st) M t) : jZ K em pc lv st M t := by
  obtain ⟨p, e, s, m, args, below, meth, c, rfl, hx, hb, hml, hown, hts, hlk, hrt, hK, hE⟩ := hR
  intro a ha ls H locs hl hH hS c1 c2 c3
  subst hn
  have h3 : in64 ((n : Nat) : Int) := by have := n.isLt; unfold in64; omega
  exact lv_lconst hx hb hd Int64.ofInt_eq_ofNat.symm (k a ha ls H locs hl hH hS c1 (jc_cons h3 c2) c3)
theorem z_null (hR : jR l g T own cc nL rk ret d K) (hd : decode cc pc = .ok (.aconst_null, 1)) (k : jZ K em (pc + 1) lv ((2, -1) :: st) M t) : jZ K em pc lv st M t := by
  obtain ⟨p, e, s, m, args, below, meth, c, rfl, hx, hb, hml, hown, hts, hlk, hrt, hK, hE⟩ := hR
  intro a ha ls H locs hl hH hS c1 c2 c3
  exact lv_null hx hb hd (k a ha ls H locs hl hH hS c1 (jc_cons trivial c2) c3)

theorem z_iload_n (hR : jR l g T own cc nL rk ret d K) {k0 : Fin 4} {i : Nat} {x : Int} (j : Nat) (hd : decode cc pc = .ok (.iload_n k0, 1)) (hi : (k0 : Nat) = i) (hv : lv[j]? = some (i, 0, x)) (k : jZ K em (pc + 1) lv ((0, x) :: st) M t) : jZ K em pc lv st M t := by
  obtain ⟨p, e, s, m, args, below, meth, c, rfl, hx, hb, hml, hown, hts, hlk, hrt, hK, hE⟩ := hR
  intro a ha ls H locs hl hH hS c1 c2 c3
  exact lv_iload_n hx hb hd hi (lv_at hl j (jl_at hv)) (k a ha ls H locs hl hH hS c1 (jc_cons (jl_can hv c1) c2) c3)
theorem z_iload (hR : jR l g T own cc nL rk ret d K) {i : Nat} {x : Int} (j : Nat) (hd : decode cc pc = .ok (.iload i, 2)) (hv : lv[j]? = some (i, 0, x)) (k : jZ K em (pc + 2) lv ((0, x) :: st) M t) : jZ K em pc lv st M t := by
  obtain ⟨p, e, s, m, args, below, meth, c, rfl, hx, hb, hml, hown, hts, hlk, hrt, hK, hE⟩ := hR
  intro a ha ls H locs hl hH hS c1 c2 c3
  exact lv_iload hx hb hd (lv_at hl j (jl_at hv)) (k a ha ls H locs hl hH hS c1 (jc_cons (jl_can hv c1) c2) c3)

theorem z_lload_n (hR : jR l g T own cc nL rk ret d K) {k0 : Fin 4} {i : Nat} {x : Int} (j : Nat) (hd : decode cc pc = .ok (.lload_n k0, 1)) (hi : (k0 : Nat) = i) (hv : lv[j]? = some (i, 1, x)) (k : jZ K em (pc + 1) lv ((1, x) :: st) M t) : jZ K em pc lv st M t := by
  obtain ⟨p, e, s, m, args, below, meth, c, rfl, hx, hb, hml, hown, hts, hlk, hrt, hK, hE⟩ := hR
  intro a ha ls H locs hl hH hS c1 c2 c3
  exact lv_lload_n hx hb hd hi (lv_at hl j (jl_at hv)) (k a ha ls H locs hl hH hS c1 (jc_cons (jl_can hv c1) c2) c3)
theorem z_lload (hR : jR l g T own cc nL rk ret d K) {i : Nat} {x : Int} (j : Nat) (hd : decode cc pc = .ok (.lload i, 2)) (hv : lv[j]? = some (i, 1, x)) (k : jZ K em (pc + 2) lv ((1, x) :: st) M t) : jZ K em pc lv st M t := by
  obtain ⟨p, e, s, m, args, below, meth, c, rfl, hx, hb, hml, hown, hts, hlk, hrt, hK, hE⟩ := hR
  intro a ha ls H locs hl hH hS c1 c2 c3
  exact lv_lload hx hb hd (lv_at hl j (jl_at hv)) (k a ha ls H locs hl hH hS c1 (jc_cons (jl_can hv c1) c2) c3)

theorem z_aload_n (hR : jR l g T own cc nL rk ret d K) {k0 : Fin 4} {i : Nat} {x : Int} (j : Nat) (hd : decode cc pc = .ok (.aload_n k0, 1)) (hi : (k0 : Nat) = i) (hv : lv[j]? = some (i, 2, x)) (k : jZ K em (pc + 1) lv ((2, x) :: st) M t) : jZ K em pc lv st M t := by
  obtain ⟨p, e, s, m, args, below, meth, c, rfl, hx, hb, hml, hown, hts, hlk, hrt, hK, hE⟩ := hR
  intro a ha ls H locs hl hH hS c1 c2 c3
  have h1 := lv_at hl j (jl_at hv)
  have h2 := k a ha ls H locs hl hH hS c1 (jc_cons (jl_can hv c1) c2) c3
  rw [List.map_cons] at h2
  by_cases h0 : x < 0
  · rw [jv_null h0] at h1 h2
    exact lv_aload_nN hx hb hd hi h1 h2
  · rw [jv_ref (by omega)] at h1 h2
    exact lv_aload_n hx hb hd hi h1 h2
theorem z_aload (hR : jR l g T own cc nL rk ret d K) {i : Nat} {x : Int} (j : Nat) (hd : decode cc pc = .ok (.aload i, 2)) (hv : lv[j]? = some (i, 2, x)) (k : jZ K em (pc + 2) lv ((2, x) :: st) M t) : jZ K em pc lv st M t := by
  obtain ⟨p, e, s, m, args, below, meth, c, rfl, hx, hb, hml, hown, hts, hlk, hrt, hK, hE⟩ := hR
  intro a ha ls H locs hl hH hS c1 c2 c3
  have h1 := lv_at hl j (jl_at hv)
  have h2 := k a ha ls H locs hl hH hS c1 (jc_cons (jl_can hv c1) c2) c3
  rw [List.map_cons] at h2
  by_cases h0 : x < 0
  · rw [jv_null h0] at h1 h2
    exact lv_aloadN hx hb hd h1 h2
  · rw [jv_ref (by omega)] at h1 h2
    exact lv_aload hx hb hd h1 h2

theorem z_istore_n (hR : jR l g T own cc nL rk ret d K) {k0 : Fin 4} {i : Nat} {x : Int} {lv' : jL} (hd : decode cc pc = .ok (.istore_n k0, 1)) (hi : (k0 : Nat) = i) (hn : i < nL) (hv : (i, 0, x) :: lv.filter (fun q => !(q.1 == i) && !(q.1 + 1 == i && q.2.1 == 1)) = lv') (k : jZ K em (pc + 1) lv' st M t) : jZ K em pc lv ((0, x) :: st) M t := by
  obtain ⟨p, e, s, m, args, below, meth, c, rfl, hx, hb, hml, hown, hts, hlk, hrt, hK, hE⟩ := hR
  intro a ha ls H locs hl hH hS c1 c2 c3
  exact lv_istore_n hx hb hd hi hl hn (jl_st1 hv) (fun ls' hl' => k a ha ls' H locs hl' hH hS (jl_stc hv (jc_hd c2) c1) (jc_tl c2) c3)
theorem z_istore (hR : jR l g T own cc nL rk ret d K) {i : Nat} {x : Int} {lv' : jL} (hd : decode cc pc = .ok (.istore i, 2)) (hn : i < nL) (hv : (i, 0, x) :: lv.filter (fun q => !(q.1 == i) && !(q.1 + 1 == i && q.2.1 == 1)) = lv') (k : jZ K em (pc + 2) lv' st M t) : jZ K em pc lv ((0, x) :: st) M t := by
  obtain ⟨p, e, s, m, args, below, meth, c, rfl, hx, hb, hml, hown, hts, hlk, hrt, hK, hE⟩ := hR
  intro a ha ls H locs hl hH hS c1 c2 c3
  exact lv_istore hx hb hd hl hn (jl_st1 hv) (fun ls' hl' => k a ha ls' H locs hl' hH hS (jl_stc hv (jc_hd c2) c1) (jc_tl c2) c3)

theorem z_lstore_n (hR : jR l g T own cc nL rk ret d K) {k0 : Fin 4} {i : Nat} {x : Int} {lv' : jL} (hd : decode cc pc = .ok (.lstore_n k0, 1)) (hi : (k0 : Nat) = i) (hn : i + 1 < nL) (hv : (i, 1, x) :: lv.filter (fun q => !(q.1 == i) && (!(q.1 == i + 1) && !(q.1 + 1 == i && q.2.1 == 1))) = lv') (k : jZ K em (pc + 1) lv' st M t) : jZ K em pc lv ((1, x) :: st) M t := by
  obtain ⟨p, e, s, m, args, below, meth, c, rfl, hx, hb, hml, hown, hts, hlk, hrt, hK, hE⟩ := hR
  intro a ha ls H locs hl hH hS c1 c2 c3
  exact lv_lstore_n hx hb hd hi hl hn (jl_st2 hv) (fun ls' hl' => k a ha ls' H locs hl' hH hS (jl_stc hv (jc_hd c2) c1) (jc_tl c2) c3)
theorem z_lstore (hR : jR l g T own cc nL rk ret d K) {i : Nat} {x : Int} {lv' : jL} (hd : decode cc pc = .ok (.lstore i, 2)) (hn : i + 1 < nL) (hv : (i, 1, x) :: lv.filter (fun q => !(q.1 == i) && (!(q.1 == i + 1) && !(q.1 + 1 == i && q.2.1 == 1))) = lv') (k : jZ K em (pc + 2) lv' st M t) : jZ K em pc lv ((1, x) :: st) M t := by
  obtain ⟨p, e, s, m, args, below, meth, c, rfl, hx, hb, hml, hown, hts, hlk, hrt, hK, hE⟩ := hR
  intro a ha ls H locs hl hH hS c1 c2 c3
  exact lv_lstore hx hb hd hl hn (jl_st2 hv) (fun ls' hl' => k a ha ls' H locs hl' hH hS (jl_stc hv (jc_hd c2) c1) (jc_tl c2) c3)

theorem z_astore_n (hR : jR l g T own cc nL rk ret d K) {k0 : Fin 4} {i : Nat} {x : Int} {lv' : jL} (hd : decode cc pc = .ok (.astore_n k0, 1)) (hi : (k0 : Nat) = i) (hn : i < nL) (hv : (i, 2, x) :: lv.filter (fun q => !(q.1 == i) && !(q.1 + 1 == i && q.2.1 == 1)) = lv') (k : jZ K em (pc + 1) lv' st M t) : jZ K em pc lv ((2, x) :: st) M t := by
  obtain ⟨p, e, s, m, args, below, meth, c, rfl, hx, hb, hml, hown, hts, hlk, hrt, hK, hE⟩ := hR
  intro a ha ls H locs hl hH hS c1 c2 c3
  have h1 := jl_st1 (b := g.2.2) hv
  rw [List.map_cons]
  by_cases h0 : x < 0
  · rw [jv_null h0] at h1 ⊢
    exact lv_astore_nN hx hb hd hi hl hn h1 (fun ls' hl' => k a ha ls' H locs hl' hH hS (jl_stc hv (jc_hd c2) c1) (jc_tl c2) c3)
  · rw [jv_ref (by omega)] at h1 ⊢
    exact lv_astore_n hx hb hd hi hl hn h1 (fun ls' hl' => k a ha ls' H locs hl' hH hS (jl_stc hv (jc_hd c2) c1) (jc_tl c2) c3)
theorem z_astore (hR : jR l g T own cc nL rk ret d K) {i : Nat} {x : Int} {lv' : jL} (hd : decode cc pc = .ok (.astore i, 2)) (hn : i < nL) (hv : (i, 2, x) :: lv.filter (fun q => !(q.1 == i) && !(q.1 + 1 == i && q.2.1 == 1)) = lv') (k : jZ K em (pc + 2) lv' st M t) : jZ K em pc lv ((2, x) :: st) M t := by
  obtain ⟨p, e, s, m, args, below, meth, c, rfl, hx, hb, hml, hown, hts, hlk, hrt, hK, hE⟩ := hR
  intro a ha ls H locs hl hH hS c1 c2 c3
  have h1 := jl_st1 (b := g.2.2) hv
  rw [List.map_cons]
  by_cases h0 : x < 0
  · rw [jv_null h0] at h1 ⊢
    exact lv_astoreN hx hb hd hl hn h1 (fun ls' hl' => k a ha ls' H locs hl' hH hS (jl_stc hv (jc_hd c2) c1) (jc_tl c2) c3)
  · rw [jv_ref (by omega)] at h1 ⊢
    exact lv_astore hx hb hd hl hn h1 (fun ls' hl' => k a ha ls' H locs hl' hH hS (jl_stc hv (jc_hd c2) c1) (jc_tl c2) c3)
theorem z_iinc (hR : jR l g T own cc nL rk ret d K) {i j : Nat} {n x : Int} {lv' : jL} (hd : decode cc pc = .ok (.iinc i n, 3)) (hj : lv[j]? = some (i, 0, x)) (hn : i < nL) (hv : (i, 0, w32 (x + n)) :: lv.filter (fun q => !(q.1 == i) && !(q.1 + 1 == i && q.2.1 == 1)) = lv') (k : jZ K em (pc + 3) lv' st M t) : jZ K em pc lv st M t := by
  obtain ⟨p, e, s, m, args, below, meth, c, rfl, hx, hb, hml, hown, hts, hlk, hrt, hK, hE⟩ := hR
  intro a ha ls H locs hl hH hS c1 c2 c3
  exact lv_iinc hx hb hd hl (jl_at hj) (i32_add x n).symm hn (jl_st1 hv) (fun ls' hl' => k a ha ls' H locs hl' hH hS (jl_stc hv (w32_in _) c1) c2 c3)
/-- a value gets a name -/
theorem z_let {β : Type} {x : β} {f : β → Option α} {pc : Nat} {lv : β → jL} {st : β → List jV} {M : β → jMem} (k : ∀ y, jZ K em pc (lv y) (st y) (M y) (f y)) : jZ K em pc (lv x) (st x) (M x) (jlt x f) := k x
/-- other locals, or fewer -/
theorem z_pick (hR : jR l g T own cc nL rk ret d K) {lv' : jL} (ks : List Nat) (h : ks.filterMap (fun k => lv[k]?) = lv') (k : jZ K em pc lv' st M t) : jZ K em pc lv st M t := by
  obtain ⟨p, e, s, m, args, below, meth, c, rfl, hx, hb, hml, hown, hts, hlk, hrt, hK, hE⟩ := hR
  intro a ha ls H locs hl hH hS c1 c2 c3
  refine k a ha ls H locs (lv_sub hl ks ?_) hH hS ?_ c2 c3
  · rw [← h]
    unfold lv_pick
    rw [List.map_filterMap]
    congr 1
    funext q
    rw [List.getElem?_map]
  · intro v hv
    rw [← h] at hv
    obtain ⟨q, _, hq⟩ := List.mem_filterMap.mp hv
    exact c1 v (List.mem_of_getElem? hq)
theorem z_chk {c : Prop} [Decidable c] (k : c → jZ K em pc lv st M t) : jZ K em pc lv st M (jchk c t) := by
  intro a ha
  unfold jchk at ha
  by_cases h : c
  · rw [if_pos h] at ha; exact k h a ha
  · rw [if_neg h] at ha; cases ha
theorem z_fix {σ : Type} {body : (σ → Option α) → σ → Option α} {lv : σ → jL} {st : σ → List jV} {M : σ → jMem} (k : ∀ h : σ → Option α, (∀ s, jZ K em pc (lv s) (st s) (M s) (h s)) → ∀ s, jZ K em pc (lv s) (st s) (M s) (body h s)) (n : Nat) (s : σ) : jZ K em pc (lv s) (st s) (M s) (jfix n body s) := by
  induction n generalizing s with
  | zero => intro a ha; cases ha
  | succ n ih => exact k (jfix n body) ih s

theorem z_iadd (hR : jR l g T own cc nL rk ret d K) {x y : Int} (hd : decode cc pc = .ok (.iadd, 1)) (k : jZ K em (pc + 1) lv ((0, w32 (x + y)) :: st) M t) : jZ K em pc lv ((0, y) :: (0, x) :: st) M t := by
  obtain ⟨p, e, s, m, args, below, meth, c, rfl, hx, hb, hml, hown, hts, hlk, hrt, hK, hE⟩ := hR
  intro a ha ls H locs hl hH hS c1 c2 c3
  refine lv_iadd (x := Int32.ofInt x) (y := Int32.ofInt y) hx hb hd ?_
  rw [← i32_add]
  exact k a ha ls H locs hl hH hS c1 (jc_cons (w32_in _) (jc_tl (jc_tl c2))) c3

theorem z_isub (hR : jR l g T own cc nL rk ret d K) {x y : Int} (hd : decode cc pc = .ok (.isub, 1)) (k : jZ K em (pc + 1) lv ((0, w32 (x - y)) :: st) M t) : jZ K em pc lv ((0, y) :: (0, x) :: st) M t := by
  obtain ⟨p, e, s, m, args, below, meth, c, rfl, hx, hb, hml, hown, hts, hlk, hrt, hK, hE⟩ := hR
  intro a ha ls H locs hl hH hS c1 c2 c3
  refine lv_isub (x := Int32.ofInt x) (y := Int32.ofInt y) hx hb hd ?_
  rw [← i32_sub]
  exact k a ha ls H locs hl hH hS c1 (jc_cons (w32_in _) (jc_tl (jc_tl c2))) c3

theorem z_imul (hR : jR l g T own cc nL rk ret d K) {x y : Int} (hd : decode cc pc = .ok (.imul, 1)) (k : jZ K em (pc + 1) lv ((0, w32 (x * y)) :: st) M t) : jZ K em pc lv ((0, y) :: (0, x) :: st) M t := by
  obtain ⟨p, e, s, m, args, below, meth, c, rfl, hx, hb, hml, hown, hts, hlk, hrt, hK, hE⟩ := hR
  intro a ha ls H locs hl hH hS c1 c2 c3
  refine lv_imul (x := Int32.ofInt x) (y := Int32.ofInt y) hx hb hd ?_
  rw [← i32_mul]
  exact k a ha ls H locs hl hH hS c1 (jc_cons (w32_in _) (jc_tl (jc_tl c2))) c3

theorem z_iand (hR : jR l g T own cc nL rk ret d K) {x y : Int} (hd : decode cc pc = .ok (.iand, 1)) (k : jZ K em (pc + 1) lv ((0, jand x y) :: st) M t) : jZ K em pc lv ((0, y) :: (0, x) :: st) M t := by
  obtain ⟨p, e, s, m, args, below, meth, c, rfl, hx, hb, hml, hown, hts, hlk, hrt, hK, hE⟩ := hR
  intro a ha ls H locs hl hH hS c1 c2 c3
  refine lv_iand (x := Int32.ofInt x) (y := Int32.ofInt y) hx hb hd ?_
  rw [← i32_and]
  exact k a ha ls H locs hl hH hS c1 (jc_cons (toInt_in32 _) (jc_tl (jc_tl c2))) c3

theorem z_ior (hR : jR l g T own cc nL rk ret d K) {x y : Int} (hd : decode cc pc = .ok (.ior, 1)) (k : jZ K em (pc + 1) lv ((0, jor x y) :: st) M t) : jZ K em pc lv ((0, y) :: (0, x) :: st) M t := by
  obtain ⟨p, e, s, m, args, below, meth, c, rfl, hx, hb, hml, hown, hts, hlk, hrt, hK, hE⟩ := hR
  intro a ha ls H locs hl hH hS c1 c2 c3
  refine lv_ior (x := Int32.ofInt x) (y := Int32.ofInt y) hx hb hd ?_
  rw [← i32_or]
  exact k a ha ls H locs hl hH hS c1 (jc_cons (toInt_in32 _) (jc_tl (jc_tl c2))) c3

theorem z_ishl (hR : jR l g T own cc nL rk ret d K) {x y : Int} (hd : decode cc pc = .ok (.ishl, 1)) (k : jZ K em (pc + 1) lv ((0, jshl x y) :: st) M t) : jZ K em pc lv ((0, y) :: (0, x) :: st) M t := by
  obtain ⟨p, e, s, m, args, below, meth, c, rfl, hx, hb, hml, hown, hts, hlk, hrt, hK, hE⟩ := hR
  intro a ha ls H locs hl hH hS c1 c2 c3
  refine lv_ishl (x := Int32.ofInt x) (y := Int32.ofInt y) hx hb hd ?_
  rw [← i32_shl]
  exact k a ha ls H locs hl hH hS c1 (jc_cons (toInt_in32 _) (jc_tl (jc_tl c2))) c3

theorem z_ishr (hR : jR l g T own cc nL rk ret d K) {x y : Int} (hd : decode cc pc = .ok (.ishr, 1)) (k : jZ K em (pc + 1) lv ((0, jshr x y) :: st) M t) : jZ K em pc lv ((0, y) :: (0, x) :: st) M t := by
  obtain ⟨p, e, s, m, args, below, meth, c, rfl, hx, hb, hml, hown, hts, hlk, hrt, hK, hE⟩ := hR
  intro a ha ls H locs hl hH hS c1 c2 c3
  refine lv_ishr (x := Int32.ofInt x) (y := Int32.ofInt y) hx hb hd ?_
  rw [← i32_shr]
  exact k a ha ls H locs hl hH hS c1 (jc_cons (toInt_in32 _) (jc_tl (jc_tl c2))) c3

theorem z_ladd (hR : jR l g T own cc nL rk ret d K) {x y : Int} (hd : decode cc pc = .ok (.ladd, 1)) (k : jZ K em (pc + 1) lv ((1, w64 (x + y)) :: st) M t) : jZ K em pc lv ((1, y) :: (1, x) :: st) M t := by
  obtain ⟨p, e, s, m, args, below, meth, c, rfl, hx, hb, hml, hown, hts, hlk, hrt, hK, hE⟩ := hR
  intro a ha ls H locs hl hH hS c1 c2 c3
  refine lv_ladd (x := Int64.ofInt x) (y := Int64.ofInt y) hx hb hd ?_
  rw [← i64_add]
  exact k a ha ls H locs hl hH hS c1 (jc_cons (w64_in _) (jc_tl (jc_tl c2))) c3

theorem z_lsub (hR : jR l g T own cc nL rk ret d K) {x y : Int} (hd : decode cc pc = .ok (.lsub, 1)) (k : jZ K em (pc + 1) lv ((1, w64 (x - y)) :: st) M t) : jZ K em pc lv ((1, y) :: (1, x) :: st) M t := by
  obtain ⟨p, e, s, m, args, below, meth, c, rfl, hx, hb, hml, hown, hts, hlk, hrt, hK, hE⟩ := hR
  intro a ha ls H locs hl hH hS c1 c2 c3
  refine lv_lsub (x := Int64.ofInt x) (y := Int64.ofInt y) hx hb hd ?_
  rw [← i64_sub]
  exact k a ha ls H locs hl hH hS c1 (jc_cons (w64_in _) (jc_tl (jc_tl c2))) c3

theorem z_lmul (hR : jR l g T own cc nL rk ret d K) {x y : Int} (hd : decode cc pc = .ok (.lmul, 1)) (k : jZ K em (pc + 1) lv ((1, w64 (x * y)) :: st) M t) : jZ K em pc lv ((1, y) :: (1, x) :: st) M t := by
  obtain ⟨p, e, s, m, args, below, meth, c, rfl, hx, hb, hml, hown, hts, hlk, hrt, hK, hE⟩ := hR
  intro a ha ls H locs hl hH hS c1 c2 c3
  refine lv_lmul (x := Int64.ofInt x) (y := Int64.ofInt y) hx hb hd ?_
  rw [← i64_mul]
  exact k a ha ls H locs hl hH hS c1 (jc_cons (w64_in _) (jc_tl (jc_tl c2))) c3

theorem z_land (hR : jR l g T own cc nL rk ret d K) {x y : Int} (hd : decode cc pc = .ok (.land, 1)) (k : jZ K em (pc + 1) lv ((1, jlan x y) :: st) M t) : jZ K em pc lv ((1, y) :: (1, x) :: st) M t := by
  obtain ⟨p, e, s, m, args, below, meth, c, rfl, hx, hb, hml, hown, hts, hlk, hrt, hK, hE⟩ := hR
  intro a ha ls H locs hl hH hS c1 c2 c3
  refine lv_land (x := Int64.ofInt x) (y := Int64.ofInt y) hx hb hd ?_
  rw [← i64_and]
  exact k a ha ls H locs hl hH hS c1 (jc_cons (toInt_in64 _) (jc_tl (jc_tl c2))) c3

theorem z_lor (hR : jR l g T own cc nL rk ret d K) {x y : Int} (hd : decode cc pc = .ok (.lor, 1)) (k : jZ K em (pc + 1) lv ((1, jlor x y) :: st) M t) : jZ K em pc lv ((1, y) :: (1, x) :: st) M t := by
  obtain ⟨p, e, s, m, args, below, meth, c, rfl, hx, hb, hml, hown, hts, hlk, hrt, hK, hE⟩ := hR
  intro a ha ls H locs hl hH hS c1 c2 c3
  refine lv_lor (x := Int64.ofInt x) (y := Int64.ofInt y) hx hb hd ?_
  rw [← i64_or]
  exact k a ha ls H locs hl hH hS c1 (jc_cons (toInt_in64 _) (jc_tl (jc_tl c2))) c3

theorem z_idiv (hR : jR l g T own cc nL rk ret d K) {x y : Int} (hd : decode cc pc = .ok (.idiv, 1)) (hy : y ≠ 0) (k : jZ K em (pc + 1) lv ((0, w32 (x.tdiv y)) :: st) M t) : jZ K em pc lv ((0, y) :: (0, x) :: st) M t := by
  obtain ⟨p, e, s, m, args, below, meth, c, rfl, hx, hb, hml, hown, hts, hlk, hrt, hK, hE⟩ := hR
  intro a ha ls H locs hl hH hS c1 c2 c3
  have hcx : in32 x := jc_hd (jc_tl c2)
  have hcy : in32 y := jc_hd c2
  refine lv_idiv (x := Int32.ofInt x) (y := Int32.ofInt y) hx hb hd (fun z => hy ((i32_eq0 hcy).mp z)) ?_
  rw [← i32_div hcx hcy]
  exact k a ha ls H locs hl hH hS c1 (jc_cons (w32_in _) (jc_tl (jc_tl c2))) c3

theorem z_irem (hR : jR l g T own cc nL rk ret d K) {x y : Int} (hd : decode cc pc = .ok (.irem, 1)) (hy : y ≠ 0) (k : jZ K em (pc + 1) lv ((0, x.tmod y) :: st) M t) : jZ K em pc lv ((0, y) :: (0, x) :: st) M t := by
  obtain ⟨p, e, s, m, args, below, meth, c, rfl, hx, hb, hml, hown, hts, hlk, hrt, hK, hE⟩ := hR
  intro a ha ls H locs hl hH hS c1 c2 c3
  have hcx : in32 x := jc_hd (jc_tl c2)
  have hcy : in32 y := jc_hd c2
  refine lv_irem (x := Int32.ofInt x) (y := Int32.ofInt y) hx hb hd (fun z => hy ((i32_eq0 hcy).mp z)) ?_
  rw [← i32_rem hcx hcy]
  exact k a ha ls H locs hl hH hS c1 (jc_cons (tmod_in32 (jc_hd (jc_tl c2)) (jc_hd c2)) (jc_tl (jc_tl c2))) c3

theorem z_ldiv (hR : jR l g T own cc nL rk ret d K) {x y : Int} (hd : decode cc pc = .ok (.ldiv, 1)) (hy : y ≠ 0) (k : jZ K em (pc + 1) lv ((1, w64 (x.tdiv y)) :: st) M t) : jZ K em pc lv ((1, y) :: (1, x) :: st) M t := by
  obtain ⟨p, e, s, m, args, below, meth, c, rfl, hx, hb, hml, hown, hts, hlk, hrt, hK, hE⟩ := hR
  intro a ha ls H locs hl hH hS c1 c2 c3
  have hcx : in64 x := jc_hd (jc_tl c2)
  have hcy : in64 y := jc_hd c2
  refine lv_ldiv (x := Int64.ofInt x) (y := Int64.ofInt y) hx hb hd (fun z => hy ((i64_eq0 hcy).mp z)) ?_
  rw [← i64_div hcx hcy]
  exact k a ha ls H locs hl hH hS c1 (jc_cons (w64_in _) (jc_tl (jc_tl c2))) c3

theorem z_lrem (hR : jR l g T own cc nL rk ret d K) {x y : Int} (hd : decode cc pc = .ok (.lrem, 1)) (hy : y ≠ 0) (k : jZ K em (pc + 1) lv ((1, x.tmod y) :: st) M t) : jZ K em pc lv ((1, y) :: (1, x) :: st) M t := by
  obtain ⟨p, e, s, m, args, below, meth, c, rfl, hx, hb, hml, hown, hts, hlk, hrt, hK, hE⟩ := hR
  intro a ha ls H locs hl hH hS c1 c2 c3
  have hcx : in64 x := jc_hd (jc_tl c2)
  have hcy : in64 y := jc_hd c2
  refine lv_lrem (x := Int64.ofInt x) (y := Int64.ofInt y) hx hb hd (fun z => hy ((i64_eq0 hcy).mp z)) ?_
  rw [← i64_rem hcx hcy]
  exact k a ha ls H locs hl hH hS c1 (jc_cons (tmod_in64 (jc_hd (jc_tl c2)) (jc_hd c2)) (jc_tl (jc_tl c2))) c3

theorem z_ineg (hR : jR l g T own cc nL rk ret d K) {x : Int} (hd : decode cc pc = .ok (.ineg, 1)) (k : jZ K em (pc + 1) lv ((0, w32 (-x)) :: st) M t) : jZ K em pc lv ((0, x) :: st) M t := by
  obtain ⟨p, e, s, m, args, below, meth, c, rfl, hx, hb, hml, hown, hts, hlk, hrt, hK, hE⟩ := hR
  intro a ha ls H locs hl hH hS c1 c2 c3
  refine lv_ineg (x := Int32.ofInt x) hx hb hd ?_
  rw [← i32_neg]
  exact k a ha ls H locs hl hH hS c1 (jc_cons (w32_in _) (jc_tl c2)) c3
theorem z_iushr (hR : jR l g T own cc nL rk ret d K) {x y : Int} (hd : decode cc pc = .ok (.iushr, 1)) (k : jZ K em (pc + 1) lv ((0, jushr x y) :: st) M t) : jZ K em pc lv ((0, y) :: (0, x) :: st) M t := by
  obtain ⟨p, e, s, m, args, below, meth, c, rfl, hx, hb, hml, hown, hts, hlk, hrt, hK, hE⟩ := hR
  intro a ha ls H locs hl hH hS c1 c2 c3
  exact lv_iushr (x := Int32.ofInt x) (y := Int32.ofInt y) (v := Int32.ofInt (jushr x y)) hx hb hd (Int32.ofInt_toInt _).symm (k a ha ls H locs hl hH hS c1 (jc_cons (toInt_in32 _) (jc_tl (jc_tl c2))) c3)
theorem z_lshl (hR : jR l g T own cc nL rk ret d K) {x y : Int} (hd : decode cc pc = .ok (.lshl, 1)) (k : jZ K em (pc + 1) lv ((1, jlshl x y) :: st) M t) : jZ K em pc lv ((0, y) :: (1, x) :: st) M t := by
  obtain ⟨p, e, s, m, args, below, meth, c, rfl, hx, hb, hml, hown, hts, hlk, hrt, hK, hE⟩ := hR
  intro a ha ls H locs hl hH hS c1 c2 c3
  exact lv_lshl (x := Int64.ofInt x) (y := Int32.ofInt y) (v := Int64.ofInt (jlshl x y)) hx hb hd (Int64.ofInt_toInt _).symm (k a ha ls H locs hl hH hS c1 (jc_cons (toInt_in64 _) (jc_tl (jc_tl c2))) c3)
theorem z_lcmp (hR : jR l g T own cc nL rk ret d K) {x y : Int} (hd : decode cc pc = .ok (.lcmp, 1)) (k : jZ K em (pc + 1) lv ((0, jcmp x y) :: st) M t) : jZ K em pc lv ((1, y) :: (1, x) :: st) M t := by
  obtain ⟨p, e, s, m, args, below, meth, c, rfl, hx, hb, hml, hown, hts, hlk, hrt, hK, hE⟩ := hR
  intro a ha ls H locs hl hH hS c1 c2 c3
  refine W.lcmp (x := Int64.ofInt x) (y := Int64.ofInt y) hx hb hd ?_
  rw [← jcmp_ok (jc_hd (jc_tl c2)) (jc_hd c2)]
  exact k a ha ls H locs hl hH hS c1 (jc_cons (jcmp_in _ _) (jc_tl (jc_tl c2))) c3
theorem z_i2l (hR : jR l g T own cc nL rk ret d K) {x : Int} (hd : decode cc pc = .ok (.i2l, 1)) (k : jZ K em (pc + 1) lv ((1, x) :: st) M t) : jZ K em pc lv ((0, x) :: st) M t := by
  obtain ⟨p, e, s, m, args, below, meth, c, rfl, hx, hb, hml, hown, hts, hlk, hrt, hK, hE⟩ := hR
  intro a ha ls H locs hl hH hS c1 c2 c3
  have hc : in32 x := jc_hd c2
  exact lv_i2l (x := Int32.ofInt x) hx hb hd (i32_i64 hc) (k a ha ls H locs hl hH hS c1 (jc_cons (in32_64 hc) (jc_tl c2)) c3)
theorem z_l2i (hR : jR l g T own cc nL rk ret d K) {x : Int} (hd : decode cc pc = .ok (.l2i, 1)) (k : jZ K em (pc + 1) lv ((0, w32 x) :: st) M t) : jZ K em pc lv ((1, x) :: st) M t := by
  obtain ⟨p, e, s, m, args, below, meth, c, rfl, hx, hb, hml, hown, hts, hlk, hrt, hK, hE⟩ := hR
  intro a ha ls H locs hl hH hS c1 c2 c3
  exact lv_l2i (x := Int64.ofInt x) hx hb hd (i64_i32 (jc_hd c2)) (k a ha ls H locs hl hH hS c1 (jc_cons (w32_in _) (jc_tl c2)) c3)
theorem z_i2b (hR : jR l g T own cc nL rk ret d K) {x : Int} (hd : decode cc pc = .ok (.i2b, 1)) (k : jZ K em (pc + 1) lv ((0, w8 x) :: st) M t) : jZ K em pc lv ((0, x) :: st) M t := by
  obtain ⟨p, e, s, m, args, below, meth, c, rfl, hx, hb, hml, hown, hts, hlk, hrt, hK, hE⟩ := hR
  intro a ha ls H locs hl hH hS c1 c2 c3
  exact lv_i2b (x := Int32.ofInt x) hx hb hd (i32_i8 (jc_hd c2)) (k a ha ls H locs hl hH hS c1 (jc_cons (w8_in _) (jc_tl c2)) c3)
theorem z_i2s (hR : jR l g T own cc nL rk ret d K) {x : Int} (hd : decode cc pc = .ok (.i2s, 1)) (k : jZ K em (pc + 1) lv ((0, w16 x) :: st) M t) : jZ K em pc lv ((0, x) :: st) M t := by
  obtain ⟨p, e, s, m, args, below, meth, c, rfl, hx, hb, hml, hown, hts, hlk, hrt, hK, hE⟩ := hR
  intro a ha ls H locs hl hH hS c1 c2 c3
  exact lv_i2s (x := Int32.ofInt x) hx hb hd (i32_i16 (jc_hd c2)) (k a ha ls H locs hl hH hS c1 (jc_cons (w16_in _) (jc_tl c2)) c3)
def jchr (x : Int) : Int := ((Int32.ofInt x).toUInt32 % 65536).toInt32.toInt
theorem z_i2c (hR : jR l g T own cc nL rk ret d K) {x : Int} (hd : decode cc pc = .ok (.i2c, 1)) (k : jZ K em (pc + 1) lv ((0, jchr x) :: st) M t) : jZ K em pc lv ((0, x) :: st) M t := by
  obtain ⟨p, e, s, m, args, below, meth, c, rfl, hx, hb, hml, hown, hts, hlk, hrt, hK, hE⟩ := hR
  intro a ha ls H locs hl hH hS c1 c2 c3
  exact lv_i2c (x := Int32.ofInt x) (v := Int32.ofInt (jchr x)) hx hb hd (Int32.ofInt_toInt _).symm (k a ha ls H locs hl hH hS c1 (jc_cons (toInt_in32 _) (jc_tl c2)) c3)
theorem jv_c1 {b k : Nat} {x : Int} (h : k ≠ 1) : (jv b (k, x)).category = 1 := by
  match k with
  | 0 => rfl
  | 1 => exact absurd rfl h
  | 2 =>
    show (if x < 0 then Value.null else .ref (b + x.toNat)).category = 1
    split <;> rfl
  | 3 => rfl
  | 4 => rfl
  | 5 =>
    show (if x < 0 then Value.null else .ref x.toNat).category = 1
    split <;> rfl
  | k + 6 => rfl
theorem z_dup (hR : jR l g T own cc nL rk ret d K) {k0 : Nat} {x : Int} (hd : decode cc pc = .ok (.dup, 1)) (h0 : k0 ≠ 1) (k : jZ K em (pc + 1) lv ((k0, x) :: (k0, x) :: st) M t) : jZ K em pc lv ((k0, x) :: st) M t := by
  obtain ⟨p, e, s, m, args, below, meth, c, rfl, hx, hb, hml, hown, hts, hlk, hrt, hK, hE⟩ := hR
  intro a ha ls H locs hl hH hS c1 c2 c3
  exact lv_dup hx hb hd (jv_c1 h0) (k a ha ls H locs hl hH hS c1 (jc_cons (jc_hd c2) c2) c3)
theorem z_pop (hR : jR l g T own cc nL rk ret d K) {k0 : Nat} {x : Int} (hd : decode cc pc = .ok (.pop, 1)) (h0 : k0 ≠ 1) (k : jZ K em (pc + 1) lv st M t) : jZ K em pc lv ((k0, x) :: st) M t := by
  obtain ⟨p, e, s, m, args, below, meth, c, rfl, hx, hb, hml, hown, hts, hlk, hrt, hK, hE⟩ := hR
  intro a ha ls H locs hl hH hS c1 c2 c3
  exact lv_pop hx hb hd (jv_c1 h0) (k a ha ls H locs hl hH hS c1 (jc_tl c2) c3)
theorem z_dup2 (hR : jR l g T own cc nL rk ret d K) {k0 k1 : Nat} {x y : Int} (hd : decode cc pc = .ok (.dup2, 1)) (h0 : k0 ≠ 1) (h1 : k1 ≠ 1) (k : jZ K em (pc + 1) lv ((k0, x) :: (k1, y) :: (k0, x) :: (k1, y) :: st) M t) : jZ K em pc lv ((k0, x) :: (k1, y) :: st) M t := by
  obtain ⟨p, e, s, m, args, below, meth, c, rfl, hx, hb, hml, hown, hts, hlk, hrt, hK, hE⟩ := hR
  intro a ha ls H locs hl hH hS c1 c2 c3
  exact lv_dup2_11 hx hb hd (jv_c1 h0) (jv_c1 h1) (k a ha ls H locs hl hH hS c1 (jc_cons (jc_hd c2) (jc_cons (jc_hd (jc_tl c2)) c2)) c3)
theorem z_goto (hR : jR l g T own cc nL rk ret d K) {off : Int} {tgt : Nat} (hd : decode cc pc = .ok (.goto off, 3)) (ht : (pc : Int) + off = (tgt : Int)) (k : jZ K em tgt lv st M t) : jZ K em pc lv st M t := by
  obtain ⟨p, e, s, m, args, below, meth, c, rfl, hx, hb, hml, hown, hts, hlk, hrt, hK, hE⟩ := hR
  intro a ha ls H locs hl hH hS c1 c2 c3
  exact lv_goto hx hb hd ht (k a ha ls H locs hl hH hS c1 c2 c3)

theorem z_ifeq (hR : jR l g T own cc nL rk ret d K) {x : Int} {off : Int} {tgt : Nat} {A B : Option α} (hd : decode cc pc = .ok (.ifCond .eq off, 3)) (ht : (pc : Int) + off = (tgt : Int)) (kt : jZ K em tgt lv st M A) (kf : jZ K em (pc + 3) lv st M B) : jZ K em pc lv ((0, x) :: st) M (if x = 0 then A else B) := by
  obtain ⟨p, e, s, m, args, below, meth, c, rfl, hx, hb, hml, hown, hts, hlk, hrt, hK, hE⟩ := hR
  intro a ha ls H locs hl hH hS c1 c2 c3
  have hl0 := i32_eq0 (jc_hd c2)
  refine lv_if_eq (x := Int32.ofInt x) hx hb hd ht (fun h => ?_) (fun h => ?_)
  · have hh : x = 0 := by exact hl0.mp h
    exact kt a (by rw [if_pos hh] at ha; exact ha) ls H locs hl hH hS c1 (jc_tl c2) c3
  · have hh : ¬ (x = 0) := by exact fun z => h (hl0.mpr z)
    exact kf a (by rw [if_neg hh] at ha; exact ha) ls H locs hl hH hS c1 (jc_tl c2) c3

theorem z_ifne (hR : jR l g T own cc nL rk ret d K) {x : Int} {off : Int} {tgt : Nat} {A B : Option α} (hd : decode cc pc = .ok (.ifCond .ne off, 3)) (ht : (pc : Int) + off = (tgt : Int)) (kt : jZ K em tgt lv st M B) (kf : jZ K em (pc + 3) lv st M A) : jZ K em pc lv ((0, x) :: st) M (if x = 0 then A else B) := by
  obtain ⟨p, e, s, m, args, below, meth, c, rfl, hx, hb, hml, hown, hts, hlk, hrt, hK, hE⟩ := hR
  intro a ha ls H locs hl hH hS c1 c2 c3
  have hl0 := i32_eq0 (jc_hd c2)
  refine lv_if_ne (x := Int32.ofInt x) hx hb hd ht (fun h => ?_) (fun h => ?_)
  · have hh : ¬ x = 0 := by first | exact fun z => h (hl0.mpr z) | (have h2 := hl0.mp h; omega)
    exact kt a (by rw [if_neg hh] at ha; exact ha) ls H locs hl hH hS c1 (jc_tl c2) c3
  · have hh : x = 0 := by first | exact hl0.mp h | (have h2 : ¬ _ := fun z => h (hl0.mpr z); omega)
    exact kf a (by rw [if_pos hh] at ha; exact ha) ls H locs hl hH hS c1 (jc_tl c2) c3

theorem z_iflt (hR : jR l g T own cc nL rk ret d K) {x : Int} {off : Int} {tgt : Nat} {A B : Option α} (hd : decode cc pc = .ok (.ifCond .lt off, 3)) (ht : (pc : Int) + off = (tgt : Int)) (kt : jZ K em tgt lv st M A) (kf : jZ K em (pc + 3) lv st M B) : jZ K em pc lv ((0, x) :: st) M (if x < 0 then A else B) := by
  obtain ⟨p, e, s, m, args, below, meth, c, rfl, hx, hb, hml, hown, hts, hlk, hrt, hK, hE⟩ := hR
  intro a ha ls H locs hl hH hS c1 c2 c3
  have hl0 := i32_lt0 (jc_hd c2)
  refine lv_if_lt (x := Int32.ofInt x) hx hb hd ht (fun h => ?_) (fun h => ?_)
  · have hh : x < 0 := by exact hl0.mp h
    exact kt a (by rw [if_pos hh] at ha; exact ha) ls H locs hl hH hS c1 (jc_tl c2) c3
  · have hh : ¬ (x < 0) := by exact fun z => h (hl0.mpr z)
    exact kf a (by rw [if_neg hh] at ha; exact ha) ls H locs hl hH hS c1 (jc_tl c2) c3

theorem z_ifge (hR : jR l g T own cc nL rk ret d K) {x : Int} {off : Int} {tgt : Nat} {A B : Option α} (hd : decode cc pc = .ok (.ifCond .ge off, 3)) (ht : (pc : Int) + off = (tgt : Int)) (kt : jZ K em tgt lv st M B) (kf : jZ K em (pc + 3) lv st M A) : jZ K em pc lv ((0, x) :: st) M (if x < 0 then A else B) := by
  obtain ⟨p, e, s, m, args, below, meth, c, rfl, hx, hb, hml, hown, hts, hlk, hrt, hK, hE⟩ := hR
  intro a ha ls H locs hl hH hS c1 c2 c3
  have hl0 := i32_0le (jc_hd c2)
  refine lv_if_ge (x := Int32.ofInt x) hx hb hd ht (fun h => ?_) (fun h => ?_)
  · have hh : ¬ x < 0 := by first | exact fun z => h (hl0.mpr z) | (have h2 := hl0.mp h; omega)
    exact kt a (by rw [if_neg hh] at ha; exact ha) ls H locs hl hH hS c1 (jc_tl c2) c3
  · have hh : x < 0 := by first | exact hl0.mp h | (have h2 : ¬ _ := fun z => h (hl0.mpr z); omega)
    exact kf a (by rw [if_pos hh] at ha; exact ha) ls H locs hl hH hS c1 (jc_tl c2) c3

theorem z_ifgt (hR : jR l g T own cc nL rk ret d K) {x : Int} {off : Int} {tgt : Nat} {A B : Option α} (hd : decode cc pc = .ok (.ifCond .gt off, 3)) (ht : (pc : Int) + off = (tgt : Int)) (kt : jZ K em tgt lv st M A) (kf : jZ K em (pc + 3) lv st M B) : jZ K em pc lv ((0, x) :: st) M (if 0 < x then A else B) := by
  obtain ⟨p, e, s, m, args, below, meth, c, rfl, hx, hb, hml, hown, hts, hlk, hrt, hK, hE⟩ := hR
  intro a ha ls H locs hl hH hS c1 c2 c3
  have hl0 := i32_0lt (jc_hd c2)
  refine lv_if_gt (x := Int32.ofInt x) hx hb hd ht (fun h => ?_) (fun h => ?_)
  · have hh : 0 < x := by exact hl0.mp h
    exact kt a (by rw [if_pos hh] at ha; exact ha) ls H locs hl hH hS c1 (jc_tl c2) c3
  · have hh : ¬ (0 < x) := by exact fun z => h (hl0.mpr z)
    exact kf a (by rw [if_neg hh] at ha; exact ha) ls H locs hl hH hS c1 (jc_tl c2) c3

theorem z_ifle (hR : jR l g T own cc nL rk ret d K) {x : Int} {off : Int} {tgt : Nat} {A B : Option α} (hd : decode cc pc = .ok (.ifCond .le off, 3)) (ht : (pc : Int) + off = (tgt : Int)) (kt : jZ K em tgt lv st M B) (kf : jZ K em (pc + 3) lv st M A) : jZ K em pc lv ((0, x) :: st) M (if 0 < x then A else B) := by
  obtain ⟨p, e, s, m, args, below, meth, c, rfl, hx, hb, hml, hown, hts, hlk, hrt, hK, hE⟩ := hR
  intro a ha ls H locs hl hH hS c1 c2 c3
  have hl0 := i32_le0 (jc_hd c2)
  refine lv_if_le (x := Int32.ofInt x) hx hb hd ht (fun h => ?_) (fun h => ?_)
  · have hh : ¬ 0 < x := by first | exact fun z => h (hl0.mpr z) | (have h2 := hl0.mp h; omega)
    exact kt a (by rw [if_neg hh] at ha; exact ha) ls H locs hl hH hS c1 (jc_tl c2) c3
  · have hh : 0 < x := by first | exact hl0.mp h | (have h2 : ¬ _ := fun z => h (hl0.mpr z); omega)
    exact kf a (by rw [if_pos hh] at ha; exact ha) ls H locs hl hH hS c1 (jc_tl c2) c3

theorem z_icmpeq (hR : jR l g T own cc nL rk ret d K) {x y : Int} {off : Int} {tgt : Nat} {A B : Option α} (hd : decode cc pc = .ok (.if_icmp .eq off, 3)) (ht : (pc : Int) + off = (tgt : Int)) (kt : jZ K em tgt lv st M A) (kf : jZ K em (pc + 3) lv st M B) : jZ K em pc lv ((0, y) :: (0, x) :: st) M (if x = y then A else B) := by
  obtain ⟨p, e, s, m, args, below, meth, c, rfl, hx, hb, hml, hown, hts, hlk, hrt, hK, hE⟩ := hR
  intro a ha ls H locs hl hH hS c1 c2 c3
  have hl0 := i32_eq (jc_hd (jc_tl c2)) (jc_hd c2)
  refine lv_icmp_eq (x := Int32.ofInt x) (y := Int32.ofInt y) hx hb hd ht (fun h => ?_) (fun h => ?_)
  · have hh : x = y := by exact hl0.mp h
    exact kt a (by rw [if_pos hh] at ha; exact ha) ls H locs hl hH hS c1 (jc_tl (jc_tl c2)) c3
  · have hh : ¬ (x = y) := by exact fun z => h (hl0.mpr z)
    exact kf a (by rw [if_neg hh] at ha; exact ha) ls H locs hl hH hS c1 (jc_tl (jc_tl c2)) c3

theorem z_icmpne (hR : jR l g T own cc nL rk ret d K) {x y : Int} {off : Int} {tgt : Nat} {A B : Option α} (hd : decode cc pc = .ok (.if_icmp .ne off, 3)) (ht : (pc : Int) + off = (tgt : Int)) (kt : jZ K em tgt lv st M B) (kf : jZ K em (pc + 3) lv st M A) : jZ K em pc lv ((0, y) :: (0, x) :: st) M (if x = y then A else B) := by
  obtain ⟨p, e, s, m, args, below, meth, c, rfl, hx, hb, hml, hown, hts, hlk, hrt, hK, hE⟩ := hR
  intro a ha ls H locs hl hH hS c1 c2 c3
  have hl0 := i32_eq (jc_hd (jc_tl c2)) (jc_hd c2)
  refine lv_icmp_ne (x := Int32.ofInt x) (y := Int32.ofInt y) hx hb hd ht (fun h => ?_) (fun h => ?_)
  · have hh : ¬ x = y := by first | exact fun z => h (hl0.mpr z) | (have h2 := hl0.mp h; omega)
    exact kt a (by rw [if_neg hh] at ha; exact ha) ls H locs hl hH hS c1 (jc_tl (jc_tl c2)) c3
  · have hh : x = y := by first | exact hl0.mp h | (have h2 : ¬ _ := fun z => h (hl0.mpr z); omega)
    exact kf a (by rw [if_pos hh] at ha; exact ha) ls H locs hl hH hS c1 (jc_tl (jc_tl c2)) c3

theorem z_icmplt (hR : jR l g T own cc nL rk ret d K) {x y : Int} {off : Int} {tgt : Nat} {A B : Option α} (hd : decode cc pc = .ok (.if_icmp .lt off, 3)) (ht : (pc : Int) + off = (tgt : Int)) (kt : jZ K em tgt lv st M A) (kf : jZ K em (pc + 3) lv st M B) : jZ K em pc lv ((0, y) :: (0, x) :: st) M (if x < y then A else B) := by
  obtain ⟨p, e, s, m, args, below, meth, c, rfl, hx, hb, hml, hown, hts, hlk, hrt, hK, hE⟩ := hR
  intro a ha ls H locs hl hH hS c1 c2 c3
  have hl0 := i32_lt (jc_hd (jc_tl c2)) (jc_hd c2)
  refine lv_icmp_lt (x := Int32.ofInt x) (y := Int32.ofInt y) hx hb hd ht (fun h => ?_) (fun h => ?_)
  · have hh : x < y := by exact hl0.mp h
    exact kt a (by rw [if_pos hh] at ha; exact ha) ls H locs hl hH hS c1 (jc_tl (jc_tl c2)) c3
  · have hh : ¬ (x < y) := by exact fun z => h (hl0.mpr z)
    exact kf a (by rw [if_neg hh] at ha; exact ha) ls H locs hl hH hS c1 (jc_tl (jc_tl c2)) c3

theorem z_icmpge (hR : jR l g T own cc nL rk ret d K) {x y : Int} {off : Int} {tgt : Nat} {A B : Option α} (hd : decode cc pc = .ok (.if_icmp .ge off, 3)) (ht : (pc : Int) + off = (tgt : Int)) (kt : jZ K em tgt lv st M B) (kf : jZ K em (pc + 3) lv st M A) : jZ K em pc lv ((0, y) :: (0, x) :: st) M (if x < y then A else B) := by
  obtain ⟨p, e, s, m, args, below, meth, c, rfl, hx, hb, hml, hown, hts, hlk, hrt, hK, hE⟩ := hR
  intro a ha ls H locs hl hH hS c1 c2 c3
  have hl0 := i32_le (jc_hd c2) (jc_hd (jc_tl c2))
  refine lv_icmp_ge (x := Int32.ofInt x) (y := Int32.ofInt y) hx hb hd ht (fun h => ?_) (fun h => ?_)
  · have hh : ¬ x < y := by first | exact fun z => h (hl0.mpr z) | (have h2 := hl0.mp h; omega)
    exact kt a (by rw [if_neg hh] at ha; exact ha) ls H locs hl hH hS c1 (jc_tl (jc_tl c2)) c3
  · have hh : x < y := by first | exact hl0.mp h | (have h2 : ¬ _ := fun z => h (hl0.mpr z); omega)
    exact kf a (by rw [if_pos hh] at ha; exact ha) ls H locs hl hH hS c1 (jc_tl (jc_tl c2)) c3

theorem z_icmpgt (hR : jR l g T own cc nL rk ret d K) {x y : Int} {off : Int} {tgt : Nat} {A B : Option α} (hd : decode cc pc = .ok (.if_icmp .gt off, 3)) (ht : (pc : Int) + off = (tgt : Int)) (kt : jZ K em tgt lv st M A) (kf : jZ K em (pc + 3) lv st M B) : jZ K em pc lv ((0, y) :: (0, x) :: st) M (if y < x then A else B) := by
  obtain ⟨p, e, s, m, args, below, meth, c, rfl, hx, hb, hml, hown, hts, hlk, hrt, hK, hE⟩ := hR
  intro a ha ls H locs hl hH hS c1 c2 c3
  have hl0 := i32_lt (jc_hd c2) (jc_hd (jc_tl c2))
  refine lv_icmp_gt (x := Int32.ofInt x) (y := Int32.ofInt y) hx hb hd ht (fun h => ?_) (fun h => ?_)
  · have hh : y < x := by exact hl0.mp h
    exact kt a (by rw [if_pos hh] at ha; exact ha) ls H locs hl hH hS c1 (jc_tl (jc_tl c2)) c3
  · have hh : ¬ (y < x) := by exact fun z => h (hl0.mpr z)
    exact kf a (by rw [if_neg hh] at ha; exact ha) ls H locs hl hH hS c1 (jc_tl (jc_tl c2)) c3

theorem z_icmple (hR : jR l g T own cc nL rk ret d K) {x y : Int} {off : Int} {tgt : Nat} {A B : Option α} (hd : decode cc pc = .ok (.if_icmp .le off, 3)) (ht : (pc : Int) + off = (tgt : Int)) (kt : jZ K em tgt lv st M B) (kf : jZ K em (pc + 3) lv st M A) : jZ K em pc lv ((0, y) :: (0, x) :: st) M (if y < x then A else B) := by
  obtain ⟨p, e, s, m, args, below, meth, c, rfl, hx, hb, hml, hown, hts, hlk, hrt, hK, hE⟩ := hR
  intro a ha ls H locs hl hH hS c1 c2 c3
  have hl0 := i32_le (jc_hd (jc_tl c2)) (jc_hd c2)
  refine lv_icmp_le (x := Int32.ofInt x) (y := Int32.ofInt y) hx hb hd ht (fun h => ?_) (fun h => ?_)
  · have hh : ¬ y < x := by first | exact fun z => h (hl0.mpr z) | (have h2 := hl0.mp h; omega)
    exact kt a (by rw [if_neg hh] at ha; exact ha) ls H locs hl hH hS c1 (jc_tl (jc_tl c2)) c3
  · have hh : y < x := by first | exact hl0.mp h | (have h2 : ¬ _ := fun z => h (hl0.mpr z); omega)
    exact kf a (by rw [if_pos hh] at ha; exact ha) ls H locs hl hH hS c1 (jc_tl (jc_tl c2)) c3

end Rows
