/-! the world: memory as rows of whole numbers, a row a cell; a table of kinds says what each cell is -/
abbrev jMem : Type := Int → Int → Int
abbrev jV : Type := Nat × Int
abbrev jL : Type := List (Nat × Nat × Int)
abbrev jG : Type := va_G × (Nat → ClassId) × Nat
def jv (b : Nat) (v : Nat × Int) : Value := match v.1 with
  | 0 => .int (Int32.ofInt v.2)
  | 1 => .long (Int64.ofInt v.2)
  | 2 => if v.2 < 0 then .null else .ref (b + v.2.toNat)
  | 5 => if v.2 < 0 then .null else .ref v.2.toNat
  | _ => .ref v.2.toNat
def jl (b : Nat) (v : Nat × Nat × Int) : Nat × Value := (v.1, jv b v.2)
def jcan (v : Nat × Int) : Prop := match v.1 with
  | 0 => in32 v.2
  | 1 => in64 v.2
  | _ => True
/-- the slots of the classes: 0 an int, 1 a long, 2 a reference that may change, 3 and more: the cell so much behind, and 3 -/
def jFL (ci : Nat) : List Nat := match ci with
  | 0 => [4, 0, 0]
  | 1 => [4, 7, 13, 14, 15, 16, 0, 0]
  | 2 => [4, 5, 0, 0, 6, 7, 8, 0]
  | 3 => [0, 4, 5, 6]
  | 4 => [0, 0, 4, 5, 6, 7, 8]
  | 5 => [4, 0, 5, 6, 7, 0, 8]
  | 6 => [2, 2, 0]
  | 7 => [0, 0, 4, 5, 6, 7, 8]
  | 8 => [4, 5, 6, 0, 0]
  | 9 => [4, 10, 16, 0, 0, 0]
  | 10 => [4, 0, 5]
  | 11 => [4, 0, 5, 9, 15, 16, 0, 17, 34, 156, 157, 160, 174]
  | 12 => [4, 0, 0, 5, 6, 7, 8, 9, 0, 0, 0, 0, 0, 0, 0, 10, 0, 11, 0, 12, 13, 0, 0, 14, 0, 15, 0, 16, 17, 18, 19, 0, 0, 20, 21, 22, 23, 1, 24, 25, 26, 27]
  | _ => []
def jTX : List Nat := [11, 2000400, 8, 1000401, 1000401, 1000401, 4, 1000007, 1000007, 1000007, 1000007, 1000007, 6, 6000006, 9, 4, 1000007, 1000007, 1000007, 1000007, 1000007, 7, 1000007, 1000007, 1000007, 1000007, 1000007, 3, 1000010, 1000010, 1000010, 0, 8000020, 7, 1000007, 1000007, 1000007, 1000007, 1000007, 7, 1000007, 1000007, 1000007, 1000007, 1000007, 7, 1000007, 1000007, 1000007, 1000007, 1000007, 7, 1000007, 1000007, 1000007, 1000007, 1000007, 7, 1000007, 1000007, 1000007, 1000007, 1000007, 7, 1000007, 1000007, 1000007, 1000007, 1000007, 7, 1000007, 1000007, 1000007, 1000007, 1000007, 7, 1000007, 1000007, 1000007, 1000007, 1000007, 7, 1000007, 1000007, 1000007, 1000007, 1000007, 7, 1000007, 1000007, 1000007, 1000007, 1000007, 7, 1000007, 1000007, 1000007, 1000007, 1000007, 7, 1000007, 1000007, 1000007, 1000007, 1000007, 7, 1000007, 1000007, 1000007, 1000007, 1000007, 7, 1000007, 1000007, 1000007, 1000007, 1000007, 7, 1000007, 1000007, 1000007, 1000007, 1000007, 7, 1000007, 1000007, 1000007, 1000007, 1000007, 7, 1000007, 1000007, 1000007, 1000007, 1000007, 7, 1000007, 1000007, 1000007, 1000007, 1000007, 7, 1000007, 1000007, 1000007, 1000007, 1000007, 7, 1000007, 1000007, 1000007, 1000007, 1000007, 7000004, 10, 1000007, 5000012, 1, 10, 1000007, 5000012, 7, 1000007, 1000007, 1000007, 1000007, 1000007, 1000007, 1000036, 1000036, 1000049, 2, 2005040, 3005040, 1000007, 1000007, 1000007, 5, 1000400, 1000012, 1000012, 1000012, 5000040, 5, 1000400, 1000012, 1000012, 1000012, 5000040, 5, 1000400, 1000012, 1000012, 1000012, 5000040, 5, 1000400, 1000012, 1000012, 1000012, 5000040, 5, 1000400, 1000012, 1000012, 1000012, 5000040, 5, 1000400, 1000012, 1000012, 1000012, 5000040, 9, 4, 1000007, 1000007, 1000007, 1000007, 1000007, 7, 1000007, 1000007, 1000007, 1000007, 1000007, 3, 1000010, 1000010, 1000010, 9, 4, 1000007, 1000007, 1000007, 1000007, 1000007, 7, 1000007, 1000007, 1000007, 1000007, 1000007, 3, 1000010, 1000010, 1000010, 9, 4, 1000007, 1000007, 1000007, 1000007, 1000007, 7, 1000007, 1000007, 1000007, 1000007, 1000007, 3, 1000010, 1000010, 1000010, 9, 4, 1000007, 1000007, 1000007, 1000007, 1000007, 7, 1000007, 1000007, 1000007, 1000007, 1000007, 3, 1000010, 1000010, 1000010]
def jTM : List Nat := [12, 2000400, 1002400, 1000007, 1000288, 1000006, 1000081, 1000400, 5000064, 5000012, 1000112, 1000007, 1000720, 1000007, 1000007, 1005040, 1005040, 1000036, 1000072, 4000007, 1000049, 1000448, 1000004, 1000004, 4000004]
/-- the cells that an array of references holds: ty 5, 6, 7 -/
def jSt (ty id j : Nat) : Nat := if ty = 5 then id + 164 + 6 * j else if ty = 6 then id + 60 + 17 * j else id + 1 + 6 * j
def jfld (b id : Nat) (r : Int → Int) (j c : Nat) : Value := match c with
  | 0 => .int (Int32.ofInt (r j))
  | 1 => .long (Int64.ofInt (r j))
  | 2 => jv b (2, r j)
  | c + 3 => .ref (b + (id + c))
def jfs (b id : Nat) (r : Int → Int) (L : List Nat) : List Value := (List.range L.length).map fun j => jfld b id r j (L.getD j 0)
def jcell (g : jG) (T : List Nat) (r : Int → Int) (id : Nat) : va_E :=
  if T.getD id 99 < 100 then .inr (T.getD id 99, jfs g.2.2 id r (jFL (T.getD id 99)))
  else .inl (g.2.1 (T.getD id 99 / 1000000 - 1), T.getD id 99 % 1000000,
    if T.getD id 99 < 5000000 then .inl (fun j => Int32.ofInt (r j))
    else if T.getD id 99 < 6000000 then .inr (.inl fun j => Int64.ofInt (r j))
    else .inr (.inr (.inr (.inr fun j => some (g.2.2 + jSt (T.getD id 99 / 1000000 - 1) id j)))))
def jws (g : jG) (T : List Nat) (M : jMem) : va_W := (List.range T.length).map fun (id : Nat) => (g.2.2 + id, jcell g T (M (id : Int)) id)
def jA (g : jG) (T : List Nat) : Nat → Prop := fun a => g.2.2 ≤ a ∧ a < g.2.2 + T.length
theorem jws_get {g : jG} {T : List Nat} {M : jMem} {id : Nat} (h : id < T.length) : (jws g T M)[id]? = some (g.2.2 + id, jcell g T (M (id : Int)) id) := by
  simp [jws, h]
theorem jws_inv {g : jG} {T : List Nat} {M : jMem} {id : Nat} {q : Nat × va_E} (h : (jws g T M)[id]? = some q) : id < T.length ∧ q.1 = g.2.2 + id := by
  by_cases hl : id < T.length
  · rw [jws_get hl] at h
    cases h; exact ⟨hl, rfl⟩
  · exfalso
    have : (jws g T M)[id]? = none := by simp [jws]; omega
    rw [this] at h; cases h
theorem jws_D (g : jG) (T : List Nat) (M : jMem) : va_D (jA g T) (jws g T M) := by
  refine ⟨fun i j p q hi hj h => ?_, fun k q hk => ?_⟩
  · have h1 := jws_inv hi
    have h2 := jws_inv hj
    omega
  · have h1 := jws_inv hk
    refine ⟨?_, ?_⟩ <;> omega
def up (M : jMem) (q j v : Int) : jMem := fun q' => if q' = q then (fun j' => if j' = j then v else M q j') else M q'
theorem up_ne {M : jMem} {q j v q' : Int} (h : q' ≠ q) : up M q j v q' = M q' := by unfold up; rw [if_neg h]
theorem up_eq {M : jMem} {q j v : Int} : up M q j v q = fun j' => if j' = j then v else M q j' := by unfold up; rw [if_pos rfl]
theorem jws_set {g : jG} {T : List Nat} {M M' : jMem} {id : Nat} (hid : id < T.length) (h : ∀ k : Nat, k ≠ id → M' (k : Int) = M (k : Int)) :
    (jws g T M).set id (g.2.2 + id, jcell g T (M' (id : Int)) id) = jws g T M' := by
  apply List.ext_getElem?
  intro k
  by_cases hk : k = id
  · subst hk
    rw [List.getElem?_set_self (by simp [jws]; exact hid), jws_get hid]
  · rw [List.getElem?_set_ne (fun z => hk z.symm)]
    by_cases hl : k < T.length
    · rw [jws_get hl, jws_get hl, h k hk]
    · simp [jws, hl]
def jH (g : jG) (T : List Nat) (M : jMem) (H : Heap) : Prop := va_P g.1 vwCl (jws g T M) H
def jtys (g : jG) : List (ClassId × FieldType) := [(g.2.1 0, .int), (g.2.1 1, .byte), (g.2.1 2, .short), (g.2.1 3, .boolean), (g.2.1 4, .long), (g.2.1 5, .object RX5), (g.2.1 6, .object RX9), (g.2.1 7, .object RX7)]
/-- what a slot keeps: 0 an int, 1 a long, else no number -/
def jcd (T : List Nat) (q j : Nat) : Nat := if T.getD q 99 < 100 then (jFL (T.getD q 99)).getD j 2 else if T.getD q 99 < 5000000 then 0 else if T.getD q 99 < 6000000 then 1 else 2
def jok (T : List Nat) (M : jMem) : Prop := ∀ q j : Nat, jcan (jcd T q j, M (q : Int) (j : Int))
/-- an object of a class; an array of a kind and a length -/
def jk (T : List Nat) (q : Int) (ci : Nat) : Prop := 0 ≤ q ∧ T[q.toNat]? = some ci
def ja (T : List Nat) (q : Int) (ty n : Nat) : Prop := 0 ≤ q ∧ T[q.toNat]? = some (1000000 * (ty + 1) + n) ∧ n < 1000000
def jrv (b rk : Nat) (x : Int) : Option Value := if rk = 3 then none else some (jv b (rk, x))
def jQ (g : jG) (T : List Nat) (rk : Nat) (out : Int × jMem) : Array Value → State → Outcome → State → Prop := fun _ st oc t =>
  (oc = .returned (jrv g.2.2 rk out.1) ∧ jH g T out.2 t.heap ∧ jcan (rk, out.1) ∧ jok T out.2) ∧ va_F (jA g T) st t
def jrm (d : Nat) : Room := { frames := d, cells := 0, slots := 0, locals := 64 * d }
def jK (p : Program) (l : Launch) (e : Env) (s : State) (m : MethodId) (args : Array Value) (below : List Frame) (meth : Method) (c : Code) (g : jG) (T : List Nat) (rk nL d : Nat) (pc : Nat) (lv : jL) (st : List jV) (M : jMem) (out : Int × jMem) : Prop :=
  ∀ (ls : Array Slot) (H : Heap) (locs : List Loc), lv_has ls nL (lv.map (jl g.2.2)) → jH g T M H → va_S (jA g T) s.heap H locs → (∀ v ∈ lv, jcan v.2) → (∀ v ∈ st, jcan v) → jok T M →
    W p l e (jrm d) s m args below meth c H locs 0 0 (MQ below (jQ g T rk out) args s 0 0 (jA g T)) (F0 m pc ls (st.map (jv g.2.2)))
/-- the words that a contract takes along -/
def lw_g : List Cond := lw_tbl.filter goodWord
theorem lw_in {w : Cond} (h : w ∈ lw_tbl) (hg : goodWord w = true) : w ∈ lw_g := List.mem_filter.mpr ⟨h, hg⟩
/-- the two texts of the class: NAMES, SIGNS -/
def jTx0 : String := "parish well farm kin wed if or and not bride groom hers his sweet sour full low heirs home dry year "
def jTx1 : String := ";[]+-*/%<=>"
def jBy0 : List Int32 := [112, 97, 114, 105, 115, 104, 32, 119, 101, 108, 108, 32, 102, 97, 114, 109, 32, 107, 105, 110, 32, 119, 101, 100, 32, 105, 102, 32, 111, 114, 32, 97, 110, 100, 32, 110, 111, 116, 32, 98, 114, 105, 100, 101, 32, 103, 114, 111, 111, 109, 32, 104, 101, 114, 115, 32, 104, 105, 115, 32, 115, 119, 101, 101, 116, 32, 115, 111, 117, 114, 32, 102, 117, 108, 108, 32, 108, 111, 119, 32, 104, 101, 105, 114, 115, 32, 104, 111, 109, 101, 32, 100, 114, 121, 32, 121, 101, 97, 114, 32]
def jBy1 : List Int32 := [59, 91, 93, 43, 45, 42, 47, 37, 60, 61, 62]
def jSf (g : jG) : Int := ((g.1.2 102 0 : Nat) : Int) - 1
def jE (g : jG) (T : List Nat) (U : State) : Prop := vk_S 2 [100, 11] [jBy0, jBy1] (g.1.2 100) (g.1.2 101) (jA g T) U U.heap ∧ vk_R RX8 48 jTx0 (g.1.2 100 0) U ∧ vk_R RX8 64 jTx1 (g.1.2 100 1) U ∧
  va_Z "java/lang/String" "COMPACT_STRINGS" "Z" (.int 1) (jA g T) U U.heap ∧ va_Z "jdk/internal/util/Preconditions" "SIOOBE_FORMATTER" "Ljava/util/function/BiFunction;" (jv 0 (5, jSf g)) (jA g T) U U.heap
def jSl (w : Nat) : Int := ((([100, 11] : List Nat).getD w 0 : Nat) : Int)
def jSb (w : Nat) (i : Int) : Int := (([jBy0, jBy1].getD w []).getD i.toNat 0).toInt
def jSa (g : jG) (w : Nat) : Int := ((g.1.2 100 w : Nat) : Int)
def jSv (g : jG) (w : Nat) : Int := ((g.1.2 101 w : Nat) : Int)
theorem jE_go {g : jG} {T : List Nat} {s U : State} (h : jE g T s) (hW : s.WarmedH U.vm) (hq : ∀ q : Nat, q < s.heap.size → ¬ jA g T q → U.heap[q]? = s.heap[q]?) : jE g T U :=
  ⟨vk_S.moved hW.alike (h.1.kept hq), h.2.1.warm hW, h.2.2.1.warm hW, va_Z.moved hW.alike (h.2.2.2.1.kept hq), va_Z.moved hW.alike (h.2.2.2.2.kept hq)⟩
theorem jE_call {g : jG} {T : List Nat} {U : State} {g' : JFrame} {mk : MethodId} {a : Array Value} (h : jE g T U) : jE g T (U.calling g' mk a) :=
  ⟨vk_S.moved (u := U) (U := U.calling g' mk a) (Vm.Alike.refl U.vm) h.1, h.2.1.same rfl, h.2.2.1.same rfl, va_Z.moved (u := U) (U := U.calling g' mk a) (Vm.Alike.refl U.vm) h.2.2.2.1, va_Z.moved (u := U) (U := U.calling g' mk a) (Vm.Alike.refl U.vm) h.2.2.2.2⟩
def jR (l : Launch) (g : jG) (T : List Nat) (own : String) (cc : ByteArray) (nL rk : Nat) (ret : Option FieldType) (d : Nat) (K : Nat → jL → List jV → jMem → Int × jMem → Prop) : Prop :=
  ∃ (p : Program) (e : Env) (s : State) (m : MethodId) (args : Array Value) (below : List Frame) (meth : Method) (c : Code), K = jK p l e s m args below meth c g T rk nL d ∧
    p.tables.exec = Jvm.exec ∧ c.code = cc ∧ c.maxLocals = nL ∧ s.vm.findClass own = some m.cls ∧ (∀ w ∈ lw_g, w.before args s = true) ∧ meth.locks = false ∧ meth.sig.returnType = ret ∧ va_K g.1 vwCl (jtys g) s ∧ jE g T s
def jZ {α : Type} (K : Nat → jL → List jV → jMem → Int × jMem → Prop) (em : α → Int × jMem) (pc : Nat) (lv : jL) (st : List jV) (M : jMem) (t : Option α) : Prop := ∀ a, t = some a → K pc lv st M (em a)
def jchk {α : Type} (c : Prop) [Decidable c] (t : Option α) : Option α := if c then t else none
def jlt {β α : Type} (x : β) (f : β → α) : α := f x
def jfix {σ α : Type} : Nat → ((σ → Option α) → σ → Option α) → σ → Option α
  | 0, _, _ => none
  | n + 1, b, s => b (jfix n b) s
theorem jc_hd {a : jV} {st : List jV} (h : ∀ v ∈ a :: st, jcan v) : jcan a := h a List.mem_cons_self
theorem jc_tl {a : jV} {st : List jV} (h : ∀ v ∈ a :: st, jcan v) : ∀ v ∈ st, jcan v := fun v hv => h v (List.mem_cons_of_mem _ hv)
theorem jc_cons {a : jV} {st : List jV} (h1 : jcan a) (h : ∀ v ∈ st, jcan v) : ∀ v ∈ a :: st, jcan v := fun v hv => by
  rcases List.mem_cons.mp hv with rfl | h2
  · exact h1
  · exact h v h2
theorem jl_at {b : Nat} {lv : jL} {j i k : Nat} {x : Int} (h : lv[j]? = some (i, k, x)) : (lv.map (jl b))[j]? = some (i, jv b (k, x)) := by
  rw [List.getElem?_map, h]; rfl
theorem jl_can {lv : jL} {j i k : Nat} {x : Int} (h : lv[j]? = some (i, k, x)) (c1 : ∀ v ∈ lv, jcan v.2) : jcan (k, x) := c1 _ (List.mem_of_getElem? h)
theorem jv_cat (b : Nat) (v : jV) : ((jv b v).category == 2) = (v.1 == 1) := by
  obtain ⟨k, x⟩ := v
  match k with
  | 0 => rfl
  | 1 => rfl
  | 2 =>
    have h1 : jv b (2, x) = if x < 0 then .null else .ref (b + x.toNat) := rfl
    rw [h1]
    have h2 : ((2, x).1 == 1) = false := by simp
    rw [h2]
    split <;> rfl
  | 3 => rfl
  | 4 => rfl
  | 5 =>
    have h1 : jv b (5, x) = if x < 0 then .null else .ref x.toNat := rfl
    rw [h1]
    have h2 : ((5, x).1 == 1) = false := by simp
    rw [h2]
    split <;> rfl
  | k + 6 =>
    have h2 : ((k + 6, x).1 == 1) = false := by simp
    rw [h2]; rfl
theorem jl_st1 {b i k : Nat} {x : Int} {lv lv' : jL} (h : (i, k, x) :: lv.filter (fun q => !(q.1 == i) && !(q.1 + 1 == i && q.2.1 == 1)) = lv') :
    (i, jv b (k, x)) :: (lv.map (jl b)).filter (fun q => !(q.1 == i) && !(q.1 + 1 == i && q.2.category == 2)) = lv'.map (jl b) := by
  rw [← h, List.map_cons, List.filter_map]
  congr 2
  apply List.filter_congr
  intro q _
  show (!(q.1 == i) && !(q.1 + 1 == i && (jv b q.2).category == 2)) = _
  rw [jv_cat]
theorem jl_st2 {b i k : Nat} {x : Int} {lv lv' : jL} (h : (i, k, x) :: lv.filter (fun q => !(q.1 == i) && (!(q.1 == i + 1) && !(q.1 + 1 == i && q.2.1 == 1))) = lv') :
    (i, jv b (k, x)) :: (lv.map (jl b)).filter (fun q => !(q.1 == i) && (!(q.1 == i + 1) && !(q.1 + 1 == i && q.2.category == 2))) = lv'.map (jl b) := by
  rw [← h, List.map_cons, List.filter_map]
  congr 2
  apply List.filter_congr
  intro q _
  show (!(q.1 == i) && (!(q.1 == i + 1) && !(q.1 + 1 == i && (jv b q.2).category == 2))) = _
  rw [jv_cat]
theorem jl_stc {p : (Nat × Nat × Int) → Bool} {i k : Nat} {x : Int} {lv lv' : jL} (h : (i, k, x) :: lv.filter p = lv') (hx : jcan (k, x)) (c1 : ∀ v ∈ lv, jcan v.2) : ∀ v ∈ lv', jcan v.2 := by
  rw [← h]
  intro v hv
  rcases List.mem_cons.mp hv with rfl | h2
  · exact hx
  · exact c1 v (List.mem_filter.mp h2).1
