/-! making: cells come one behind the other; row -1 counts them -/
def jn (M : jMem) : Nat := (M (-1) 0).toNat
def jfld1 (b : Nat) (r : Int → Int) (j c : Nat) : Value := match c with
  | 0 => .int (Int32.ofInt (r j))
  | 1 => .long (Int64.ofInt (r j))
  | _ => jv b (2, r j)
def jfs1 (b : Nat) (r : Int → Int) (L : List Nat) : List Value := (List.range L.length).map fun j => jfld1 b r j (L.getD j 0)
def jrf1 (b : Nat) (x : Int) : Option Nat := if x < 0 then none else some (b + x.toNat)
def jcell1 (g : jG) (T : List Nat) (r : Int → Int) (id : Nat) : va_E :=
  if T.getD id 99 < 100 then .inr (T.getD id 99, jfs1 g.2.2 r (jFL (T.getD id 99)))
  else .inl (g.2.1 (T.getD id 99 / 1000000 - 1), T.getD id 99 % 1000000,
    if T.getD id 99 < 5000000 then .inl (fun j => Int32.ofInt (r j))
    else if T.getD id 99 < 6000000 then .inr (.inl fun j => Int64.ofInt (r j))
    else .inr (.inr (.inr (.inr fun j => jrf1 g.2.2 (r j)))))
def jws1 (g : jG) (T : List Nat) (M : jMem) : va_W := (List.range (jn M)).map fun (id : Nat) => (g.2.2 + id, jcell1 g T (M (id : Int)) id)
def jA1 (g : jG) : Nat → Prop := fun a => g.2.2 ≤ a
def jH1 (g : jG) (T : List Nat) (M : jMem) (H : Heap) : Prop := va_P g.1 vwCl (jws1 g T M) H ∧ H.size = g.2.2 + jn M ∧ 0 ≤ M (-1) 0
def jsz (T : List Nat) (id : Nat) : Nat := if T.getD id 99 < 100 then (jFL (T.getD id 99)).length else T.getD id 99 % 1000000
def jss (T : List Nat) : Nat → Nat
  | 0 => 0
  | n + 1 => jss T n + jsz T n
theorem jss_mono {T : List Nat} {a b : Nat} (h : a ≤ b) : jss T a ≤ jss T b := by
  induction b with
  | zero => rw [Nat.le_zero.mp h]; exact Nat.le_refl _
  | succ b ih =>
    by_cases h1 : a = b + 1
    · rw [h1]; exact Nat.le_refl _
    · exact Nat.le_trans (ih (by omega)) (Nat.le_add_right _ _)
def jrm1 (T : List Nat) (n0 nE d : Nat) : Room := { frames := d, cells := nE - n0, slots := jss T nE - jss T n0, locals := 64 * d }
def jQ1 (g : jG) (T : List Nat) (nE : Nat) (out : Int × jMem) : Array Value → State → Outcome → State → Prop := fun _ st oc t =>
  (oc = .returned none ∧ jH1 g T out.2 t.heap ∧ jn out.2 = nE ∧ jok T out.2) ∧ va_F (jA1 g) st t
def jNest : List (String × Nat × MethodName) := [(RX11, 15, yX8_init), (RX11, 22, yX4_init), (RX11, 29, yX6_init), (RX11, 42, yX9_init), (RX9, 11, yX4_init), (RX9, 20, yX7_init), (RX9, 27, yX3_init), (RX0, 17, yX7_init), (RX11, 60, yX10_init), (RX11, 67, yX1_init), (RX1, 13, yX10_init), (RX1, 20, yX7_init), (RX11, 74, yX2_init), (RX11, 79, yX5_init)]
def jE1 (U : State) : Prop := va_AO RX5 U ∧ va_AO RX9 U ∧ va_AO RX7 U ∧ ∀ x ∈ jNest, va_Nw (.methodLinkNest x.1 x.2.1 x.2.2 RX11) U
def jK1 (p : Program) (l : Launch) (e : Env) (s : State) (m : MethodId) (args : Array Value) (below : List Frame) (meth : Method) (c : Code) (g : jG) (T : List Nat) (nL n0 nE d : Nat) (pc : Nat) (lv : jL) (st : List jV) (M : jMem) (out : Int × jMem) : Prop :=
  ∀ (ls : Array Slot) (H : Heap) (locs : List Loc), lv_has ls nL (lv.map (jl g.2.2)) → jH1 g T M H → n0 ≤ jn M → jn M ≤ nE → va_S (jA1 g) s.heap H locs → (∀ v ∈ lv, jcan v.2) → (∀ v ∈ st, jcan v) → jok T M →
    W p l e (jrm1 T n0 nE d) s m args below meth c H locs (jn M - n0) (jss T (jn M) - jss T n0) (MQ below (jQ1 g T nE out) args s (nE - n0) (jss T nE - jss T n0) (jA1 g)) (F0 m pc ls (st.map (jv g.2.2)))
def jR1 (l : Launch) (g : jG) (T : List Nat) (own : String) (cc : ByteArray) (nL n0 nE d : Nat) (K : Nat → jL → List jV → jMem → Int × jMem → Prop) : Prop :=
  ∃ (p : Program) (e : Env) (s : State) (m : MethodId) (args : Array Value) (below : List Frame) (meth : Method) (c : Code), K = jK1 p l e s m args below meth c g T nL n0 nE d ∧
    p.tables.exec = Jvm.exec ∧ c.code = cc ∧ c.maxLocals = nL ∧ s.vm.findClass own = some m.cls ∧ (∀ w ∈ lw_g, w.before args s = true) ∧ meth.locks = false ∧ meth.sig.returnType = none ∧ va_K g.1 vwCl (jtys g) s ∧ meth.name = "<init>" ∧ jE1 s ∧ g.2.2 ≤ s.heap.size
def jPF (ci k : Nat) (own : String) (idx : Nat) (ty : FieldType) : Prop := ∃ (C : String) (Tb : u_T) (N : Nat) (ty0 : Nat → FieldType), vwCl[ci]? = some (C, Tb, N) ∧ (∀ w ∈ u_ws C Tb N, w ∈ lw_g) ∧ k < N ∧ Cond.fieldLink own idx (Tb k).1 (Tb k).2.1 (Tb k).2.2.1 ∈ lw_g ∧
  (∀ j, j < N → parseFieldDescriptor (Tb j).2.2.1 = some (ty0 j)) ∧ (∀ a, a < N → ∀ b, b < N → a ≠ b → (Tb a).2.1 ≠ (Tb b).2.1) ∧ (Tb k).2.2.2 = true ∧ parseFieldDescriptor (Tb k).2.2.1 = some ty ∧ (Tb k).1 = own
/-- a new cell's row -/
def jdrow (T : List Nat) (id : Nat) : Int → Int := fun j => if jcd T id j.toNat < 2 then 0 else -1
def jnewM (T : List Nat) (M : jMem) : jMem := fun q => if q = -1 then (fun j => if j = 0 then M (-1) 0 + 1 else M (-1) j) else if q = M (-1) 0 then jdrow T (M (-1) 0).toNat else M q
theorem jnewM_n {T : List Nat} {M : jMem} (h : 0 ≤ M (-1) 0) : jn (jnewM T M) = jn M + 1 := by
  have e : jnewM T M (-1) 0 = M (-1) 0 + 1 := by unfold jnewM; rw [if_pos rfl, if_pos rfl]
  unfold jn; rw [e]; omega
theorem jnewM_0 {T : List Nat} {M : jMem} (h : 0 ≤ M (-1) 0) : 0 ≤ jnewM T M (-1) 0 := by
  have e : jnewM T M (-1) 0 = M (-1) 0 + 1 := by unfold jnewM; rw [if_pos rfl, if_pos rfl]
  rw [e]; omega
theorem jnewM_ne {T : List Nat} {M : jMem} {id : Nat} (h : 0 ≤ M (-1) 0) (hid : id ≠ jn M) : jnewM T M (id : Int) = M (id : Int) := by
  unfold jnewM
  unfold jn at hid
  rw [if_neg (by omega), if_neg (by omega)]
theorem jnewM_eq {T : List Nat} {M : jMem} (h : 0 ≤ M (-1) 0) : jnewM T M ((jn M : Nat) : Int) = jdrow T (jn M) := by
  have e : ((jn M : Nat) : Int) = M (-1) 0 := by unfold jn; omega
  unfold jnewM
  rw [e, if_neg (by omega), if_pos rfl]; rfl
theorem jcd_refs {T : List Nat} {id ty n j : Nat} (h : T[id]? = some (1000000 * (ty + 1) + n)) (hn : n < 1000000) (ht : 5 ≤ ty) : jcd T id j = 2 := by
  have e : T.getD id 99 = 1000000 * (ty + 1) + n := by rw [List.getD_eq_getElem?_getD, h]; rfl
  unfold jcd; rw [e, if_neg (by omega), if_neg (by omega), if_neg (by omega)]
theorem jok_new {T : List Nat} {M : jMem} (h0 : 0 ≤ M (-1) 0) (h : jok T M) : jok T (jnewM T M) := by
  intro q j
  by_cases hq : q = jn M
  · subst hq
    rw [jnewM_eq h0]
    unfold jdrow
    rw [show ((j : Int).toNat) = j by omega]
    generalize jcd T (jn M) j = c
    match c with
    | 0 => exact ⟨by decide, by decide⟩
    | 1 => exact ⟨by decide, by decide⟩
    | c + 2 => trivial
  · rw [jnewM_ne h0 hq]; exact h q j
theorem jws1_get {g : jG} {T : List Nat} {M : jMem} {id : Nat} (h : id < jn M) : (jws1 g T M)[id]? = some (g.2.2 + id, jcell1 g T (M (id : Int)) id) := by
  simp [jws1, h]
theorem jws1_inv {g : jG} {T : List Nat} {M : jMem} {id : Nat} {q : Nat × va_E} (h : (jws1 g T M)[id]? = some q) : id < jn M ∧ q.1 = g.2.2 + id := by
  by_cases hl : id < jn M
  · rw [jws1_get hl] at h
    cases h; exact ⟨hl, rfl⟩
  · exfalso
    have : (jws1 g T M)[id]? = none := by simp [jws1]; omega
    rw [this] at h; cases h
theorem jws1_D (g : jG) (T : List Nat) (M : jMem) : va_D (jA1 g) (jws1 g T M) := by
  refine ⟨fun i j p q hi hj h => ?_, fun k q hk => ?_⟩
  · have h1 := jws1_inv hi
    have h2 := jws1_inv hj
    omega
  · have h1 := jws1_inv hk
    show g.2.2 ≤ q.1
    omega
theorem jws1_new {g : jG} {T : List Nat} {M : jMem} (h : 0 ≤ M (-1) 0) : jws1 g T (jnewM T M) = jws1 g T M ++ [(g.2.2 + jn M, jcell1 g T (jdrow T (jn M)) (jn M))] := by
  unfold jws1
  rw [jnewM_n h, List.range_succ, List.map_append, List.map_singleton, jnewM_eq h]
  congr 1
  apply List.map_congr_left
  intro id hid
  rw [jnewM_ne h (by have := List.mem_range.mp hid; omega)]
theorem jws1_set {g : jG} {T : List Nat} {M M' : jMem} {id : Nat} (hid : id < jn M) (hn : M' (-1) 0 = M (-1) 0) (h : ∀ k : Nat, k ≠ id → M' (k : Int) = M (k : Int)) :
    (jws1 g T M).set id (g.2.2 + id, jcell1 g T (M' (id : Int)) id) = jws1 g T M' := by
  have e : jn M' = jn M := by unfold jn; rw [hn]
  apply List.ext_getElem?
  intro k
  by_cases hk : k = id
  · subst hk
    rw [List.getElem?_set_self (by simp [jws1]; exact hid), jws1_get (by rw [e]; exact hid)]
  · rw [List.getElem?_set_ne (fun z => hk z.symm)]
    by_cases hl : k < jn M
    · rw [jws1_get hl, jws1_get (by rw [e]; exact hl), h k hk]
    · simp [jws1, hl, e]
theorem jcell1_obj {g : jG} {T : List Nat} {r : Int → Int} {id ci : Nat} (h : T[id]? = some ci) (hc : ci < 100) : jcell1 g T r id = .inr (ci, jfs1 g.2.2 r (jFL ci)) := by
  have e : T.getD id 99 = ci := by rw [List.getD_eq_getElem?_getD, h]; rfl
  unfold jcell1; rw [e, if_pos hc]
theorem jcell1_int {g : jG} {T : List Nat} {r : Int → Int} {id ty n : Nat} (h : T[id]? = some (1000000 * (ty + 1) + n)) (hn : n < 1000000) (ht : ty < 4) : jcell1 g T r id = .inl (g.2.1 ty, n, .inl (fun j => Int32.ofInt (r j))) := by
  have e : T.getD id 99 = 1000000 * (ty + 1) + n := by rw [List.getD_eq_getElem?_getD, h]; rfl
  have e1 : (1000000 * (ty + 1) + n) / 1000000 - 1 = ty := by omega
  have e2 : (1000000 * (ty + 1) + n) % 1000000 = n := by omega
  unfold jcell1; rw [e, if_neg (by omega), e1, e2, if_pos (by omega)]
theorem jcell1_long {g : jG} {T : List Nat} {r : Int → Int} {id n : Nat} (h : T[id]? = some (1000000 * (4 + 1) + n)) (hn : n < 1000000) : jcell1 g T r id = .inl (g.2.1 4, n, .inr (.inl (fun j => Int64.ofInt (r j)))) := by
  have e : T.getD id 99 = 1000000 * (4 + 1) + n := by rw [List.getD_eq_getElem?_getD, h]; rfl
  have e1 : (1000000 * (4 + 1) + n) / 1000000 - 1 = 4 := by omega
  have e2 : (1000000 * (4 + 1) + n) % 1000000 = n := by omega
  unfold jcell1; rw [e, if_neg (by omega), e1, e2, if_neg (by omega), if_pos (by omega)]
theorem jcell1_refs {g : jG} {T : List Nat} {r : Int → Int} {id ty n : Nat} (h : T[id]? = some (1000000 * (ty + 1) + n)) (hn : n < 1000000) (ht : 5 ≤ ty) : jcell1 g T r id = .inl (g.2.1 ty, n, .inr (.inr (.inr (.inr (fun j => jrf1 g.2.2 (r j)))))) := by
  have e : T.getD id 99 = 1000000 * (ty + 1) + n := by rw [List.getD_eq_getElem?_getD, h]; rfl
  have e1 : (1000000 * (ty + 1) + n) / 1000000 - 1 = ty := by omega
  have e2 : (1000000 * (ty + 1) + n) % 1000000 = n := by omega
  unfold jcell1; rw [e, if_neg (by omega), e1, e2, if_neg (by omega), if_neg (by omega)]
theorem jfs1_get {b k c : Nat} {r : Int → Int} {L : List Nat} (h : L[k]? = some c) : (jfs1 b r L)[k]? = some (jfld1 b r k c) := by
  have hl : k < L.length := (List.getElem?_eq_some_iff.mp h).1
  have e : L.getD k 0 = c := by rw [List.getD_eq_getElem?_getD, h]; rfl
  rw [← e]
  unfold jfs1
  rw [List.getElem?_map, List.getElem?_range hl]; rfl
theorem jfs1_len {b : Nat} {r : Int → Int} {L : List Nat} : (jfs1 b r L).length = L.length := by simp [jfs1]
theorem jfs1_set {b k c : Nat} {r r' : Int → Int} {L : List Nat} (h : L[k]? = some c) (hr : ∀ j : Nat, j ≠ k → r' (j : Int) = r (j : Int)) : (jfs1 b r L).set k (jfld1 b r' k c) = jfs1 b r' L := by
  have hl : k < L.length := (List.getElem?_eq_some_iff.mp h).1
  apply List.ext_getElem?
  intro j
  by_cases hj : j = k
  · subst hj
    rw [List.getElem?_set_self (by rw [jfs1_len]; exact hl), jfs1_get h]
  · rw [List.getElem?_set_ne (fun z => hj z.symm)]
    by_cases hl2 : j < L.length
    · have h2 : L[j]? = some L[j] := List.getElem?_eq_getElem hl2
      rw [jfs1_get h2, jfs1_get h2]
      have h3 := hr j hj
      congr 1
      unfold jfld1
      split <;> first | rfl | rw [h3]
    · rw [List.getElem?_eq_none (by rw [jfs1_len]; omega), List.getElem?_eq_none (by rw [jfs1_len]; omega)]
/-- a field's first value, by its type -/
def jtc (ty : FieldType) (c : Nat) : Bool := match ty with
  | .int => c == 0
  | .boolean => c == 0
  | .long => c == 1
  | .object _ => decide (2 ≤ c)
  | .array _ => decide (2 ≤ c)
  | _ => false
theorem jtc_ok {ty : FieldType} {c b : Nat} {x : Int → Int} {j : Nat} (h : jtc ty c = true) (h0 : c < 2 → x j = 0) (h1 : 2 ≤ c → x j = -1) : defaultValue ty = jfld1 b x j c := by
  unfold jtc at h
  split at h
  · have hc : c = 0 := by simpa using h
    subst hc
    show Value.int 0 = .int (Int32.ofInt (x j))
    rw [h0 (by omega)]; rfl
  · have hc : c = 0 := by simpa using h
    subst hc
    show Value.int 0 = .int (Int32.ofInt (x j))
    rw [h0 (by omega)]; rfl
  · have hc : c = 1 := by simpa using h
    subst hc
    show Value.long 0 = .long (Int64.ofInt (x j))
    rw [h0 (by omega)]; rfl
  · have hc : 2 ≤ c := by simpa using h
    have e : jfld1 b x j c = jv b (2, x j) := by
      match c, hc with
      | c + 2, _ => rfl
    rw [e, h1 hc]; rfl
  · have hc : 2 ≤ c := by simpa using h
    have e : jfld1 b x j c = jv b (2, x j) := by
      match c, hc with
      | c + 2, _ => rfl
    rw [e, h1 hc]; rfl
  · cases h

theorem jE1_go {s U : State} (hW : s.WarmedH U.vm) (h : jE1 s) : jE1 U := ⟨va_AO.moved hW.alike h.1, va_AO.moved hW.alike h.2.1, va_AO.moved hW.alike h.2.2.1, fun x hx => va_Nw.warmM hW (h.2.2.2 x hx)⟩
theorem jE1_same {s U : State} (hv : s.vm = U.vm) (h : jE1 s) : jE1 U := ⟨va_AO.moved (by rw [hv]; exact Vm.Alike.refl _) h.1, va_AO.moved (by rw [hv]; exact Vm.Alike.refl _) h.2.1, va_AO.moved (by rw [hv]; exact Vm.Alike.refl _) h.2.2.1, fun x hx => va_Nw.same rfl hv (h.2.2.2 x hx)⟩
theorem jH1_grow {g : jG} {T : List Nat} {M : jMem} {H H1 : Heap} (hH : jH1 g T M H) (z1 : H1.size = H.size + 1) (o1 : ∀ q, q < H.size → H1[q]? = H[q]?) (hc : va_at g.1 vwCl (g.2.2 + jn M, jcell1 g T (jdrow T (jn M)) (jn M)) H1) : jH1 g T (jnewM T M) H1 := by
  obtain ⟨hP, hz, h0⟩ := hH
  refine ⟨?_, by rw [z1, hz, jnewM_n h0]; omega, jnewM_0 h0⟩
  rw [jws1_new h0]
  have hk : ∀ (k : Nat) (x : Nat × va_E), (jws1 g T M)[k]? = some x → H1[x.1]? = H[x.1]? := fun k x hx => o1 x.1 ((hP k x hx).lt)
  refine (hP.kept hk).app (fun k x hx => ?_)
  have hz : k < 1 := (List.getElem?_eq_some_iff.mp hx).1
  rw [show k = 0 by omega] at hx
  cases hx
  exact hc
section Making
variable {l : Launch} {g : jG} {T : List Nat} {own : String} {cc : ByteArray} {nL n0 nE d : Nat} {K : Nat → jL → List jV → jMem → Int × jMem → Prop} {α : Type} {em : α → Int × jMem} {pc : Nat} {lv : jL} {st : List jV} {M : jMem} {t : Option α}
theorem y_iconst (hR : jR1 l g T own cc nL n0 nE d K) {n : Int} (hd : decode cc pc = .ok (.iconst n, 1)) (hn : jin32 n = true) (k : jZ K em (pc + 1) lv ((0, n) :: st) M t) : jZ K em pc lv st M t := by
  obtain ⟨p, e, s, m, args, below, meth, c, rfl, hx, hb, hml, hown, hts, hlk, hrt, hK, hin, hE1, hbs⟩ := hR
  intro a ha ls H locs hl hH hn0 hnE hS c1 c2 c3
  exact lv_iconst hx hb hd rfl (k a ha ls H locs hl hH hn0 hnE hS c1 (jc_cons (jin32_ok hn) c2) c3)
theorem y_bipush (hR : jR1 l g T own cc nL n0 nE d K) {n : Int} (hd : decode cc pc = .ok (.bipush n, 2)) (hn : jin8 n = true) (k : jZ K em (pc + 2) lv ((0, n) :: st) M t) : jZ K em pc lv st M t := by
  obtain ⟨p, e, s, m, args, below, meth, c, rfl, hx, hb, hml, hown, hts, hlk, hrt, hK, hin, hE1, hbs⟩ := hR
  intro a ha ls H locs hl hH hn0 hnE hS c1 c2 c3
  have h8 : -128 ≤ n ∧ n < 128 := by simpa [jin8] using hn
  have h3 : in32 n := by unfold in32; omega
  refine lv_bipush hx hb hd (v := Int32.ofInt n) ?_ (k a ha ls H locs hl hH hn0 hnE hS c1 (jc_cons h3 c2) c3)
  apply Int32.toInt_inj.mp
  rw [Int8.toInt_toInt32, i32_toInt' h3, Int8.toInt_ofInt_of_le (by omega) (by omega)]
theorem y_sipush (hR : jR1 l g T own cc nL n0 nE d K) {n : Int} (hd : decode cc pc = .ok (.sipush n, 3)) (hn : jin16 n = true) (k : jZ K em (pc + 3) lv ((0, n) :: st) M t) : jZ K em pc lv st M t := by
  obtain ⟨p, e, s, m, args, below, meth, c, rfl, hx, hb, hml, hown, hts, hlk, hrt, hK, hin, hE1, hbs⟩ := hR
  intro a ha ls H locs hl hH hn0 hnE hS c1 c2 c3
  have h8 : -32768 ≤ n ∧ n < 32768 := by simpa [jin16] using hn
  have h3 : in32 n := by unfold in32; omega
  refine lv_sipush hx hb hd (v := Int32.ofInt n) ?_ (k a ha ls H locs hl hH hn0 hnE hS c1 (jc_cons h3 c2) c3)
  apply Int32.toInt_inj.mp
  rw [Int16.toInt_toInt32, i32_toInt' h3, Int16.toInt_ofInt_of_le (by omega) (by omega)]
theorem y_iload_n (hR : jR1 l g T own cc nL n0 nE d K) {k0 : Fin 4} {i : Nat} {x : Int} (j : Nat) (hd : decode cc pc = .ok (.iload_n k0, 1)) (hi : (k0 : Nat) = i) (hv : lv[j]? = some (i, 0, x)) (k : jZ K em (pc + 1) lv ((0, x) :: st) M t) : jZ K em pc lv st M t := by
  obtain ⟨p, e, s, m, args, below, meth, c, rfl, hx, hb, hml, hown, hts, hlk, hrt, hK, hin, hE1, hbs⟩ := hR
  intro a ha ls H locs hl hH hn0 hnE hS c1 c2 c3
  exact lv_iload_n hx hb hd hi (lv_at hl j (jl_at hv)) (k a ha ls H locs hl hH hn0 hnE hS c1 (jc_cons (jl_can hv c1) c2) c3)
theorem y_aload_n (hR : jR1 l g T own cc nL n0 nE d K) {k0 : Fin 4} {i : Nat} {x : Int} (j : Nat) (hd : decode cc pc = .ok (.aload_n k0, 1)) (hi : (k0 : Nat) = i) (hv : lv[j]? = some (i, 2, x)) (h0 : 0 ≤ x) (k : jZ K em (pc + 1) lv ((2, x) :: st) M t) : jZ K em pc lv st M t := by
  obtain ⟨p, e, s, m, args, below, meth, c, rfl, hx, hb, hml, hown, hts, hlk, hrt, hK, hin, hE1, hbs⟩ := hR
  intro a ha ls H locs hl hH hn0 hnE hS c1 c2 c3
  have h1 := lv_at hl j (jl_at hv)
  have h2 := k a ha ls H locs hl hH hn0 hnE hS c1 (jc_cons (jl_can hv c1) c2) c3
  rw [List.map_cons] at h2
  rw [jv_ref h0] at h1 h2
  exact lv_aload_n hx hb hd hi h1 h2
theorem y_istore_n (hR : jR1 l g T own cc nL n0 nE d K) {k0 : Fin 4} {i : Nat} {x : Int} {lv' : jL} (hd : decode cc pc = .ok (.istore_n k0, 1)) (hi : (k0 : Nat) = i) (hn : i < nL) (hv : (i, 0, x) :: lv.filter (fun q => !(q.1 == i) && !(q.1 + 1 == i && q.2.1 == 1)) = lv') (k : jZ K em (pc + 1) lv' st M t) : jZ K em pc lv ((0, x) :: st) M t := by
  obtain ⟨p, e, s, m, args, below, meth, c, rfl, hx, hb, hml, hown, hts, hlk, hrt, hK, hin, hE1, hbs⟩ := hR
  intro a ha ls H locs hl hH hn0 hnE hS c1 c2 c3
  exact lv_istore_n hx hb hd hi hl hn (jl_st1 hv) (fun ls' hl' => k a ha ls' H locs hl' hH hn0 hnE hS (jl_stc hv (jc_hd c2) c1) (jc_tl c2) c3)
theorem y_iinc (hR : jR1 l g T own cc nL n0 nE d K) {i j : Nat} {n x : Int} {lv' : jL} (hd : decode cc pc = .ok (.iinc i n, 3)) (hj : lv[j]? = some (i, 0, x)) (hn : i < nL) (hv : (i, 0, w32 (x + n)) :: lv.filter (fun q => !(q.1 == i) && !(q.1 + 1 == i && q.2.1 == 1)) = lv') (k : jZ K em (pc + 3) lv' st M t) : jZ K em pc lv st M t := by
  obtain ⟨p, e, s, m, args, below, meth, c, rfl, hx, hb, hml, hown, hts, hlk, hrt, hK, hin, hE1, hbs⟩ := hR
  intro a ha ls H locs hl hH hn0 hnE hS c1 c2 c3
  exact lv_iinc hx hb hd hl (jl_at hj) (i32_add x n).symm hn (jl_st1 hv) (fun ls' hl' => k a ha ls' H locs hl' hH hn0 hnE hS (jl_stc hv (w32_in _) c1) c2 c3)
theorem y_dup (hR : jR1 l g T own cc nL n0 nE d K) {k0 : Nat} {x : Int} (hd : decode cc pc = .ok (.dup, 1)) (h0 : k0 ≠ 1) (k : jZ K em (pc + 1) lv ((k0, x) :: (k0, x) :: st) M t) : jZ K em pc lv ((k0, x) :: st) M t := by
  obtain ⟨p, e, s, m, args, below, meth, c, rfl, hx, hb, hml, hown, hts, hlk, hrt, hK, hin, hE1, hbs⟩ := hR
  intro a ha ls H locs hl hH hn0 hnE hS c1 c2 c3
  exact lv_dup hx hb hd (jv_c1 h0) (k a ha ls H locs hl hH hn0 hnE hS c1 (jc_cons (jc_hd c2) c2) c3)
theorem y_goto (hR : jR1 l g T own cc nL n0 nE d K) {off : Int} {tgt : Nat} (hd : decode cc pc = .ok (.goto off, 3)) (ht : (pc : Int) + off = (tgt : Int)) (k : jZ K em tgt lv st M t) : jZ K em pc lv st M t := by
  obtain ⟨p, e, s, m, args, below, meth, c, rfl, hx, hb, hml, hown, hts, hlk, hrt, hK, hin, hE1, hbs⟩ := hR
  intro a ha ls H locs hl hH hn0 hnE hS c1 c2 c3
  exact lv_goto hx hb hd ht (k a ha ls H locs hl hH hn0 hnE hS c1 c2 c3)
theorem y_icmpge (hR : jR1 l g T own cc nL n0 nE d K) {x y : Int} {off : Int} {tgt : Nat} {A B : Option α} (hd : decode cc pc = .ok (.if_icmp .ge off, 3)) (ht : (pc : Int) + off = (tgt : Int)) (kt : jZ K em tgt lv st M B) (kf : jZ K em (pc + 3) lv st M A) : jZ K em pc lv ((0, y) :: (0, x) :: st) M (if x < y then A else B) := by
  obtain ⟨p, e, s, m, args, below, meth, c, rfl, hx, hb, hml, hown, hts, hlk, hrt, hK, hin, hE1, hbs⟩ := hR
  intro a ha ls H locs hl hH hn0 hnE hS c1 c2 c3
  have hl0 := i32_le (jc_hd c2) (jc_hd (jc_tl c2))
  refine lv_icmp_ge (x := Int32.ofInt x) (y := Int32.ofInt y) hx hb hd ht (fun h => ?_) (fun h => ?_)
  · have hh : ¬ x < y := by have h2 := hl0.mp h; omega
    exact kt a (by rw [if_neg hh] at ha; exact ha) ls H locs hl hH hn0 hnE hS c1 (jc_tl (jc_tl c2)) c3
  · have hh : x < y := by have h2 : ¬ y ≤ x := fun z => h (hl0.mpr z); omega
    exact kf a (by rw [if_pos hh] at ha; exact ha) ls H locs hl hH hn0 hnE hS c1 (jc_tl (jc_tl c2)) c3
theorem y_pick (hR : jR1 l g T own cc nL n0 nE d K) {lv' : jL} (ks : List Nat) (h : ks.filterMap (fun k => lv[k]?) = lv') (k : jZ K em pc lv' st M t) : jZ K em pc lv st M t := by
  obtain ⟨p, e, s, m, args, below, meth, c, rfl, hx, hb, hml, hown, hts, hlk, hrt, hK, hin, hE1, hbs⟩ := hR
  intro a ha ls H locs hl hH hn0 hnE hS c1 c2 c3
  refine k a ha ls H locs (lv_sub hl ks ?_) hH hn0 hnE hS ?_ c2 c3
  · rw [← h]
    unfold lv_pick
    rw [List.map_filterMap]
    congr 1
    funext q
    rw [List.getElem?_map]
  · intro v hv
    rw [← h] at hv
    obtain ⟨q, _, hq⟩ := List.mem_filterMap.mp hv
    exact c1 v (List.mem_of_getElem? hq)
theorem y_obj (hR : jR1 l g T own cc nL n0 nE d K) {x : Int} {idx : Nat} (h0 : 0 ≤ x) (w1 : Cond.methodLink own idx Lib.objectInit ∈ lw_g) (w2 : Cond.instanceMethod Lib.objectInit ∈ lw_g) (w3 : Cond.code Lib.objectInit ⟨#[0xb1]⟩ 1 none ∈ lw_g) (hd1 : 1 ≤ d) (hrest : jcs st ≤ 8) (hd : decode cc pc = .ok (.invokespecial idx, 3)) (k : jZ K em (pc + 3) lv st M t) : jZ K em pc lv ((2, x) :: st) M t := by
  obtain ⟨p, e, s, m, args, below, meth, c, rfl, hx, hb, hml, hown, hts, hlk, hrt, hK, hin, hE1, hbs⟩ := hR
  intro a ha ls H locs hl hH hn0 hnE hS c1 c2 c3
  rw [List.map_cons, jv_ref h0]
  refine W.objInit hx hb hown (hts _ w1) (hts _ w2) (hts _ w3) rfl (by rw [hml]; exact hl.1) rfl hd hd1 ?_ (k a ha ls H locs hl hH hn0 hnE hS c1 (jc_tl c2) c3)
  have h9 := lv_room (m := m) (pc := pc) (ls := ls) (rest := Value.ref (g.2.2 + x.toNat) :: st.map (jv g.2.2)) (st := st.map (jv g.2.2)) (by rw [jcs_sum]; exact hrest)
  show _ + 12 ≤ 64 * d
  omega
theorem y_return (hR : jR1 l g T own cc nL n0 nE d K) {x : Int} {v : α} (hd : decode cc pc = .ok (.return_, 1)) (hn : jn M = nE) (he : em v = (x, M)) : jZ K em pc lv [] M (some v) := by
  obtain ⟨p, e, s, m, args, below, meth, c, rfl, hx, hb, hml, hown, hts, hlk, hrt, hK, hin, hE1, hbs⟩ := hR
  intro a ha ls H locs hl hH hn0 hnE hS c1 c2 c3
  cases ha
  rw [hn]
  exact W.vret hx hb hrt (fun t0 ht0 hW => ⟨by rw [he]; exact ⟨rfl, by rw [ht0]; exact hH, hn, c3⟩, hS.F ht0⟩) hS.2.2 hd hlk
theorem y_new (hR : jR1 l g T own cc nL n0 nE d K) {ci idx N : Nat} {C : String} {Tb : u_T} {ty : Nat → FieldType} {f : jMem → Option α} (hc : vwCl[ci]? = some (C, Tb, N)) (hw : ∀ w ∈ u_ws C Tb N, w ∈ lw_g) (hty : ∀ k, k < N → parseFieldDescriptor (Tb k).2.2.1 = some (ty k)) (hci : ci < 100) (hN : (jFL ci).length = N) (hcd : ∀ k, k < N → jtc (ty k) ((jFL ci).getD k 0) = true) (w1 : Cond.classLink own idx C ∈ lw_g) (w2 : Cond.instantiable C N ∈ lw_g) (w3 : Cond.initialized C ∈ lw_g) (hn : jn M < nE ∧ T[jn M]? = some ci) (hd : decode cc pc = .ok (.new idx, 3)) (kk : ∀ M', jZ K em (pc + 3) lv ((2, M (-1) 0) :: st) M' (f M')) : jZ K em pc lv st M (jlt (jnewM T M) f) := by
  obtain ⟨p, e, s, m, args, below, meth, c, rfl, hx, hb, hml, hown, hts, hlk, hrt, hK, hin, hE1, hbs⟩ := hR
  intro a ha ls H locs hl hH hn0 hnE hS c1 c2 c3
  have hKn := hK.1 ci _ hc
  have hne : ((jn M : Nat) : Int) = M (-1) 0 := by have := hH.2.2; unfold jn; omega
  have hsz : jsz T (jn M) = N := by
    have e : T.getD (jn M) 99 = ci := by rw [List.getD_eq_getElem?_getD, hn.2]; rfl
    unfold jsz; rw [e, if_pos hci, hN]
  have hm1 : jss T (jn M) ≤ jss T nE := jss_mono hnE
  have hm2 : jss T (jn M + 1) ≤ jss T nE := jss_mono (by omega)
  have hm3 : jss T n0 ≤ jss T (jn M) := jss_mono hn0
  have hm4 : jss T (jn M + 1) = jss T (jn M) + jsz T (jn M) := rfl
  refine W.newcK hx hb hown (hts _ w1) (hts _ w2) (hts _ w3) rfl hd (by show jn M - n0 + 1 ≤ nE - n0; omega) (by show jss T (jn M) - jss T n0 + N ≤ jss T nE - jss T n0; omega) hKn.2.1 rfl fun H1 kC hkC e1 z1 o1 => ?_
  have hH1 : jH1 g T (jnewM T M) H1 := by
    refine jH1_grow hH z1 o1 ?_
    rw [jcell1_obj hn.2 hci]
    refine ⟨_, hc, ?_⟩
    have e2 : H.size = g.2.2 + jn M := hH.2.1
    rw [e2] at e1
    refine (u_born ty hts hw hKn hkC e1 hty).to (fun j hj => ?_)
    have hg : (jFL ci)[j]? = some ((jFL ci).getD j 0) := by
      rw [List.getD_eq_getElem?_getD, List.getElem?_eq_getElem (by omega)]; rfl
    rw [jtc_ok (b := g.2.2) (x := jdrow T (jn M)) (j := j) (hcd j hj) (fun h => ?_) (fun h => ?_)]
    · have h9 := jfs1_get (b := g.2.2) (r := jdrow T (jn M)) hg
      have h10 : (jfs1 g.2.2 (jdrow T (jn M)) (jFL ci)).getD j .null = jfld1 g.2.2 (jdrow T (jn M)) j ((jFL ci).getD j 0) := by
        rw [List.getD_eq_getElem?_getD (l := jfs1 g.2.2 (jdrow T (jn M)) (jFL ci)), h9]; rfl
      exact h10.symm
    · unfold jdrow
      rw [show ((j : Int).toNat) = j by omega, jcd_obj hn.2 hci hg, if_pos h]
    · unfold jdrow
      rw [show ((j : Int).toNat) = j by omega, jcd_obj hn.2 hci hg, if_neg (by omega)]
  have e3 : jn (jnewM T M) = jn M + 1 := jnewM_n hH.2.2
  have h2 := kk _ a ha ls H1 locs hl hH1 (by omega) (by omega) ⟨Nat.le_trans hS.1 (by omega), fun x h1 h2 => (o1 x (Nat.lt_of_lt_of_le h1 hS.1)).trans (hS.2.1 x h1 h2), hS.2.2⟩ c1 (jc_cons trivial c2) (jok_new hH.2.2 c3)
  rw [List.map_cons, jv_ref hH.2.2] at h2
  have e4 : jn M - n0 + 1 = jn (jnewM T M) - n0 := by omega
  have e5 : jss T (jn M) - jss T n0 + N = jss T (jn (jnewM T M)) - jss T n0 := by rw [e3]; omega
  rw [e4, e5, hH.2.1]
  exact h2

theorem y_newa0 (hR : jR1 l g T own cc nL n0 nE d K) {len : Nat} {x : Int} {f : jMem → Option α} (w1 : Cond.arrayClass .int ∈ lw_g) (hx1 : (len : Int) = x) (hlen : len < 1000000) (hn : jn M < nE ∧ T[jn M]? = some (1000000 * (0 + 1) + len)) (hd : decode cc pc = .ok (.newarray .int, 2)) (kk : ∀ M', jZ K em (pc + 2) lv ((2, M (-1) 0) :: st) M' (f M')) : jZ K em pc lv ((0, x) :: st) M (jlt (jnewM T M) f) := by
  obtain ⟨p, e, s, m, args, below, meth, c, rfl, hx, hb, hml, hown, hts, hlk, hrt, hK, hin, hE1, hbs⟩ := hR
  intro a ha ls H locs hl hH hn0 hnE hS c1 c2 c3
  subst hx1
  have hin : in32 (len : Int) := jc_hd c2
  have hsz : jsz T (jn M) = len := by
    have e : T.getD (jn M) 99 = 1000000 * (0 + 1) + len := by rw [List.getD_eq_getElem?_getD, hn.2]; rfl
    unfold jsz; rw [e, if_neg (by omega)]; omega
  have hm2 : jss T (jn M + 1) ≤ jss T nE := jss_mono (by omega)
  have hm3 : jss T n0 ≤ jss T (jn M) := jss_mono hn0
  have hm4 : jss T (jn M + 1) = jss T (jn M) + jsz T (jn M) := rfl
  refine va_newaK (atype := .int) (n := Int32.ofInt (len : Int)) (N := len) hx hb (hts _ w1) rfl hd rfl (by rw [i32_lt0 hin]; omega) (by rw [i32_cl hin]; omega) (by show len * 4 ≤ 536870912; omega) (by show jn M - n0 + 1 ≤ nE - n0; omega) (by show jss T (jn M) - jss T n0 + len ≤ jss T nE - jss T n0; omega) rfl fun H1 cA e1 z1 o1 hAr hNm => ?_
  have hcA : g.2.1 0 = cA := by
    have h3 := (hK.2 0 _ (rfl : (jtys g)[0]? = some (g.2.1 0, .int))).2
    have h4 : s.vm.findClass ("[" ++ (FieldType.toString .int)) = some (g.2.1 0) := h3
    exact Option.some.inj (h4.symm.trans hNm)
  have hH1 : jH1 g T (jnewM T M) H1 := by
    refine jH1_grow hH z1 o1 ?_
    rw [jcell1_int hn.2 hlen (by decide), hcA]
    show H1[g.2.2 + jn M]? = some (vp_cell cA (len, .inl (fun (j : Nat) => Int32.ofInt (jdrow T (jn M) j))))
    rw [← hH.2.1, e1, vp_cell_i]
    congr 2
    funext j
    have e6 : jdrow T (jn M) (j : Int) = 0 := by unfold jdrow; rw [jcd_int hn.2 hlen (by decide), if_pos (by decide)]
    rw [e6]; rfl
  have e3 : jn (jnewM T M) = jn M + 1 := jnewM_n hH.2.2
  have h2 := kk _ a ha ls H1 locs hl hH1 (by omega) (by omega) ⟨Nat.le_trans hS.1 (by omega), fun x h1 h2 => (o1 x (Nat.lt_of_lt_of_le h1 hS.1)).trans (hS.2.1 x h1 h2), hS.2.2⟩ c1 (jc_cons trivial (jc_tl c2)) (jok_new hH.2.2 c3)
  rw [List.map_cons, jv_ref hH.2.2] at h2
  have e4 : jn M - n0 + 1 = jn (jnewM T M) - n0 := by omega
  have e5 : jss T (jn M) - jss T n0 + len = jss T (jn (jnewM T M)) - jss T n0 := by rw [e3]; omega
  rw [e4, e5, hH.2.1]
  exact h2

theorem y_newa1 (hR : jR1 l g T own cc nL n0 nE d K) {len : Nat} {x : Int} {f : jMem → Option α} (w1 : Cond.arrayClass .byte ∈ lw_g) (hx1 : (len : Int) = x) (hlen : len < 1000000) (hn : jn M < nE ∧ T[jn M]? = some (1000000 * (1 + 1) + len)) (hd : decode cc pc = .ok (.newarray .byte, 2)) (kk : ∀ M', jZ K em (pc + 2) lv ((2, M (-1) 0) :: st) M' (f M')) : jZ K em pc lv ((0, x) :: st) M (jlt (jnewM T M) f) := by
  obtain ⟨p, e, s, m, args, below, meth, c, rfl, hx, hb, hml, hown, hts, hlk, hrt, hK, hin, hE1, hbs⟩ := hR
  intro a ha ls H locs hl hH hn0 hnE hS c1 c2 c3
  subst hx1
  have hin : in32 (len : Int) := jc_hd c2
  have hsz : jsz T (jn M) = len := by
    have e : T.getD (jn M) 99 = 1000000 * (1 + 1) + len := by rw [List.getD_eq_getElem?_getD, hn.2]; rfl
    unfold jsz; rw [e, if_neg (by omega)]; omega
  have hm2 : jss T (jn M + 1) ≤ jss T nE := jss_mono (by omega)
  have hm3 : jss T n0 ≤ jss T (jn M) := jss_mono hn0
  have hm4 : jss T (jn M + 1) = jss T (jn M) + jsz T (jn M) := rfl
  refine va_newaK (atype := .byte) (n := Int32.ofInt (len : Int)) (N := len) hx hb (hts _ w1) rfl hd rfl (by rw [i32_lt0 hin]; omega) (by rw [i32_cl hin]; omega) (by show len * 1 ≤ 536870912; omega) (by show jn M - n0 + 1 ≤ nE - n0; omega) (by show jss T (jn M) - jss T n0 + len ≤ jss T nE - jss T n0; omega) rfl fun H1 cA e1 z1 o1 hAr hNm => ?_
  have hcA : g.2.1 1 = cA := by
    have h3 := (hK.2 1 _ (rfl : (jtys g)[1]? = some (g.2.1 1, .byte))).2
    have h4 : s.vm.findClass ("[" ++ (FieldType.toString .byte)) = some (g.2.1 1) := h3
    exact Option.some.inj (h4.symm.trans hNm)
  have hH1 : jH1 g T (jnewM T M) H1 := by
    refine jH1_grow hH z1 o1 ?_
    rw [jcell1_int hn.2 hlen (by decide), hcA]
    show H1[g.2.2 + jn M]? = some (vp_cell cA (len, .inl (fun (j : Nat) => Int32.ofInt (jdrow T (jn M) j))))
    rw [← hH.2.1, e1, vp_cell_i]
    congr 2
    funext j
    have e6 : jdrow T (jn M) (j : Int) = 0 := by unfold jdrow; rw [jcd_int hn.2 hlen (by decide), if_pos (by decide)]
    rw [e6]; rfl
  have e3 : jn (jnewM T M) = jn M + 1 := jnewM_n hH.2.2
  have h2 := kk _ a ha ls H1 locs hl hH1 (by omega) (by omega) ⟨Nat.le_trans hS.1 (by omega), fun x h1 h2 => (o1 x (Nat.lt_of_lt_of_le h1 hS.1)).trans (hS.2.1 x h1 h2), hS.2.2⟩ c1 (jc_cons trivial (jc_tl c2)) (jok_new hH.2.2 c3)
  rw [List.map_cons, jv_ref hH.2.2] at h2
  have e4 : jn M - n0 + 1 = jn (jnewM T M) - n0 := by omega
  have e5 : jss T (jn M) - jss T n0 + len = jss T (jn (jnewM T M)) - jss T n0 := by rw [e3]; omega
  rw [e4, e5, hH.2.1]
  exact h2

theorem y_newa2 (hR : jR1 l g T own cc nL n0 nE d K) {len : Nat} {x : Int} {f : jMem → Option α} (w1 : Cond.arrayClass .short ∈ lw_g) (hx1 : (len : Int) = x) (hlen : len < 1000000) (hn : jn M < nE ∧ T[jn M]? = some (1000000 * (2 + 1) + len)) (hd : decode cc pc = .ok (.newarray .short, 2)) (kk : ∀ M', jZ K em (pc + 2) lv ((2, M (-1) 0) :: st) M' (f M')) : jZ K em pc lv ((0, x) :: st) M (jlt (jnewM T M) f) := by
  obtain ⟨p, e, s, m, args, below, meth, c, rfl, hx, hb, hml, hown, hts, hlk, hrt, hK, hin, hE1, hbs⟩ := hR
  intro a ha ls H locs hl hH hn0 hnE hS c1 c2 c3
  subst hx1
  have hin : in32 (len : Int) := jc_hd c2
  have hsz : jsz T (jn M) = len := by
    have e : T.getD (jn M) 99 = 1000000 * (2 + 1) + len := by rw [List.getD_eq_getElem?_getD, hn.2]; rfl
    unfold jsz; rw [e, if_neg (by omega)]; omega
  have hm2 : jss T (jn M + 1) ≤ jss T nE := jss_mono (by omega)
  have hm3 : jss T n0 ≤ jss T (jn M) := jss_mono hn0
  have hm4 : jss T (jn M + 1) = jss T (jn M) + jsz T (jn M) := rfl
  refine va_newaK (atype := .short) (n := Int32.ofInt (len : Int)) (N := len) hx hb (hts _ w1) rfl hd rfl (by rw [i32_lt0 hin]; omega) (by rw [i32_cl hin]; omega) (by show len * 2 ≤ 536870912; omega) (by show jn M - n0 + 1 ≤ nE - n0; omega) (by show jss T (jn M) - jss T n0 + len ≤ jss T nE - jss T n0; omega) rfl fun H1 cA e1 z1 o1 hAr hNm => ?_
  have hcA : g.2.1 2 = cA := by
    have h3 := (hK.2 2 _ (rfl : (jtys g)[2]? = some (g.2.1 2, .short))).2
    have h4 : s.vm.findClass ("[" ++ (FieldType.toString .short)) = some (g.2.1 2) := h3
    exact Option.some.inj (h4.symm.trans hNm)
  have hH1 : jH1 g T (jnewM T M) H1 := by
    refine jH1_grow hH z1 o1 ?_
    rw [jcell1_int hn.2 hlen (by decide), hcA]
    show H1[g.2.2 + jn M]? = some (vp_cell cA (len, .inl (fun (j : Nat) => Int32.ofInt (jdrow T (jn M) j))))
    rw [← hH.2.1, e1, vp_cell_i]
    congr 2
    funext j
    have e6 : jdrow T (jn M) (j : Int) = 0 := by unfold jdrow; rw [jcd_int hn.2 hlen (by decide), if_pos (by decide)]
    rw [e6]; rfl
  have e3 : jn (jnewM T M) = jn M + 1 := jnewM_n hH.2.2
  have h2 := kk _ a ha ls H1 locs hl hH1 (by omega) (by omega) ⟨Nat.le_trans hS.1 (by omega), fun x h1 h2 => (o1 x (Nat.lt_of_lt_of_le h1 hS.1)).trans (hS.2.1 x h1 h2), hS.2.2⟩ c1 (jc_cons trivial (jc_tl c2)) (jok_new hH.2.2 c3)
  rw [List.map_cons, jv_ref hH.2.2] at h2
  have e4 : jn M - n0 + 1 = jn (jnewM T M) - n0 := by omega
  have e5 : jss T (jn M) - jss T n0 + len = jss T (jn (jnewM T M)) - jss T n0 := by rw [e3]; omega
  rw [e4, e5, hH.2.1]
  exact h2

theorem y_newa3 (hR : jR1 l g T own cc nL n0 nE d K) {len : Nat} {x : Int} {f : jMem → Option α} (w1 : Cond.arrayClass .boolean ∈ lw_g) (hx1 : (len : Int) = x) (hlen : len < 1000000) (hn : jn M < nE ∧ T[jn M]? = some (1000000 * (3 + 1) + len)) (hd : decode cc pc = .ok (.newarray .boolean, 2)) (kk : ∀ M', jZ K em (pc + 2) lv ((2, M (-1) 0) :: st) M' (f M')) : jZ K em pc lv ((0, x) :: st) M (jlt (jnewM T M) f) := by
  obtain ⟨p, e, s, m, args, below, meth, c, rfl, hx, hb, hml, hown, hts, hlk, hrt, hK, hin, hE1, hbs⟩ := hR
  intro a ha ls H locs hl hH hn0 hnE hS c1 c2 c3
  subst hx1
  have hin : in32 (len : Int) := jc_hd c2
  have hsz : jsz T (jn M) = len := by
    have e : T.getD (jn M) 99 = 1000000 * (3 + 1) + len := by rw [List.getD_eq_getElem?_getD, hn.2]; rfl
    unfold jsz; rw [e, if_neg (by omega)]; omega
  have hm2 : jss T (jn M + 1) ≤ jss T nE := jss_mono (by omega)
  have hm3 : jss T n0 ≤ jss T (jn M) := jss_mono hn0
  have hm4 : jss T (jn M + 1) = jss T (jn M) + jsz T (jn M) := rfl
  refine va_newaK (atype := .boolean) (n := Int32.ofInt (len : Int)) (N := len) hx hb (hts _ w1) rfl hd rfl (by rw [i32_lt0 hin]; omega) (by rw [i32_cl hin]; omega) (by show len * 1 ≤ 536870912; omega) (by show jn M - n0 + 1 ≤ nE - n0; omega) (by show jss T (jn M) - jss T n0 + len ≤ jss T nE - jss T n0; omega) rfl fun H1 cA e1 z1 o1 hAr hNm => ?_
  have hcA : g.2.1 3 = cA := by
    have h3 := (hK.2 3 _ (rfl : (jtys g)[3]? = some (g.2.1 3, .boolean))).2
    have h4 : s.vm.findClass ("[" ++ (FieldType.toString .boolean)) = some (g.2.1 3) := h3
    exact Option.some.inj (h4.symm.trans hNm)
  have hH1 : jH1 g T (jnewM T M) H1 := by
    refine jH1_grow hH z1 o1 ?_
    rw [jcell1_int hn.2 hlen (by decide), hcA]
    show H1[g.2.2 + jn M]? = some (vp_cell cA (len, .inl (fun (j : Nat) => Int32.ofInt (jdrow T (jn M) j))))
    rw [← hH.2.1, e1, vp_cell_i]
    congr 2
    funext j
    have e6 : jdrow T (jn M) (j : Int) = 0 := by unfold jdrow; rw [jcd_int hn.2 hlen (by decide), if_pos (by decide)]
    rw [e6]; rfl
  have e3 : jn (jnewM T M) = jn M + 1 := jnewM_n hH.2.2
  have h2 := kk _ a ha ls H1 locs hl hH1 (by omega) (by omega) ⟨Nat.le_trans hS.1 (by omega), fun x h1 h2 => (o1 x (Nat.lt_of_lt_of_le h1 hS.1)).trans (hS.2.1 x h1 h2), hS.2.2⟩ c1 (jc_cons trivial (jc_tl c2)) (jok_new hH.2.2 c3)
  rw [List.map_cons, jv_ref hH.2.2] at h2
  have e4 : jn M - n0 + 1 = jn (jnewM T M) - n0 := by omega
  have e5 : jss T (jn M) - jss T n0 + len = jss T (jn (jnewM T M)) - jss T n0 := by rw [e3]; omega
  rw [e4, e5, hH.2.1]
  exact h2

theorem y_newa4 (hR : jR1 l g T own cc nL n0 nE d K) {len : Nat} {x : Int} {f : jMem → Option α} (w1 : Cond.arrayClass .long ∈ lw_g) (hx1 : (len : Int) = x) (hlen : len < 1000000) (hn : jn M < nE ∧ T[jn M]? = some (1000000 * (4 + 1) + len)) (hd : decode cc pc = .ok (.newarray .long, 2)) (kk : ∀ M', jZ K em (pc + 2) lv ((2, M (-1) 0) :: st) M' (f M')) : jZ K em pc lv ((0, x) :: st) M (jlt (jnewM T M) f) := by
  obtain ⟨p, e, s, m, args, below, meth, c, rfl, hx, hb, hml, hown, hts, hlk, hrt, hK, hin, hE1, hbs⟩ := hR
  intro a ha ls H locs hl hH hn0 hnE hS c1 c2 c3
  subst hx1
  have hin : in32 (len : Int) := jc_hd c2
  have hsz : jsz T (jn M) = len := by
    have e : T.getD (jn M) 99 = 1000000 * (4 + 1) + len := by rw [List.getD_eq_getElem?_getD, hn.2]; rfl
    unfold jsz; rw [e, if_neg (by omega)]; omega
  have hm2 : jss T (jn M + 1) ≤ jss T nE := jss_mono (by omega)
  have hm3 : jss T n0 ≤ jss T (jn M) := jss_mono hn0
  have hm4 : jss T (jn M + 1) = jss T (jn M) + jsz T (jn M) := rfl
  refine va_newaK (atype := .long) (n := Int32.ofInt (len : Int)) (N := len) hx hb (hts _ w1) rfl hd rfl (by rw [i32_lt0 hin]; omega) (by rw [i32_cl hin]; omega) (by show len * 8 ≤ 536870912; omega) (by show jn M - n0 + 1 ≤ nE - n0; omega) (by show jss T (jn M) - jss T n0 + len ≤ jss T nE - jss T n0; omega) rfl fun H1 cA e1 z1 o1 hAr hNm => ?_
  have hcA : g.2.1 4 = cA := by
    have h3 := (hK.2 4 _ (rfl : (jtys g)[4]? = some (g.2.1 4, .long))).2
    have h4 : s.vm.findClass ("[" ++ (FieldType.toString .long)) = some (g.2.1 4) := h3
    exact Option.some.inj (h4.symm.trans hNm)
  have hH1 : jH1 g T (jnewM T M) H1 := by
    refine jH1_grow hH z1 o1 ?_
    rw [jcell1_long hn.2 hlen, hcA]
    show H1[g.2.2 + jn M]? = some (vp_cell cA (len, .inr (.inl (fun (j : Nat) => Int64.ofInt (jdrow T (jn M) j)))))
    rw [← hH.2.1, e1, vp_cell_l]
    congr 2
    funext j
    have e6 : jdrow T (jn M) (j : Int) = 0 := by unfold jdrow; rw [jcd_long hn.2 hlen, if_pos (by decide)]
    rw [e6]; rfl
  have e3 : jn (jnewM T M) = jn M + 1 := jnewM_n hH.2.2
  have h2 := kk _ a ha ls H1 locs hl hH1 (by omega) (by omega) ⟨Nat.le_trans hS.1 (by omega), fun x h1 h2 => (o1 x (Nat.lt_of_lt_of_le h1 hS.1)).trans (hS.2.1 x h1 h2), hS.2.2⟩ c1 (jc_cons trivial (jc_tl c2)) (jok_new hH.2.2 c3)
  rw [List.map_cons, jv_ref hH.2.2] at h2
  have e4 : jn M - n0 + 1 = jn (jnewM T M) - n0 := by omega
  have e5 : jss T (jn M) - jss T n0 + len = jss T (jn (jnewM T M)) - jss T n0 := by rw [e3]; omega
  rw [e4, e5, hH.2.1]
  exact h2

theorem y_newq5 (hR : jR1 l g T own cc nL n0 nE d K) {len idx : Nat} {x : Int} {f : jMem → Option α} (w1 : Cond.classLink own idx RX5 ∈ lw_g) (hx1 : (len : Int) = x) (hlen : len < 1000000) (hn : jn M < nE ∧ T[jn M]? = some (1000000 * (5 + 1) + len)) (hd : decode cc pc = .ok (.anewarray idx, 3)) (kk : ∀ M', jZ K em (pc + 3) lv ((2, M (-1) 0) :: st) M' (f M')) : jZ K em pc lv ((0, x) :: st) M (jlt (jnewM T M) f) := by
  obtain ⟨p, e, s, m, args, below, meth, c, rfl, hx, hb, hml, hown, hts, hlk, hrt, hK, hin, hE1, hbs⟩ := hR
  intro a ha ls H locs hl hH hn0 hnE hS c1 c2 c3
  subst hx1
  have hin : in32 (len : Int) := jc_hd c2
  have hcl : (Int32.ofInt (len : Int)).toNatClampNeg = len := by rw [i32_cl hin]; omega
  have hsz : jsz T (jn M) = len := by
    have e : T.getD (jn M) 99 = 1000000 * (5 + 1) + len := by rw [List.getD_eq_getElem?_getD, hn.2]; rfl
    unfold jsz; rw [e, if_neg (by omega)]; omega
  have hm2 : jss T (jn M + 1) ≤ jss T nE := jss_mono (by omega)
  have hm3 : jss T n0 ≤ jss T (jn M) := jss_mono hn0
  have hm4 : jss T (jn M + 1) = jss T (jn M) + jsz T (jn M) := rfl
  refine W.anew (n := Int32.ofInt (len : Int)) hx hb hown (hts _ w1) (va_AO.use hE1.1) rfl hd rfl (by rw [i32_lt0 hin]; omega) (by rw [hcl]; omega) (by show jn M - n0 + 1 ≤ nE - n0; omega) (by rw [hcl]; show jss T (jn M) - jss T n0 + len ≤ jss T nE - jss T n0; omega) fun cA kA comp f1 f2 f3 f4 => ?_
  rw [hcl]
  generalize hH1 : H.push ({ cls := cA, slots := Array.replicate len .null, vm := .none } : Cell) = H1
  have z1 : H1.size = H.size + 1 := by rw [← hH1, Array.size_push]
  have e1 : H1[H.size]? = some (arrV cA len (fun _ => .null)) := by rw [← hH1, Array.getElem?_push_size, ← arrV_new]
  have o1 : ∀ q : Nat, q < H.size → H1[q]? = H[q]? := fun q hq => by rw [← hH1, Array.getElem?_push, if_neg (Nat.ne_of_lt hq)]
  have hcA : g.2.1 5 = cA := by
    obtain ⟨_, _, _, _, _, h4⟩ := (hK.2 5 _ (rfl : (jtys g)[5]? = some (g.2.1 5, .object RX5))).2
    exact Option.some.inj (h4.symm.trans f1)
  have hH1 : jH1 g T (jnewM T M) H1 := by
    refine jH1_grow hH z1 o1 ?_
    rw [jcell1_refs hn.2 hlen (by decide), hcA]
    show H1[g.2.2 + jn M]? = some (vp_cell cA (len, .inr (.inr (.inr (.inr (fun (j : Nat) => jrf1 g.2.2 (jdrow T (jn M) j)))))))
    rw [← hH.2.1, e1, vp_cell_q]
    congr 2
    funext j
    have e6 : jdrow T (jn M) (j : Int) = -1 := by
      have e7 : T.getD (jn M) 99 = 1000000 * (5 + 1) + len := by rw [List.getD_eq_getElem?_getD, hn.2]; rfl
      have e8 : jcd T (jn M) (j : Int).toNat = 2 := by
        unfold jcd
        rw [e7, if_neg (by omega), if_neg (by omega), if_neg (by omega)]
      unfold jdrow
      rw [e8]; rfl
    rw [e6]; rfl
  have e3 : jn (jnewM T M) = jn M + 1 := jnewM_n hH.2.2
  have h2 := kk _ a ha ls H1 locs hl hH1 (by omega) (by omega) ⟨Nat.le_trans hS.1 (by omega), fun x h1 h2 => (o1 x (Nat.lt_of_lt_of_le h1 hS.1)).trans (hS.2.1 x h1 h2), hS.2.2⟩ c1 (jc_cons trivial (jc_tl c2)) (jok_new hH.2.2 c3)
  rw [List.map_cons, jv_ref hH.2.2] at h2
  have e4 : jn M - n0 + 1 = jn (jnewM T M) - n0 := by omega
  have e5 : jss T (jn M) - jss T n0 + len = jss T (jn (jnewM T M)) - jss T n0 := by rw [e3]; omega
  rw [e4, e5, hH.2.1]
  exact h2

theorem y_newq6 (hR : jR1 l g T own cc nL n0 nE d K) {len idx : Nat} {x : Int} {f : jMem → Option α} (w1 : Cond.classLink own idx RX9 ∈ lw_g) (hx1 : (len : Int) = x) (hlen : len < 1000000) (hn : jn M < nE ∧ T[jn M]? = some (1000000 * (6 + 1) + len)) (hd : decode cc pc = .ok (.anewarray idx, 3)) (kk : ∀ M', jZ K em (pc + 3) lv ((2, M (-1) 0) :: st) M' (f M')) : jZ K em pc lv ((0, x) :: st) M (jlt (jnewM T M) f) := by
  obtain ⟨p, e, s, m, args, below, meth, c, rfl, hx, hb, hml, hown, hts, hlk, hrt, hK, hin, hE1, hbs⟩ := hR
  intro a ha ls H locs hl hH hn0 hnE hS c1 c2 c3
  subst hx1
  have hin : in32 (len : Int) := jc_hd c2
  have hcl : (Int32.ofInt (len : Int)).toNatClampNeg = len := by rw [i32_cl hin]; omega
  have hsz : jsz T (jn M) = len := by
    have e : T.getD (jn M) 99 = 1000000 * (6 + 1) + len := by rw [List.getD_eq_getElem?_getD, hn.2]; rfl
    unfold jsz; rw [e, if_neg (by omega)]; omega
  have hm2 : jss T (jn M + 1) ≤ jss T nE := jss_mono (by omega)
  have hm3 : jss T n0 ≤ jss T (jn M) := jss_mono hn0
  have hm4 : jss T (jn M + 1) = jss T (jn M) + jsz T (jn M) := rfl
  refine W.anew (n := Int32.ofInt (len : Int)) hx hb hown (hts _ w1) (va_AO.use hE1.2.1) rfl hd rfl (by rw [i32_lt0 hin]; omega) (by rw [hcl]; omega) (by show jn M - n0 + 1 ≤ nE - n0; omega) (by rw [hcl]; show jss T (jn M) - jss T n0 + len ≤ jss T nE - jss T n0; omega) fun cA kA comp f1 f2 f3 f4 => ?_
  rw [hcl]
  generalize hH1 : H.push ({ cls := cA, slots := Array.replicate len .null, vm := .none } : Cell) = H1
  have z1 : H1.size = H.size + 1 := by rw [← hH1, Array.size_push]
  have e1 : H1[H.size]? = some (arrV cA len (fun _ => .null)) := by rw [← hH1, Array.getElem?_push_size, ← arrV_new]
  have o1 : ∀ q : Nat, q < H.size → H1[q]? = H[q]? := fun q hq => by rw [← hH1, Array.getElem?_push, if_neg (Nat.ne_of_lt hq)]
  have hcA : g.2.1 6 = cA := by
    obtain ⟨_, _, _, _, _, h4⟩ := (hK.2 6 _ (rfl : (jtys g)[6]? = some (g.2.1 6, .object RX9))).2
    exact Option.some.inj (h4.symm.trans f1)
  have hH1 : jH1 g T (jnewM T M) H1 := by
    refine jH1_grow hH z1 o1 ?_
    rw [jcell1_refs hn.2 hlen (by decide), hcA]
    show H1[g.2.2 + jn M]? = some (vp_cell cA (len, .inr (.inr (.inr (.inr (fun (j : Nat) => jrf1 g.2.2 (jdrow T (jn M) j)))))))
    rw [← hH.2.1, e1, vp_cell_q]
    congr 2
    funext j
    have e6 : jdrow T (jn M) (j : Int) = -1 := by
      have e7 : T.getD (jn M) 99 = 1000000 * (6 + 1) + len := by rw [List.getD_eq_getElem?_getD, hn.2]; rfl
      have e8 : jcd T (jn M) (j : Int).toNat = 2 := by
        unfold jcd
        rw [e7, if_neg (by omega), if_neg (by omega), if_neg (by omega)]
      unfold jdrow
      rw [e8]; rfl
    rw [e6]; rfl
  have e3 : jn (jnewM T M) = jn M + 1 := jnewM_n hH.2.2
  have h2 := kk _ a ha ls H1 locs hl hH1 (by omega) (by omega) ⟨Nat.le_trans hS.1 (by omega), fun x h1 h2 => (o1 x (Nat.lt_of_lt_of_le h1 hS.1)).trans (hS.2.1 x h1 h2), hS.2.2⟩ c1 (jc_cons trivial (jc_tl c2)) (jok_new hH.2.2 c3)
  rw [List.map_cons, jv_ref hH.2.2] at h2
  have e4 : jn M - n0 + 1 = jn (jnewM T M) - n0 := by omega
  have e5 : jss T (jn M) - jss T n0 + len = jss T (jn (jnewM T M)) - jss T n0 := by rw [e3]; omega
  rw [e4, e5, hH.2.1]
  exact h2

theorem y_newq7 (hR : jR1 l g T own cc nL n0 nE d K) {len idx : Nat} {x : Int} {f : jMem → Option α} (w1 : Cond.classLink own idx RX7 ∈ lw_g) (hx1 : (len : Int) = x) (hlen : len < 1000000) (hn : jn M < nE ∧ T[jn M]? = some (1000000 * (7 + 1) + len)) (hd : decode cc pc = .ok (.anewarray idx, 3)) (kk : ∀ M', jZ K em (pc + 3) lv ((2, M (-1) 0) :: st) M' (f M')) : jZ K em pc lv ((0, x) :: st) M (jlt (jnewM T M) f) := by
  obtain ⟨p, e, s, m, args, below, meth, c, rfl, hx, hb, hml, hown, hts, hlk, hrt, hK, hin, hE1, hbs⟩ := hR
  intro a ha ls H locs hl hH hn0 hnE hS c1 c2 c3
  subst hx1
  have hin : in32 (len : Int) := jc_hd c2
  have hcl : (Int32.ofInt (len : Int)).toNatClampNeg = len := by rw [i32_cl hin]; omega
  have hsz : jsz T (jn M) = len := by
    have e : T.getD (jn M) 99 = 1000000 * (7 + 1) + len := by rw [List.getD_eq_getElem?_getD, hn.2]; rfl
    unfold jsz; rw [e, if_neg (by omega)]; omega
  have hm2 : jss T (jn M + 1) ≤ jss T nE := jss_mono (by omega)
  have hm3 : jss T n0 ≤ jss T (jn M) := jss_mono hn0
  have hm4 : jss T (jn M + 1) = jss T (jn M) + jsz T (jn M) := rfl
  refine W.anew (n := Int32.ofInt (len : Int)) hx hb hown (hts _ w1) (va_AO.use hE1.2.2.1) rfl hd rfl (by rw [i32_lt0 hin]; omega) (by rw [hcl]; omega) (by show jn M - n0 + 1 ≤ nE - n0; omega) (by rw [hcl]; show jss T (jn M) - jss T n0 + len ≤ jss T nE - jss T n0; omega) fun cA kA comp f1 f2 f3 f4 => ?_
  rw [hcl]
  generalize hH1 : H.push ({ cls := cA, slots := Array.replicate len .null, vm := .none } : Cell) = H1
  have z1 : H1.size = H.size + 1 := by rw [← hH1, Array.size_push]
  have e1 : H1[H.size]? = some (arrV cA len (fun _ => .null)) := by rw [← hH1, Array.getElem?_push_size, ← arrV_new]
  have o1 : ∀ q : Nat, q < H.size → H1[q]? = H[q]? := fun q hq => by rw [← hH1, Array.getElem?_push, if_neg (Nat.ne_of_lt hq)]
  have hcA : g.2.1 7 = cA := by
    obtain ⟨_, _, _, _, _, h4⟩ := (hK.2 7 _ (rfl : (jtys g)[7]? = some (g.2.1 7, .object RX7))).2
    exact Option.some.inj (h4.symm.trans f1)
  have hH1 : jH1 g T (jnewM T M) H1 := by
    refine jH1_grow hH z1 o1 ?_
    rw [jcell1_refs hn.2 hlen (by decide), hcA]
    show H1[g.2.2 + jn M]? = some (vp_cell cA (len, .inr (.inr (.inr (.inr (fun (j : Nat) => jrf1 g.2.2 (jdrow T (jn M) j)))))))
    rw [← hH.2.1, e1, vp_cell_q]
    congr 2
    funext j
    have e6 : jdrow T (jn M) (j : Int) = -1 := by
      have e7 : T.getD (jn M) 99 = 1000000 * (7 + 1) + len := by rw [List.getD_eq_getElem?_getD, hn.2]; rfl
      have e8 : jcd T (jn M) (j : Int).toNat = 2 := by
        unfold jcd
        rw [e7, if_neg (by omega), if_neg (by omega), if_neg (by omega)]
      unfold jdrow
      rw [e8]; rfl
    rw [e6]; rfl
  have e3 : jn (jnewM T M) = jn M + 1 := jnewM_n hH.2.2
  have h2 := kk _ a ha ls H1 locs hl hH1 (by omega) (by omega) ⟨Nat.le_trans hS.1 (by omega), fun x h1 h2 => (o1 x (Nat.lt_of_lt_of_le h1 hS.1)).trans (hS.2.1 x h1 h2), hS.2.2⟩ c1 (jc_cons trivial (jc_tl c2)) (jok_new hH.2.2 c3)
  rw [List.map_cons, jv_ref hH.2.2] at h2
  have e4 : jn M - n0 + 1 = jn (jnewM T M) - n0 := by omega
  have e5 : jss T (jn M) - jss T n0 + len = jss T (jn (jnewM T M)) - jss T n0 := by rw [e3]; omega
  rw [e4, e5, hH.2.1]
  exact h2

theorem y_puti (hR : jR1 l g T own cc nL n0 nE d K) {ci k idx cq : Nat} {q j x : Int} {ty : FieldType} {f : jMem → Option α} (hF : jP ci k own idx ty) (hq : jk T q ci) (hqn : q < M (-1) 0) (hci : ci < 100) (hfl : (jFL ci)[k]? = some 0) (hj : ((k : Nat) : Int) = j) (hn : narrow ty (.int (Int32.ofInt x)) = .int (Int32.ofInt x)) (hf : fits ty (.int (Int32.ofInt x)) = true) (hd : decode cc pc = .ok (.putfield idx, 3)) (kk : ∀ M', jZ K em (pc + 3) lv st M' (f M')) : jZ K em pc lv ((0, x) :: (2, q) :: st) M (jlt (up M q j x) f) := by
  obtain ⟨p, e, s, m, args, below, meth, c, rfl, hx, hb, hml, hown, hts, hlk, hrt, hK, hin, hE1, hbs⟩ := hR
  intro a ha ls H locs hl hH hn0 hnE hS c1 c2 c3
  obtain ⟨C, Tb, N, ty0, hc, hin1, hk, hlink, hty, hnm, hfin, hdsc⟩ := hF
  have hq0 := hq.1
  have hqe : ((q.toNat : Nat) : Int) = q := Int.toNat_of_nonneg hq.1
  have hqn2 : q.toNat < jn M := by unfold jn; omega
  have he0 := jws1_get (g := g) (T := T) (M := M) hqn2
  rw [jcell1_obj hq.2 hci] at he0
  have hap := va_apart (own := own) hts hin1 ty0 hty hnm hK hc
  obtain ⟨r, h1, cell, q1, q2, q3, q4⟩ := hH.1 q.toNat _ he0
  have hr : r = (C, Tb, N) := Option.some.inj (h1.symm.trans hc)
  subst hr
  obtain ⟨hSl, hfc, kC, hkC, hkind⟩ := hK.1 ci _ hc
  obtain ⟨cf, kf, fi, f0, hi, hsl⟩ := hSl k hk
  have hlay := hts _ (hin1 _ (u_in_lay hk))
  unfold u_lay at hlay
  have hst := (u_facts hfc hkC (u_lays hts hin1 hk) hi).1
  rw [List.map_cons, List.map_cons, jv_ref hq.1]
  rw [if_neg (by rw [hfin]; decide)] at hlay
  have h6 := u_store (v := jv g.2.2 (0, x)) hfc hkC hkind hlay hi hdsc hn hf
  refine W.putK hx hb (f := f0) ⟨hown, hts _ hlink, ⟨_, _, _, hi⟩, hst⟩ (by rw [q2]; exact h6) q1 q3 (by rw [hsl]; exact k2_hasslot (q4 k hk)) rfl rfl hd fun H1 e1 e2 e3 => ?_
  rw [hsl] at e1 ⊢
  have hlen : k < (jfs1 g.2.2 (M (q.toNat : Nat)) (jFL ci)).length := by rw [jfs1_len]; exact (List.getElem?_eq_some_iff.mp hfl).1
  have hP1 := hH.1.set (jws1_D g T M) he0 (e := .inr (ci, (jfs1 g.2.2 (M (q.toNat : Nat)) (jFL ci)).set k (jv g.2.2 (0, x)))) ⟨_, hc, t_OB.to (V := updV (vp_V _) k (jv g.2.2 (0, x))) ⟨_, e1, q2, q3, t_set q4 hap hk _⟩ (fun i _ => vp_updV_set hlen _ i)⟩ e3
  have e0 : (up M q j x) (q.toNat : Nat) = fun j' => if j' = j then x else M q j' := by rw [hqe, up_eq]
  have e4 : jfld1 g.2.2 ((up M q j x) (q.toNat : Nat)) k 0 = jv g.2.2 (0, x) := by
    rw [e0, ← hj]
    simp only [jfld1, if_true]
    try rfl
  have em1 : up M q j x (-1) 0 = M (-1) 0 := by rw [up_ne (by omega)]
  have en : jn (up M q j x) = jn M := by unfold jn; rw [em1]
  rw [← e4, jfs1_set hfl (fun i hi => by rw [e0, hqe, ← hj]; dsimp only; rw [if_neg (by omega)]), ← jcell1_obj (g := g) hq.2 hci, jws1_set hqn2 em1 (fun i hi => up_ne (by omega))] at hP1
  have hok : jok T (up M q j x) := by
    have h3 := jok_up (id := q.toNat) (j := k) c3 (x := x) (by rw [jcd_obj hq.2 hci hfl]; exact jc_hd c2)
    rw [hqe, hj] at h3
    exact h3
  have key : ∀ locs1, va_S (jA1 g) s.heap H1 locs1 → W p l e (jrm1 T n0 nE d) s m args below meth c H1 locs1 (jn M - n0) (jss T (jn M) - jss T n0) (MQ below (jQ1 g T nE (em a)) args s (nE - n0) (jss T nE - jss T n0) (jA1 g)) (F0 m (pc + 3) ls (st.map (jv g.2.2))) := fun locs1 hS1 => by
    have h2 := kk _ a ha ls H1 locs1 hl ⟨hP1, by rw [e2, en]; exact hH.2.1, by rw [em1]; exact hH.2.2⟩ (by rw [en]; exact hn0) (by rw [en]; exact hnE) hS1 c1 (jc_tl (jc_tl c2)) hok
    rw [en] at h2
    exact h2
  exact key _ (hS.put e2 e3 (show g.2.2 ≤ g.2.2 + q.toNat by omega))

theorem y_putr (hR : jR1 l g T own cc nL n0 nE d K) {ci k idx cq : Nat} {q j x : Int} {ty : FieldType} {f : jMem → Option α} (hF : jPF ci k own idx ty) (hq : jk T q ci) (hqn : q < M (-1) 0) (hci : ci < 100) (hfl : (jFL ci)[k]? = some (cq + 2)) (hj : ((k : Nat) : Int) = j) (h0 : 0 ≤ x) (hn : ∀ r : Nat, narrow ty (.ref r) = .ref r) (hf : ∀ r : Nat, fits ty (.ref r) = true) (hd : decode cc pc = .ok (.putfield idx, 3)) (kk : ∀ M', jZ K em (pc + 3) lv st M' (f M')) : jZ K em pc lv ((2, x) :: (2, q) :: st) M (jlt (up M q j x) f) := by
  obtain ⟨p, e, s, m, args, below, meth, c, rfl, hx, hb, hml, hown, hts, hlk, hrt, hK, hin, hE1, hbs⟩ := hR
  intro a ha ls H locs hl hH hn0 hnE hS c1 c2 c3
  obtain ⟨C, Tb, N, ty0, hc, hin1, hk, hlink, hty, hnm, hfin, hdsc, hdecl⟩ := hF
  have hq0 := hq.1
  have hqe : ((q.toNat : Nat) : Int) = q := Int.toNat_of_nonneg hq.1
  have hqn2 : q.toNat < jn M := by unfold jn; omega
  have he0 := jws1_get (g := g) (T := T) (M := M) hqn2
  rw [jcell1_obj hq.2 hci] at he0
  have hap := va_apart (own := own) hts hin1 ty0 hty hnm hK hc
  obtain ⟨r, h1, cell, q1, q2, q3, q4⟩ := hH.1 q.toNat _ he0
  have hr : r = (C, Tb, N) := Option.some.inj (h1.symm.trans hc)
  subst hr
  obtain ⟨hSl, hfc, kC, hkC, hkind⟩ := hK.1 ci _ hc
  obtain ⟨cf, kf, fi, f0, hi, hsl⟩ := hSl k hk
  have hlay := hts _ (hin1 _ (u_in_lay hk))
  unfold u_lay at hlay
  have hst := (u_facts hfc hkC (u_lays hts hin1 hk) hi).1
  rw [List.map_cons, List.map_cons, jv_ref hq.1]
  rw [if_pos hfin] at hlay
  have hcf : m.cls = cf := by
    obtain ⟨_, _, c', _, _, _, -, -, hf', -, -, -, hown2, -⟩ := Cond.laysFinal_spec hlay
    have e9 : c' = cf := by have h9 := hi.symm.trans hf'; simp at h9; exact h9.1.symm
    rw [hdecl] at hown2
    rw [← e9]; exact Option.some.inj (hown.symm.trans hown2)
  have h6 := u_fits (v := jv g.2.2 (2, x)) hfc hkC hkind (Or.inr hlay) hi hdsc (by rw [jv_ref h0]; exact hn _) (by rw [jv_ref h0]; exact hf _)
  refine W.putFinK hx hb hown (hts _ hlink) hi hst hcf hin (by rw [q2]; exact h6) q1 q3 (by rw [hsl]; exact k2_hasslot (q4 k hk)) rfl rfl hd fun H1 e1 e2 e3 => ?_
  rw [hsl] at e1 ⊢
  have hlen : k < (jfs1 g.2.2 (M (q.toNat : Nat)) (jFL ci)).length := by rw [jfs1_len]; exact (List.getElem?_eq_some_iff.mp hfl).1
  have hP1 := hH.1.set (jws1_D g T M) he0 (e := .inr (ci, (jfs1 g.2.2 (M (q.toNat : Nat)) (jFL ci)).set k (jv g.2.2 (2, x)))) ⟨_, hc, t_OB.to (V := updV (vp_V _) k (jv g.2.2 (2, x))) ⟨_, e1, q2, q3, t_set q4 hap hk _⟩ (fun i _ => vp_updV_set hlen _ i)⟩ e3
  have e0 : (up M q j x) (q.toNat : Nat) = fun j' => if j' = j then x else M q j' := by rw [hqe, up_eq]
  have e4 : jfld1 g.2.2 ((up M q j x) (q.toNat : Nat)) k (cq + 2) = jv g.2.2 (2, x) := by
    rw [e0, ← hj]
    simp only [jfld1, if_true]
    try rfl
  have em1 : up M q j x (-1) 0 = M (-1) 0 := by rw [up_ne (by omega)]
  have en : jn (up M q j x) = jn M := by unfold jn; rw [em1]
  rw [← e4, jfs1_set hfl (fun i hi => by rw [e0, hqe, ← hj]; dsimp only; rw [if_neg (by omega)]), ← jcell1_obj (g := g) hq.2 hci, jws1_set hqn2 em1 (fun i hi => up_ne (by omega))] at hP1
  have hok : jok T (up M q j x) := by
    have h3 := jok_up (id := q.toNat) (j := k) c3 (x := x) (by rw [jcd_obj hq.2 hci hfl]; trivial)
    rw [hqe, hj] at h3
    exact h3
  have key : ∀ locs1, va_S (jA1 g) s.heap H1 locs1 → W p l e (jrm1 T n0 nE d) s m args below meth c H1 locs1 (jn M - n0) (jss T (jn M) - jss T n0) (MQ below (jQ1 g T nE (em a)) args s (nE - n0) (jss T nE - jss T n0) (jA1 g)) (F0 m (pc + 3) ls (st.map (jv g.2.2))) := fun locs1 hS1 => by
    have h2 := kk _ a ha ls H1 locs1 hl ⟨hP1, by rw [e2, en]; exact hH.2.1, by rw [em1]; exact hH.2.2⟩ (by rw [en]; exact hn0) (by rw [en]; exact hnE) hS1 c1 (jc_tl (jc_tl c2)) hok
    rw [en] at h2
    exact h2
  exact key _ (hS.put e2 e3 (show g.2.2 ≤ g.2.2 + q.toNat by omega))

theorem y_getr (hR : jR1 l g T own cc nL n0 nE d K) {ci k idx cq : Nat} {q j : Int} (hF : jF ci k own idx) (hq : jk T q ci) (hqn : q < M (-1) 0) (hci : ci < 100) (hfl : (jFL ci)[k]? = some (cq + 2)) (hj : ((k : Nat) : Int) = j) (hd : decode cc pc = .ok (.getfield idx, 3)) (kk : jZ K em (pc + 3) lv ((2, M q j) :: st) M t) : jZ K em pc lv ((2, q) :: st) M t := by
  obtain ⟨p, e, s, m, args, below, meth, c, rfl, hx, hb, hml, hown, hts, hlk, hrt, hK, hin, hE1, hbs⟩ := hR
  intro a ha ls H locs hl hH hn0 hnE hS c1 c2 c3
  obtain ⟨C, Tb, N, hc, hin1, hk, hlink⟩ := hF
  have hq0 := hq.1
  have hqe : ((q.toNat : Nat) : Int) = q := Int.toNat_of_nonneg hq.1
  have hqn2 : q.toNat < jn M := by unfold jn; omega
  have he0 := jws1_get (g := g) (T := T) (M := M) hqn2
  rw [jcell1_obj hq.2 hci] at he0
  rw [List.map_cons, jv_ref hq.1]
  refine va_get (ci := ci) (C := C) (T := Tb) (N := N) hx hb hts hin1 hown hK hH.1 q.toNat he0 hc k hk (hts _ hlink) (fun _ h => h) (jfs1_get hfl) hd ?_
  have h2 := kk a ha ls H locs hl hH hn0 hnE hS c1 (jc_cons trivial (jc_tl c2)) c3
  rw [List.map_cons] at h2
  have e1 : jfld1 g.2.2 (M (q.toNat : Nat)) k (cq + 2) = jv g.2.2 (2, M q j) := by
    subst hj; rw [hqe]; rfl
  rw [e1]
  exact h2
theorem y_aast (hR : jR1 l g T own cc nL n0 nE d K) {ty n ci : Nat} {q i v : Int} {C : String} {r : vw_C} {f : jMem → Option α} (hty : 5 ≤ ty) (htys : (jtys g)[ty]? = some (g.2.1 ty, .object r.1)) (hq : ja T q ty n) (hqn : q < M (-1) 0) (hv : jk T v ci) (hvn : v < M (-1) 0) (hci : ci < 100) (hc : vwCl[ci]? = some r) (h0 : 0 ≤ i) (hn : i < (n : Int)) (hd : decode cc pc = .ok (.aastore, 1)) (kk : ∀ M', jZ K em (pc + 1) lv st M' (f M')) : jZ K em pc lv ((2, v) :: (0, i) :: (2, q) :: st) M (jlt (up M q i v) f) := by
  obtain ⟨p, e, s, m, args, below, meth, c, rfl, hx, hb, hml, hown, hts, hlk, hrt, hK, hin, hE1, hbs⟩ := hR
  intro a ha ls H locs hl hH hn0 hnE hS c1 c2 c3
  have hq0 := hq.1
  have hv0 := hv.1
  have hi0 : in32 i := jc_hd (jc_tl c2)
  have hqe : ((q.toNat : Nat) : Int) = q := Int.toNat_of_nonneg hq.1
  have hqn2 : q.toNat < jn M := by unfold jn; omega
  have hvn2 : v.toNat < jn M := by unfold jn; omega
  have he0 := jws1_get (g := g) (T := T) (M := M) hqn2
  rw [jcell1_refs hq.2.1 hq.2.2 hty] at he0
  have hev := jws1_get (g := g) (T := T) (M := M) hvn2
  rw [jcell1_obj hv.2 hci] at hev
  have hin := vp_in_ok hi0 h0 hn
  have hlt : (Int32.ofInt i).toNatClampNeg < n := Nat.not_le.mp fun z => hin (Or.inr z)
  obtain ⟨r', hr', cellV, g1, g2, g3, -⟩ := hH.1 v.toNat _ hev
  have hcls := (hK.1 ci r hc).2
  obtain ⟨kA, comp, k1, k2, k3, -⟩ := (hK.2 ty _ htys).2
  have hcomp : comp = g.1.1 ci := Option.some.inj (k3.symm.trans hcls.1)
  subst hcomp
  obtain ⟨kC, hkC, -⟩ := hcls.2
  rw [List.map_cons, List.map_cons, List.map_cons, jv_ref hq.1, jv_ref hv.1]
  refine W.aast (j := Int32.ofInt i) hx hb (hH.1 q.toNat _ he0) (fun q h => by cases h) (fun h => by cases h) k1 k2 rfl hkC ⟨fun z => hin (Or.inl z), by show _ < (arrV _ _ _).slots.size; rw [arrV_size]; exact hlt⟩ g1 (fun q h => by rw [g3] at h; cases h) (by rw [g2]; exact hkC) (by rw [g2]; exact va_assign hcls) rfl rfl hd fun H1 ee z oq => ?_
  have em1 : up M q i v (-1) 0 = M (-1) 0 := by rw [up_ne (by omega)]
  have en : jn (up M q i v) = jn M := by unfold jn; rw [em1]
  have e1 : jcell1 g T ((up M q i v) (q.toNat : Nat)) q.toNat = .inl (g.2.1 ty, n, .inr (.inr (.inr (.inr (va_up (fun j => jrf1 g.2.2 (M (q.toNat : Nat) j)) (Int32.ofInt i).toNatClampNeg (some (g.2.2 + v.toNat))))))) := by
    have e7 : (fun (j : Nat) => jrf1 g.2.2 ((fun j' => if j' = i then v else M q j') (j : Int))) = va_up (fun (j : Nat) => jrf1 g.2.2 (M q j)) i.toNat (some (g.2.2 + v.toNat)) := by
      funext j
      unfold va_up
      dsimp only
      by_cases hj : j = i.toNat
      · rw [if_pos hj, if_pos (by omega)]
        unfold jrf1
        rw [if_neg (by omega)]
      · rw [if_neg hj, if_neg (by omega)]
    rw [jcell1_refs hq.2.1 hq.2.2 hty, i32_cl hi0, hqe, up_eq, e7]
  have hP1 := hH.1.set (jws1_D g T M) he0 (e := jcell1 g T ((up M q i v) (q.toNat : Nat)) q.toNat) (by
    rw [e1]
    show H1[g.2.2 + q.toNat]? = some (vp_cell _ _)
    rw [ee, vp_cell_q, vp_cell_q, arrV_store]
    congr 2
    funext z
    by_cases hz : z = (Int32.ofInt i).toNatClampNeg
    · simp [va_up, hz, va_rf, updV]
    · simp [va_up, hz, updV]) oq
  rw [jws1_set hqn2 em1 (fun k hk => up_ne (by omega))] at hP1
  have hok : jok T (up M q i v) := by
    have h3 := jok_up (id := q.toNat) (j := i.toNat) c3 (x := v) (by rw [jcd_refs hq.2.1 hq.2.2 hty]; trivial)
    rw [hqe, Int.toNat_of_nonneg h0] at h3
    exact h3
  have key : ∀ locs1, va_S (jA1 g) s.heap H1 locs1 → W p l e (jrm1 T n0 nE d) s m args below meth c H1 locs1 (jn M - n0) (jss T (jn M) - jss T n0) (MQ below (jQ1 g T nE (em a)) args s (nE - n0) (jss T nE - jss T n0) (jA1 g)) (F0 m (pc + 1) ls (st.map (jv g.2.2))) := fun locs1 hS1 => by
    have h2 := kk _ a ha ls H1 locs1 hl ⟨hP1, by rw [z, en]; exact hH.2.1, by rw [em1]; exact hH.2.2⟩ (by rw [en]; exact hn0) (by rw [en]; exact hnE) hS1 c1 (jc_tl (jc_tl (jc_tl c2))) hok
    rw [en] at h2
    exact h2
  exact key _ (hS.put z oq (show g.2.2 ≤ g.2.2 + q.toNat by omega))

def jIm (y : MethodName) (cc : ByteArray) (mL : Nat) : Prop := Cond.instanceMethod y ∈ lw_g ∧ Cond.initialized y.cls ∈ lw_g ∧ Cond.code y cc mL none ∈ lw_g ∧ y.name = "<init>" ∧
  (y.cls ≠ "java/lang/invoke/MethodHandle" ∧ y.cls ≠ "java/lang/invoke/VarHandle" ∧ (parseMethodDescriptor y.desc).map (fun d => d.parameters.length) = some 0)
def jC1 (l : Launch) (g : jG) (T : List Nat) (y : MethodName) (cc : ByteArray) (nL n0 nE d : Nat) (q : Int) (M : jMem) (out : Int × jMem) : Prop :=
  0 ≤ q → jn M = n0 → n0 ≤ nE → jok T M → Met l y (.code y cc nL none :: lw_g) (jrm1 T n0 nE d) (va_Pc [.ref (g.2.2 + q.toNat)] (fun U => jH1 g T M U.heap ∧ va_K g.1 vwCl (jtys g) U ∧ jE1 U)) (jQ1 g T nE out) (nE - n0) (jss T nE - jss T n0) (jA1 g)
theorem jMet1 {y : MethodName} {q : Int} (hy : plainName y.cls = true) (ho : y.cls = own) (hni : y.name = "<init>") (hs : 1 ≤ nL) (body : ∀ K, jR1 l g T own cc nL n0 nE d K → jZ K em 0 [(0, 2, q)] [] M t) : ∀ a, t = some a → jC1 l g T y cc nL n0 nE d q M (em a) := by
  intro a ha hq0 hn hnE hok0
  refine Met.ofW (cc := cc) (maxL := nL) (ret := none) hy rfl ?_
  intro p e s m args below meth c s₁ B hml hv
  obtain ⟨rfl, hH, hK, hE⟩ := hv
  have hts0 := atoms_spec (ws := .code y cc nL none :: lw_g) B.pre
  have hown : s.vm.findClass own = some m.cls := ho ▸ findClass_of_methodNamed B.named
  have hin : meth.name = "<init>" := hni ▸ (name_of_methodNamed B.named B.method).1
  have hl := lv_entry ([Value.ref (g.2.2 + q.toNat)]) (n := nL) (by show 1 ≤ nL; exact hs)
  rw [lg_entry_eq]
  have h2 := body _ ⟨p, e, s, m, _, below, meth, c, rfl, B.exec, B.bytes, hml, hown, fun w hw => hts0 w (List.mem_cons_of_mem _ hw), B.notSynchronized, B.returns, hK, hin, hE, by rw [hH.2.1]; exact Nat.le_add_right _ _⟩ a ha _ s.heap [] (by rw [List.map_cons, List.map_nil]; show lv_has _ _ [(0, jv g.2.2 (2, q))]; rw [jv_ref hq0]; exact hl) hH (by omega) (by omega) va_S.rf (fun v hv => by
    rcases List.mem_cons.mp hv with rfl | h
    · trivial
    · cases h) (fun v hv => by cases hv) hok0
  rw [hn, Nat.sub_self, Nat.sub_self] at h2
  exact h2
theorem y_call (hR : jR1 l g T own cc nL n0 nE d K) {y : MethodName} {cc' : ByteArray} {mL d' idx n1 : Nat} {q : Int} {f : Option (Int × jMem)} {kt : jMem → Option α} (hy : jIm y cc' mL) (hnest : (own, idx, y) ∈ jNest) (hf : ∀ o, f = some o → jC1 l g T y cc' mL (jn M) n1 d' q M o) (h0 : 0 ≤ q) (hn1 : jn M ≤ n1 ∧ n1 ≤ nE) (hd' : d' + 1 ≤ d) (hmL : mL ≤ 45) (hrest : jcs st ≤ 8) (hd : decode cc pc = .ok (.invokespecial idx, 3)) (kk : ∀ M', jZ K em (pc + 3) lv st M' (kt M')) : jZ K em pc lv ((2, q) :: st) M (jbv f kt) := by
  obtain ⟨p, e, s, m, args, below, meth, c, rfl, hx, hb, hml, hown, hts, hlk, hrt, hK, hin, hE1, hbs⟩ := hR
  intro a ha ls H locs hl hH hn0 hnE hS c1 c2 c3
  cases hfo : f with
  | none => rw [hfo] at ha; cases (show (none : Option α) = some a from ha)
  | some o =>
  rw [hfo] at ha
  obtain ⟨w1, w2, w3, hyn, hdd⟩ := hy
  have hG : GoodIn lw_g (.code y cc' mL none :: lw_g) := jgood (fun w hw => by
    rcases List.mem_cons.mp hw with rfl | h
    · exact w3
    · exact h)
  have hm1 : jss T (jn M) ≤ jss T n1 := jss_mono hn1.1
  have hm2 : jss T n1 ≤ jss T nE := jss_mono hn1.2
  have hm3 : jss T n0 ≤ jss T (jn M) := jss_mono hn0
  rw [List.map_cons, jv_ref h0]
  have hrun := va_runIN (As := []) (rest := st.map (jv g.2.2)) (b := g.2.2 + q.toNat) (g := F0 m pc ls (Value.ref (g.2.2 + q.toNat) :: st.map (jv g.2.2))) (n := 0) (R := jrm1 T n0 nE d) (below := below) (e := e) (meth := meth) (locs := locs) (cells := jn M - n0) (slots := jss T (jn M) - jss T n0) (H := H) (host := RX11) ⟨hx, hb, hml, hown, hts⟩ (hf _ hfo h0 rfl hn1.1 c3) ⟨va_cnB 0 hts hG rfl rfl rfl (hE1.2.2.2 _ hnest) (hts _ w2) hdd ⟨hd', by show 8 + (mL + 11) + 64 * d' ≤ 64 * d; omega⟩, hyn, hts _ w1⟩ ⟨fun a U g' mk hq2 => ⟨hq2.1, hq2.2.1, va_K.moved (u := U) (U := U.calling g' mk a) (Vm.Alike.refl U.vm) hq2.2.2.1, jE1_same (s := U) rfl hq2.2.2.2⟩, fun U hU hW => ⟨rfl, by rw [hU]; exact hH, va_K.moved hW.alike hK, jE1_go hW hE1⟩⟩ rfl rfl hl.1 rfl (lv_room (by rw [jcs_sum]; exact hrest)) hd ⟨by show jn M - n0 + (n1 - jn M) ≤ nE - n0; omega, by show jss T (jn M) - jss T n0 + (jss T n1 - jss T (jn M)) ≤ jss T nE - jss T n0; omega⟩
  intro T0 hT X
  obtain ⟨v, st₀, t, T', L, h1, X', hL, e1, e2, ⟨⟨hv, hP, hcn, hok1⟩, hz, hk⟩, st1⟩ := hrun T0 hT X
  cases hv
  rw [h1] at hz hk
  have en : jn o.2 = n1 := hcn
  have h2 := kk o.2 a ha ls T'.heap (locs ++ L) hl (by rw [e1]; exact hP) (by omega) (by omega) ⟨Nat.le_trans hS.1 (by rw [e1]; exact hz), fun q h1 h2 => by rw [e1, hk q (Nat.lt_of_lt_of_le h1 hS.1) h2]; exact hS.2.1 q h1 h2, fun q hq => by
      rcases List.mem_append.mp hq with h | h
      · exact hS.2.2 q h
      · exact hL q h⟩ c1 (jc_tl c2) hok1
  have e4 : jn M - n0 + (n1 - jn M) = jn o.2 - n0 := by omega
  have e5 : jss T (jn M) - jss T n0 + (jss T n1 - jss T (jn M)) = jss T (jn o.2) - jss T n0 := by rw [en]; omega
  rw [e4, e5] at X'
  obtain ⟨t2, a1, b1⟩ := h2 T' rfl X'
  exact ⟨t2, st1 t2 a1, b1⟩
theorem y_callm (hR : jR1 l g T own cc nL n0 nE d K) {y : MethodName} {cc' : ByteArray} {mL d' idx n1 : Nat} {q : Int} {f : Option (Int × jMem)} {kt : jMem → Option α} (hy : jIm y cc' mL) (hlk' : Cond.methodLink own idx y ∈ lw_g) (hf : ∀ o, f = some o → jC1 l g T y cc' mL (jn M) n1 d' q M o) (h0 : 0 ≤ q) (hn1 : jn M ≤ n1 ∧ n1 ≤ nE) (hd' : d' + 1 ≤ d) (hmL : mL ≤ 45) (hrest : jcs st ≤ 8) (hd : decode cc pc = .ok (.invokespecial idx, 3)) (kk : ∀ M', jZ K em (pc + 3) lv st M' (kt M')) : jZ K em pc lv ((2, q) :: st) M (jbv f kt) := by
  obtain ⟨p, e, s, m, args, below, meth, c, rfl, hx, hb, hml, hown, hts, hlk, hrt, hK, hin, hE1, hbs⟩ := hR
  intro a ha ls H locs hl hH hn0 hnE hS c1 c2 c3
  cases hfo : f with
  | none => rw [hfo] at ha; cases (show (none : Option α) = some a from ha)
  | some o =>
  rw [hfo] at ha
  obtain ⟨w1, w2, w3, hyn, hdd⟩ := hy
  have hG : GoodIn lw_g (.code y cc' mL none :: lw_g) := jgood (fun w hw => by
    rcases List.mem_cons.mp hw with rfl | h
    · exact w3
    · exact h)
  have hm1 : jss T (jn M) ≤ jss T n1 := jss_mono hn1.1
  have hm2 : jss T n1 ≤ jss T nE := jss_mono hn1.2
  have hm3 : jss T n0 ≤ jss T (jn M) := jss_mono hn0
  rw [List.map_cons, jv_ref h0]
  have hrun := va_runI (As := []) (rest := st.map (jv g.2.2)) (b := g.2.2 + q.toNat) (g := F0 m pc ls (Value.ref (g.2.2 + q.toNat) :: st.map (jv g.2.2))) (n := 0) (R := jrm1 T n0 nE d) (below := below) (e := e) (meth := meth) (locs := locs) (cells := jn M - n0) (slots := jss T (jn M) - jss T n0) (H := H) ⟨hx, hb, hml, hown, hts⟩ (hf _ hfo h0 rfl hn1.1 c3) (cwI 0 hts hG rfl rfl rfl (hts _ w2) (hts _ hlk') (hts _ w1) hyn hdd ⟨hd', by show 8 + (mL + 11) + 64 * d' ≤ 64 * d; omega⟩) ⟨fun a U g' mk hq2 => ⟨hq2.1, hq2.2.1, va_K.moved (u := U) (U := U.calling g' mk a) (Vm.Alike.refl U.vm) hq2.2.2.1, jE1_same (s := U) rfl hq2.2.2.2⟩, fun U hU hW => ⟨rfl, by rw [hU]; exact hH, va_K.moved hW.alike hK, jE1_go hW hE1⟩⟩ rfl rfl hl.1 rfl (lv_room (by rw [jcs_sum]; exact hrest)) hd ⟨by show jn M - n0 + (n1 - jn M) ≤ nE - n0; omega, by show jss T (jn M) - jss T n0 + (jss T n1 - jss T (jn M)) ≤ jss T nE - jss T n0; omega⟩
  intro T0 hT X
  obtain ⟨v, st₀, t, T', L, h1, X', hL, e1, e2, ⟨⟨hv, hP, hcn, hok1⟩, hz, hk⟩, st1⟩ := hrun T0 hT X
  cases hv
  rw [h1] at hz hk
  have en : jn o.2 = n1 := hcn
  have h2 := kk o.2 a ha ls T'.heap (locs ++ L) hl (by rw [e1]; exact hP) (by omega) (by omega) ⟨Nat.le_trans hS.1 (by rw [e1]; exact hz), fun q h1 h2 => by rw [e1, hk q (Nat.lt_of_lt_of_le h1 hS.1) h2]; exact hS.2.1 q h1 h2, fun q hq => by
      rcases List.mem_append.mp hq with h | h
      · exact hS.2.2 q h
      · exact hL q h⟩ c1 (jc_tl c2) hok1
  have e4 : jn M - n0 + (n1 - jn M) = jn o.2 - n0 := by omega
  have e5 : jss T (jn M) - jss T n0 + (jss T n1 - jss T (jn M)) = jss T (jn o.2) - jss T n0 := by rw [en]; omega
  rw [e4, e5] at X'
  obtain ⟨t2, a1, b1⟩ := h2 T' rfl X'
  exact ⟨t2, st1 t2 a1, b1⟩

end Making
