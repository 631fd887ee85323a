/-! contracts, and calls of what has one -/
theorem lw_good : ∀ w ∈ lw_g, goodWord w = true := fun w hw => (List.mem_filter.mp hw).2
def jCt (l : Launch) (g : jG) (T : List Nat) (y : MethodName) (cc : ByteArray) (nL : Nat) (ret : Option FieldType) (rk d : Nat) (As : List jV) (M : jMem) (out : Int × jMem) : Prop :=
  (∀ v ∈ As, jcan v) → jok T M → Met l y (.code y cc nL ret :: lw_g) (jrm d) (va_Pc (As.map (jv g.2.2)) (fun U => jH g T M U.heap ∧ va_K g.1 vwCl (jtys g) U ∧ jE g T U)) (jQ g T rk out) 0 0 (jA g T)
def jbv {α : Type} (f : Option (Int × jMem)) (k : jMem → Option α) : Option α := f.bind fun o => k o.2
def jb1 {α : Type} (f : Option (Int × jMem)) (k : Int → jMem → Option α) : Option α := f.bind fun o => k o.1 o.2
def jargs : Nat → List jV → jL
  | _, [] => []
  | i, v :: vs => (i, v) :: jargs (if v.1 = 1 then i + 2 else i + 1) vs
def jcs : List jV → Nat
  | [] => 0
  | v :: vs => (if v.1 = 1 then 2 else 1) + jcs vs
theorem jv_cat2 (b : Nat) (v : jV) : (jv b v).category = if v.1 = 1 then 2 else 1 := by
  have h := jv_cat b v
  by_cases h1 : v.1 = 1
  · rw [if_pos h1]
    rw [show (v.1 == 1) = true by simp [h1]] at h
    simpa using h
  · rw [if_neg h1]
    obtain ⟨k, x⟩ := v
    exact jv_c1 h1
theorem jargs_ok (b : Nat) (vs : List jV) : ∀ i, (jargs i vs).map (jl b) = lv_args i (vs.map (jv b)) := by
  induction vs with
  | nil => intro i; rfl
  | cons v vs ih =>
    intro i
    show (i, jv b v) :: (jargs (if v.1 = 1 then i + 2 else i + 1) vs).map (jl b) = (i, jv b v) :: lv_args (if (jv b v).category = 2 then i + 2 else i + 1) (vs.map (jv b))
    rw [ih, jv_cat2]
    by_cases h : v.1 = 1
    · rw [if_pos h, if_pos h]; rfl
    · rw [if_neg h, if_neg h]; rfl
theorem jargs_can (vs : List jV) (h : ∀ v ∈ vs, jcan v) : ∀ i, ∀ v ∈ jargs i vs, jcan v.2 := by
  induction vs with
  | nil => intro i v hv; cases hv
  | cons w vs ih =>
    intro i v hv
    rcases List.mem_cons.mp hv with rfl | h2
    · exact h w List.mem_cons_self
    · exact ih (fun x hx => h x (List.mem_cons_of_mem _ hx)) _ v h2
theorem jcs_sl (b : Nat) (vs : List jV) : (lg_sl (vs.map (jv b))).length = jcs vs := by
  induction vs with
  | nil => rfl
  | cons v vs ih =>
    show (lg_sl (jv b v :: vs.map (jv b))).length = (if v.1 = 1 then 2 else 1) + jcs vs
    have h : lg_sl (jv b v :: vs.map (jv b)) = (if (jv b v).category = 2 then [Slot.val (jv b v), .second] else [.val (jv b v)]) ++ lg_sl (vs.map (jv b)) := rfl
    rw [h, List.length_append, ih, jv_cat2]
    by_cases h1 : v.1 = 1
    · rw [if_pos h1]; rfl
    · rw [if_neg h1]; rfl
theorem jcs_sum (b : Nat) (vs : List jV) : ((vs.map (jv b)).map fun v => v.category).sum = jcs vs := by
  induction vs with
  | nil => rfl
  | cons v vs ih =>
    show (jv b v).category + ((vs.map (jv b)).map fun v => v.category).sum = (if v.1 = 1 then 2 else 1) + jcs vs
    rw [ih, jv_cat2]
theorem jMet {l : Launch} {g : jG} {T : List Nat} {y : MethodName} {cc : ByteArray} {nL rk d : Nat} {ret : Option FieldType} {As : List jV} {M : jMem} {α : Type} {em : α → Int × jMem} {t : Option α} {L : jL} {own : String} (hy : plainName y.cls = true) (ho : y.cls = own) (hs : jcs As ≤ nL) (hL : jargs 0 As = L)
    (body : ∀ K, jR l g T own cc nL rk ret d K → jZ K em 0 L [] M t) : ∀ a, t = some a → jCt l g T y cc nL ret rk d As M (em a) := by
  intro a ha hcA hM
  refine Met.ofW (cc := cc) (maxL := nL) (ret := ret) hy rfl ?_
  intro p e s m args below meth c s₁ B hml hv
  obtain ⟨rfl, hH, hK, hE⟩ := hv
  have hts0 := atoms_spec (ws := .code y cc nL ret :: lw_g) B.pre
  have hown : s.vm.findClass own = some m.cls := ho ▸ findClass_of_methodNamed B.named
  have hl := lv_entry (As.map (jv g.2.2)) (n := nL) (by rw [jcs_sl]; exact hs)
  rw [lg_entry_eq]
  refine body _ ⟨p, e, s, m, _, below, meth, c, rfl, B.exec, B.bytes, hml, hown, fun w hw => hts0 w (List.mem_cons_of_mem _ hw), B.notSynchronized, B.returns, hK, hE⟩ a ha _ s.heap [] ?_ hH va_S.rf ?_ (fun v hv => by cases hv) hM
  · rw [← hL, jargs_ok]; exact hl
  · rw [← hL]; exact jargs_can As hcA 0
/-- what a method's words say: of an object's, of a class's own -/
def jVm (C : String) (y : MethodName) (cc : ByteArray) (mL : Nat) (ret : Option FieldType) (n : Nat) : Prop := Cond.instanceMethod y ∈ lw_g ∧ Cond.selects C y y ∈ lw_g ∧ Cond.initialized C ∈ lw_g ∧ Cond.code y cc mL ret ∈ lw_g ∧
  (y.cls = C ∧ y.cls ≠ "java/lang/invoke/MethodHandle" ∧ y.cls ≠ "java/lang/invoke/VarHandle" ∧ (parseMethodDescriptor y.desc).map (fun d => d.parameters.length) = some n)
def jSm (y : MethodName) (cc : ByteArray) (mL : Nat) (ret : Option FieldType) (n : Nat) : Prop := Cond.static y ∈ lw_g ∧ Cond.initialized y.cls ∈ lw_g ∧ Cond.code y cc mL ret ∈ lw_g ∧
  (y.cls ≠ "java/lang/invoke/MethodHandle" ∧ y.cls ≠ "java/lang/invoke/VarHandle" ∧ (parseMethodDescriptor y.desc).map (fun d => d.parameters.length) = some n)
theorem jgood {ws : List Cond} (h : ∀ w ∈ ws, w ∈ lw_g) : GoodIn lw_g ws := fun w hw => ⟨h w hw, good_of_word (lw_good w (h w hw))⟩
def jkb (T : List Nat) (q : Int) (ci : Nat) : Bool := decide (0 ≤ q) && (T[q.toNat]? == some ci)
def jnb (T : List Nat) (q : Int) (ci : Nat) : Bool := decide (q < 0) || jkb T q ci
theorem jkb_ok {T : List Nat} {q : Int} {ci : Nat} (h : jkb T q ci = true) : jk T q ci := by
  simp only [jkb, Bool.and_eq_true, decide_eq_true_eq, beq_iff_eq] at h; exact h
theorem jnb_ok {T : List Nat} {q : Int} {ci : Nat} (h : jnb T q ci = true) : q < 0 ∨ jk T q ci := by
  simp only [jnb, Bool.or_eq_true, decide_eq_true_eq] at h; exact h.imp id jkb_ok
theorem jnn {T : List Nat} {q : Int} {ci : Nat} (h : q < 0 ∨ jk T q ci) (h0 : 0 ≤ q) : jk T q ci := h.resolve_left (by omega)
theorem jk_of {T : List Nat} {ci cj o N : Nat} {oI : Int} {q : Int} (h : ∀ i < N, T[i]? = some ci → T[i + o]? = some cj) (hN : T.length = N ∧ (o : Int) = oI) (hq : jk T q ci) : jk T (q + oI) cj := by
  have h0 := hq.1
  have h1 := jk_lt hq
  refine ⟨by omega, ?_⟩
  have e : (q + oI).toNat = q.toNat + o := by omega
  rw [e]; exact h _ (by omega) hq.2
theorem ja_of {T : List Nat} {ci ty n o N : Nat} {oI : Int} {q : Int} (h : ∀ i < N, T[i]? = some ci → T[i + o]? = some (1000000 * (ty + 1) + n)) (hN : T.length = N ∧ (o : Int) = oI) (hn : n < 1000000) (hq : jk T q ci) : ja T (q + oI) ty n := by
  have h2 := jk_of h hN hq
  exact ⟨h2.1, h2.2, hn⟩
theorem je_of {T : List Nat} {ty ln cj o s N : Nat} {oI sI : Int} {q i : Int} (h : ∀ a < N, T[a]? = some (1000000 * (ty + 1) + ln) → ∀ j < ln, T[a + o + s * j]? = some cj) (hN : T.length = N ∧ (o : Int) = oI ∧ (s : Int) = sI) (hq : ja T q ty ln) (h0 : 0 ≤ i) (h1 : i < (ln : Int)) : jk T (q + oI + sI * i) cj := by
  obtain ⟨hN, rfl, rfl⟩ := hN
  have h2 := hq.1
  have h3 := ja_lt hq
  have hi : ((i.toNat : Nat) : Int) = i := Int.toNat_of_nonneg h0
  have hqe : ((q.toNat : Nat) : Int) = q := Int.toNat_of_nonneg h2
  have e : q + (o : Int) + (s : Int) * i = ((q.toNat + o + s * i.toNat : Nat) : Int) := by
    rw [Int.natCast_add, Int.natCast_add, Int.natCast_mul, hi, hqe]
  rw [e]
  exact ⟨Int.natCast_nonneg _, by rw [Int.toNat_natCast]; exact h _ (by omega) hq.2.1 _ (by omega)⟩
theorem nar_char {x : Int} (h : 0 ≤ x ∧ x < 65536) : narrow .char (.int (Int32.ofInt x)) = .int (Int32.ofInt x) := by
  show Value.int (Int32.ofInt x).toUInt32.toUInt16.toUInt32.toInt32 = _
  congr 1
  apply Int32.toBitVec_inj.mp
  apply BitVec.eq_of_toNat_eq
  have h1 : (Int32.ofInt x).toUInt32.toNat = x.toNat := by
    show (BitVec.ofInt 32 x).toNat = x.toNat
    rw [BitVec.toNat_ofInt]; omega
  show ((Int32.ofInt x).toUInt32.toUInt16.toUInt32).toNat = (Int32.ofInt x).toUInt32.toNat
  rw [UInt16.toNat_toUInt32, UInt32.toNat_toUInt16, h1]; omega
section Calls
variable {l : Launch} {g : jG} {T : List Nat} {own : String} {cc : ByteArray} {nL rk d : Nat} {ret : Option FieldType} {K : Nat → jL → List jV → jMem → Int × jMem → Prop} {α : Type} {em : α → Int × jMem} {pc : Nat} {lv : jL} {st st0 : List jV} {M : jMem} {t : Option α}
theorem z_join {β : Type} {B : β} {f : β → Option α} (P : β → Prop) (hB : P B) (k : ∀ j, P j → jZ K em pc lv st M (f j)) : jZ K em pc lv st M (jlt B f) := k B hB
theorem z_let1 {k0 : Nat} {x : Int} {f : Int → Option α} (k : ∀ y, jZ K em pc lv ((k0, y) :: st) M (f y)) : jZ K em pc lv ((k0, x) :: st) M (jlt x f) := k x
theorem z_cast {k0 : Nat} {x y : Int} (h : x = y) (k : jZ K em pc lv ((k0, y) :: st) M t) : jZ K em pc lv ((k0, x) :: st) M t := h ▸ k
theorem jran {p : Program} {e : Env} {R : Room} {s : State} {m : MethodId} {args : Array Value} {below : List Frame} {meth : Method} {c : Code} {H : Heap} {locs : List Loc} {Q : State → Prop} {ls : Array Slot} {sv rest : List Value} {rk' : Nat} {o : Int × jMem} {a' : Array Value}
    (hr : va_Run p l e R s m args below meth c H locs 0 0 0 0 (F0 m pc ls sv) rest (jQ g T rk' o a') (jA g T)) (hS : va_S (jA g T) s.heap H locs)
    (kk : ∀ (H1 : Heap) (locs1 : List Loc), jH g T o.2 H1 → va_S (jA g T) s.heap H1 locs1 → jcan (rk', o.1) → jok T o.2 → W p l e R s m args below meth c H1 locs1 0 0 Q (F0 m (pc + 3) ls ((jrv g.2.2 rk' o.1).toList ++ rest))) :
    W p l e R s m args below meth c H locs 0 0 Q (F0 m pc ls sv) := by
  intro T0 hT X
  obtain ⟨v, st₀, t, T', L, h0, X', hL, e1, e2, ⟨⟨hv, hP, hcn, hok⟩, hz, hk⟩, st⟩ := hr T0 hT X
  cases hv
  rw [h0] at hz hk
  obtain ⟨t2, a1, b1⟩ := kk T'.heap (locs ++ L) (by rw [e1]; exact hP) ⟨Nat.le_trans hS.1 (by rw [e1]; exact hz), fun q h1 h2 => by rw [e1, hk q (Nat.lt_of_lt_of_le h1 hS.1) h2]; exact hS.2.1 q h1 h2, fun q hq => by
      rcases List.mem_append.mp hq with h | h
      · exact hS.2.2 q h
      · exact hL q h⟩ hcn hok T' rfl X'
  exact ⟨t2, st t2 a1, b1⟩

theorem jcallv {p : Program} {e : Env} {s : State} {m : MethodId} {args : Array Value} {below : List Frame} {meth : Method} {c : Code} {H : Heap} {locs : List Loc} {Q : State → Prop} {ls : Array Slot} {y : MethodName} {cc' : ByteArray} {mL n d' rk' idx ci N' : Nat} {ret' : Option FieldType} {As : List jV} {q : Int} {C : String} {Tb : u_T} {o : Int × jMem}
    (hx : p.tables.exec = Jvm.exec) (hb : c.code = cc) (hml : c.maxLocals = nL) (hown : s.vm.findClass own = some m.cls) (hts : ∀ w ∈ lw_g, w.before args s = true) (hK : va_K g.1 vwCl (jtys g) s) (hE : jE g T s) (hls : ls.size = nL) (hH : jH g T M H) (hS : va_S (jA g T) s.heap H locs)
    (hy : jVm C y cc' mL ret' n) (hlk' : Cond.methodLink own idx y ∈ lw_g) (hq : jk T q ci) (hci : ci < 100) (hcl : vwCl[ci]? = some (C, Tb, N')) (hM : jCt l g T y cc' mL ret' rk' d' ((2, q) :: As) M o) (hn : As.length = n) (hd' : d' + 1 ≤ d) (hmL : mL ≤ 45) (hst : st0 = As.reverse ++ (2, q) :: st) (hrest : jcs st ≤ 8) (c2 : ∀ v ∈ st0, jcan v) (c3 : jok T M) (hd : decode cc pc = .ok (.invokevirtual idx, 3))
    (kk : ∀ (H1 : Heap) (locs1 : List Loc), jH g T o.2 H1 → va_S (jA g T) s.heap H1 locs1 → jcan (rk', o.1) → jok T o.2 → W p l e (jrm d) s m args below meth c H1 locs1 0 0 Q (F0 m (pc + 3) ls ((jrv g.2.2 rk' o.1).toList ++ st.map (jv g.2.2)))) :
    W p l e (jrm d) s m args below meth c H locs 0 0 Q (F0 m pc ls (st0.map (jv g.2.2))) := by
  have hcA : ∀ v ∈ (2, q) :: As, jcan v := by
    intro v hv
    rcases List.mem_cons.mp hv with rfl | h2
    · trivial
    · refine c2 v ?_
      rw [hst]
      exact List.mem_append_left _ (List.mem_reverse.mpr h2)
  obtain ⟨w1, w2, w3, w4, hdd⟩ := hy
  have hG : GoodIn lw_g (wsV own idx C y (.code y cc' mL ret' :: lw_g)) := jgood (fun w hw => by
    rcases List.mem_append.mp hw with h | h
    · rcases List.mem_cons.mp h with rfl | h
      · exact hlk'
      rcases List.mem_cons.mp h with rfl | h
      · exact w1
      rcases List.mem_cons.mp h with rfl | h
      · exact w2
      rcases List.mem_cons.mp h with rfl | h
      · exact w3
      cases h
    · rcases List.mem_cons.mp h with rfl | h
      · exact w4
      · exact h)
  refine jran (va_runV (As := As.map (jv g.2.2)) (rest := st.map (jv g.2.2)) (b := g.2.2 + q.toNat) (g := F0 m pc ls (st0.map (jv g.2.2))) (n := n) ⟨hx, hb, hml, hown, hts⟩ (hM hcA c3) (cwV n hts hG rfl rfl rfl hdd ⟨hd', ?_⟩) ⟨fun a U g' mk hq2 => ⟨hq2.1, hq2.2.1, va_K.moved (u := U) (U := U.calling g' mk a) (Vm.Alike.refl U.vm) hq2.2.2.1, jE_call hq2.2.2.2⟩, ?_, fun U hU hW => ⟨?_, by rw [hU]; exact hH, va_K.moved hW.alike hK, jE_go hE hW (fun q h1 h2 => by rw [hU]; exact hS.2.1 q h1 h2)⟩⟩ rfl (by rw [List.length_map]; exact hn) hls ?_ (lv_room (by rw [jcs_sum]; exact hrest)) hd ⟨Nat.le_refl _, Nat.le_refl _⟩) hS kk
  · show 8 + (mL + 11) + 64 * d' ≤ 64 * d
    omega
  · exact va_recv hK hH hcl (jws_get (jk_lt hq) |>.trans (by rw [jcell_obj hq.2 hci]))
  · rw [List.map_cons, jv_ref hq.1]
  · show st0.map (jv g.2.2) = _
    rw [hst, List.map_append, List.map_cons, jv_ref hq.1, List.map_reverse]
theorem jcalls {p : Program} {e : Env} {s : State} {m : MethodId} {args : Array Value} {below : List Frame} {meth : Method} {c : Code} {H : Heap} {locs : List Loc} {Q : State → Prop} {ls : Array Slot} {y : MethodName} {cc' : ByteArray} {mL n d' rk' idx : Nat} {ret' : Option FieldType} {As : List jV} {o : Int × jMem}
    (hx : p.tables.exec = Jvm.exec) (hb : c.code = cc) (hml : c.maxLocals = nL) (hown : s.vm.findClass own = some m.cls) (hts : ∀ w ∈ lw_g, w.before args s = true) (hK : va_K g.1 vwCl (jtys g) s) (hE : jE g T s) (hls : ls.size = nL) (hH : jH g T M H) (hS : va_S (jA g T) s.heap H locs)
    (hy : jSm y cc' mL ret' n) (hlk' : Cond.methodLink own idx y ∈ lw_g) (hM : jCt l g T y cc' mL ret' rk' d' As M o) (hn : As.length = n) (hd' : d' + 1 ≤ d) (hmL : mL ≤ 45) (hst : st0 = As.reverse ++ st) (hrest : jcs st ≤ 8) (c2 : ∀ v ∈ st0, jcan v) (c3 : jok T M) (hd : decode cc pc = .ok (.invokestatic idx, 3))
    (kk : ∀ (H1 : Heap) (locs1 : List Loc), jH g T o.2 H1 → va_S (jA g T) s.heap H1 locs1 → jcan (rk', o.1) → jok T o.2 → W p l e (jrm d) s m args below meth c H1 locs1 0 0 Q (F0 m (pc + 3) ls ((jrv g.2.2 rk' o.1).toList ++ st.map (jv g.2.2)))) :
    W p l e (jrm d) s m args below meth c H locs 0 0 Q (F0 m pc ls (st0.map (jv g.2.2))) := by
  have hcA : ∀ v ∈ As, jcan v := by
    intro v hv
    refine c2 v ?_
    rw [hst]
    exact List.mem_append_left _ (List.mem_reverse.mpr hv)
  obtain ⟨w1, w2, w4, hdd⟩ := hy
  have hG : GoodIn lw_g (va_wsS own idx y (.code y cc' mL ret' :: lw_g)) := jgood (fun w hw => by
    rcases List.mem_append.mp hw with h | h
    · rcases List.mem_cons.mp h with rfl | h
      · exact hlk'
      rcases List.mem_cons.mp h with rfl | h
      · exact w1
      rcases List.mem_cons.mp h with rfl | h
      · exact w2
      cases h
    · rcases List.mem_cons.mp h with rfl | h
      · exact w4
      · exact h)
  refine jran (va_runS (As := As.map (jv g.2.2)) (rest := st.map (jv g.2.2)) (g := F0 m pc ls (st0.map (jv g.2.2))) (n := n) ⟨hx, hb, hml, hown, hts⟩ (hM hcA c3) (va_cwS n hts hG rfl rfl rfl hdd ⟨hd', ?_⟩) ⟨fun a U g' mk hq2 => ⟨hq2.1, hq2.2.1, va_K.moved (u := U) (U := U.calling g' mk a) (Vm.Alike.refl U.vm) hq2.2.2.1, jE_call hq2.2.2.2⟩, fun U hU hW => ⟨rfl, by rw [hU]; exact hH, va_K.moved hW.alike hK, jE_go hE hW (fun q h1 h2 => by rw [hU]; exact hS.2.1 q h1 h2)⟩⟩ rfl (by rw [List.length_map]; exact hn) hls ?_ (lv_room (by rw [jcs_sum]; exact hrest)) hd ⟨Nat.le_refl _, Nat.le_refl _⟩) hS kk
  · show 8 + (mL + 11) + 64 * d' ≤ 64 * d
    omega
  · show st0.map (jv g.2.2) = _
    rw [hst, List.map_append, List.map_reverse]

/-- a call that changes memory and answers nothing -/
theorem z_callv0 (hR : jR l g T own cc nL rk ret d K) {y : MethodName} {cc' : ByteArray} {mL n d' rk' idx ci N' : Nat} {ret' : Option FieldType} {As : List jV} {q : Int} {C : String} {Tb : u_T} {f : Option (Int × jMem)} {kt : jMem → Option α} (hy : jVm C y cc' mL ret' n) (hlk' : Cond.methodLink own idx y ∈ lw_g) (hq : jk T q ci) (hci : ci < 100) (hcl : vwCl[ci]? = some (C, Tb, N')) (hf : ∀ o, f = some o → jCt l g T y cc' mL ret' 3 d' ((2, q) :: As) M o) (hn : As.length = n) (hd' : d' + 1 ≤ d) (hmL : mL ≤ 45) (hst : st0 = As.reverse ++ (2, q) :: st) (hrest : jcs st ≤ 8) (hd : decode cc pc = .ok (.invokevirtual idx, 3)) (kk : ∀ M', jZ K em (pc + 3) lv st M' (kt M')) : jZ K em pc lv st0 M (jbv f kt) := by
  obtain ⟨p, e, s, m, args, below, meth, c, rfl, hx, hb, hml, hown, hts, hlk, hrt, hK, hE⟩ := hR
  intro a ha ls H locs hl hH hS c1 c2 c3
  cases hfo : f with
  | none => rw [hfo] at ha; cases (show (none : Option α) = some a from ha)
  | some o =>
  rw [hfo] at ha
  have c2' : ∀ v ∈ st, jcan v := fun v hv => c2 v (by rw [hst]; exact List.mem_append_right _ (List.mem_cons_of_mem _ hv))
  refine jcallv hx hb hml hown hts hK hE hl.1 hH hS hy hlk' hq hci hcl (hf _ hfo) hn hd' hmL hst hrest c2 c3 hd (fun H1 locs1 hH1 hS1 hc1 hk1 => ?_)
  exact kk o.2 a ha ls H1 locs1 hl hH1 hS1 c1 c2' hk1
/-- a call that changes memory and answers -/
theorem z_callv1 (hR : jR l g T own cc nL rk ret d K) {y : MethodName} {cc' : ByteArray} {mL n d' rk' idx ci N' : Nat} {ret' : Option FieldType} {As : List jV} {q : Int} {C : String} {Tb : u_T} {f : Option (Int × jMem)} {kt : Int → jMem → Option α} (hy : jVm C y cc' mL ret' n) (hlk' : Cond.methodLink own idx y ∈ lw_g) (hq : jk T q ci) (hci : ci < 100) (hcl : vwCl[ci]? = some (C, Tb, N')) (hr3 : rk' ≠ 3) (hf : ∀ o, f = some o → jCt l g T y cc' mL ret' rk' d' ((2, q) :: As) M o) (hn : As.length = n) (hd' : d' + 1 ≤ d) (hmL : mL ≤ 45) (hst : st0 = As.reverse ++ (2, q) :: st) (hrest : jcs st ≤ 8) (hd : decode cc pc = .ok (.invokevirtual idx, 3)) (kk : ∀ r M', jZ K em (pc + 3) lv ((rk', r) :: st) M' (kt r M')) : jZ K em pc lv st0 M (jb1 f kt) := by
  obtain ⟨p, e, s, m, args, below, meth, c, rfl, hx, hb, hml, hown, hts, hlk, hrt, hK, hE⟩ := hR
  intro a ha ls H locs hl hH hS c1 c2 c3
  cases hfo : f with
  | none => rw [hfo] at ha; cases (show (none : Option α) = some a from ha)
  | some o =>
  rw [hfo] at ha
  have c2' : ∀ v ∈ st, jcan v := fun v hv => c2 v (by rw [hst]; exact List.mem_append_right _ (List.mem_cons_of_mem _ hv))
  refine jcallv hx hb hml hown hts hK hE hl.1 hH hS hy hlk' hq hci hcl (hf _ hfo) hn hd' hmL hst hrest c2 c3 hd (fun H1 locs1 hH1 hS1 hc1 hk1 => ?_)
  have h2 := kk o.1 o.2 a ha ls H1 locs1 hl hH1 hS1 c1 (jc_cons hc1 c2') hk1
  unfold jrv
  rw [if_neg hr3]
  exact h2
/-- a call that changes nothing -/
theorem z_callvp (hR : jR l g T own cc nL rk ret d K) {y : MethodName} {cc' : ByteArray} {mL n d' rk' idx ci N' : Nat} {ret' : Option FieldType} {As : List jV} {q : Int} {C : String} {Tb : u_T} {f : Option Int} {kt : Int → Option α} (hy : jVm C y cc' mL ret' n) (hlk' : Cond.methodLink own idx y ∈ lw_g) (hq : jk T q ci) (hci : ci < 100) (hcl : vwCl[ci]? = some (C, Tb, N')) (hr3 : rk' ≠ 3) (hf : ∀ o, f = some o → jCt l g T y cc' mL ret' rk' d' ((2, q) :: As) M (o, M)) (hn : As.length = n) (hd' : d' + 1 ≤ d) (hmL : mL ≤ 45) (hst : st0 = As.reverse ++ (2, q) :: st) (hrest : jcs st ≤ 8) (hd : decode cc pc = .ok (.invokevirtual idx, 3)) (kk : ∀ r, jZ K em (pc + 3) lv ((rk', r) :: st) M (kt r)) : jZ K em pc lv st0 M (f.bind kt) := by
  obtain ⟨p, e, s, m, args, below, meth, c, rfl, hx, hb, hml, hown, hts, hlk, hrt, hK, hE⟩ := hR
  intro a ha ls H locs hl hH hS c1 c2 c3
  cases hfo : f with
  | none => rw [hfo] at ha; cases (show (none : Option α) = some a from ha)
  | some o =>
  rw [hfo] at ha
  have c2' : ∀ v ∈ st, jcan v := fun v hv => c2 v (by rw [hst]; exact List.mem_append_right _ (List.mem_cons_of_mem _ hv))
  refine jcallv hx hb hml hown hts hK hE hl.1 hH hS hy hlk' hq hci hcl (hf _ hfo) hn hd' hmL hst hrest c2 c3 hd (fun H1 locs1 hH1 hS1 hc1 hk1 => ?_)
  have h2 := kk o a ha ls H1 locs1 hl hH1 hS1 c1 (jc_cons hc1 c2') hk1
  unfold jrv
  rw [if_neg hr3]
  exact h2

/-- a call that changes memory and answers nothing -/
theorem z_calls0 (hR : jR l g T own cc nL rk ret d K) {y : MethodName} {cc' : ByteArray} {mL n d' rk' idx : Nat} {ret' : Option FieldType} {As : List jV} {f : Option (Int × jMem)} {kt : jMem → Option α} (hy : jSm y cc' mL ret' n) (hlk' : Cond.methodLink own idx y ∈ lw_g) (hf : ∀ o, f = some o → jCt l g T y cc' mL ret' 3 d' As M o) (hn : As.length = n) (hd' : d' + 1 ≤ d) (hmL : mL ≤ 45) (hst : st0 = As.reverse ++ st) (hrest : jcs st ≤ 8) (hd : decode cc pc = .ok (.invokestatic idx, 3)) (kk : ∀ M', jZ K em (pc + 3) lv st M' (kt M')) : jZ K em pc lv st0 M (jbv f kt) := by
  obtain ⟨p, e, s, m, args, below, meth, c, rfl, hx, hb, hml, hown, hts, hlk, hrt, hK, hE⟩ := hR
  intro a ha ls H locs hl hH hS c1 c2 c3
  cases hfo : f with
  | none => rw [hfo] at ha; cases (show (none : Option α) = some a from ha)
  | some o =>
  rw [hfo] at ha
  have c2' : ∀ v ∈ st, jcan v := fun v hv => c2 v (by rw [hst]; exact List.mem_append_right _ hv)
  refine jcalls hx hb hml hown hts hK hE hl.1 hH hS hy hlk' (hf _ hfo) hn hd' hmL hst hrest c2 c3 hd (fun H1 locs1 hH1 hS1 hc1 hk1 => ?_)
  exact kk o.2 a ha ls H1 locs1 hl hH1 hS1 c1 c2' hk1
/-- a call that changes memory and answers -/
theorem z_calls1 (hR : jR l g T own cc nL rk ret d K) {y : MethodName} {cc' : ByteArray} {mL n d' rk' idx : Nat} {ret' : Option FieldType} {As : List jV} {f : Option (Int × jMem)} {kt : Int → jMem → Option α} (hy : jSm y cc' mL ret' n) (hlk' : Cond.methodLink own idx y ∈ lw_g) (hr3 : rk' ≠ 3) (hf : ∀ o, f = some o → jCt l g T y cc' mL ret' rk' d' As M o) (hn : As.length = n) (hd' : d' + 1 ≤ d) (hmL : mL ≤ 45) (hst : st0 = As.reverse ++ st) (hrest : jcs st ≤ 8) (hd : decode cc pc = .ok (.invokestatic idx, 3)) (kk : ∀ r M', jZ K em (pc + 3) lv ((rk', r) :: st) M' (kt r M')) : jZ K em pc lv st0 M (jb1 f kt) := by
  obtain ⟨p, e, s, m, args, below, meth, c, rfl, hx, hb, hml, hown, hts, hlk, hrt, hK, hE⟩ := hR
  intro a ha ls H locs hl hH hS c1 c2 c3
  cases hfo : f with
  | none => rw [hfo] at ha; cases (show (none : Option α) = some a from ha)
  | some o =>
  rw [hfo] at ha
  have c2' : ∀ v ∈ st, jcan v := fun v hv => c2 v (by rw [hst]; exact List.mem_append_right _ hv)
  refine jcalls hx hb hml hown hts hK hE hl.1 hH hS hy hlk' (hf _ hfo) hn hd' hmL hst hrest c2 c3 hd (fun H1 locs1 hH1 hS1 hc1 hk1 => ?_)
  have h2 := kk o.1 o.2 a ha ls H1 locs1 hl hH1 hS1 c1 (jc_cons hc1 c2') hk1
  unfold jrv
  rw [if_neg hr3]
  exact h2
/-- a call that changes nothing -/
theorem z_callsp (hR : jR l g T own cc nL rk ret d K) {y : MethodName} {cc' : ByteArray} {mL n d' rk' idx : Nat} {ret' : Option FieldType} {As : List jV} {f : Option Int} {kt : Int → Option α} (hy : jSm y cc' mL ret' n) (hlk' : Cond.methodLink own idx y ∈ lw_g) (hr3 : rk' ≠ 3) (hf : ∀ o, f = some o → jCt l g T y cc' mL ret' rk' d' As M (o, M)) (hn : As.length = n) (hd' : d' + 1 ≤ d) (hmL : mL ≤ 45) (hst : st0 = As.reverse ++ st) (hrest : jcs st ≤ 8) (hd : decode cc pc = .ok (.invokestatic idx, 3)) (kk : ∀ r, jZ K em (pc + 3) lv ((rk', r) :: st) M (kt r)) : jZ K em pc lv st0 M (f.bind kt) := by
  obtain ⟨p, e, s, m, args, below, meth, c, rfl, hx, hb, hml, hown, hts, hlk, hrt, hK, hE⟩ := hR
  intro a ha ls H locs hl hH hS c1 c2 c3
  cases hfo : f with
  | none => rw [hfo] at ha; cases (show (none : Option α) = some a from ha)
  | some o =>
  rw [hfo] at ha
  have c2' : ∀ v ∈ st, jcan v := fun v hv => c2 v (by rw [hst]; exact List.mem_append_right _ hv)
  refine jcalls hx hb hml hown hts hK hE hl.1 hH hS hy hlk' (hf _ hfo) hn hd' hmL hst hrest c2 c3 hd (fun H1 locs1 hH1 hS1 hc1 hk1 => ?_)
  have h2 := kk o a ha ls H1 locs1 hl hH1 hS1 c1 (jc_cons hc1 c2') hk1
  unfold jrv
  rw [if_neg hr3]
  exact h2

theorem z_mmin (hR : jR l g T own cc nL rk ret d K) {x y : Int} {idx : Nat} (w1 : Cond.methodLink own idx Lib.Math.min.name ∈ lw_g) (w2 : Cond.static Lib.Math.min.name ∈ lw_g) (w3 : Cond.initialized "java/lang/Math" ∈ lw_g) (w4 : Cond.code Lib.Math.min.name Lib.Math.min.code 2 (some .int) ∈ lw_g) (h1 : 1 ≤ d) (hrest : jcs st ≤ 8) (hd : decode cc pc = .ok (.invokestatic idx, 3)) (k : jZ K em (pc + 3) lv ((0, jmin x y) :: st) M t) : jZ K em pc lv ((0, y) :: (0, x) :: st) M t := by
  obtain ⟨p, e, s, m, args, below, meth, c, rfl, hx, hb, hml, hown, hts, hlk, hrt, hK, hE⟩ := hR
  intro a ha ls H locs hl hH hS c1 c2 c3
  have hx0 : in32 x := jc_hd (jc_tl c2)
  have hy0 : in32 y := jc_hd c2
  refine va_mmin (x := Int32.ofInt x) (y := Int32.ofInt y) (rest := st.map (jv g.2.2)) hx hb (by rw [hml]; exact hl.1.symm) hown (hts _ w1) (hts _ w2) (hts _ w3) (hts _ w4) h1 (by rw [jcs_sum]; show jcs st + 13 ≤ 64 * d; omega) (Nat.zero_le _) (Nat.zero_le _) hd ?_
  have e1 : (if Int32.ofInt y < Int32.ofInt x then Int32.ofInt y else Int32.ofInt x) = Int32.ofInt (jmin x y) := by
    unfold jmin
    by_cases h : y < x
    · rw [if_pos h]; exact (if_pos ((i32_lt hy0 hx0).mpr h)).trans rfl
    · rw [if_neg h]; exact (if_neg (fun z => h ((i32_lt hy0 hx0).mp z))).trans rfl
  have e2 : in32 (jmin x y) := by unfold jmin; split <;> assumption
  rw [show (if Int32.ofInt y < Int32.ofInt x then Int32.ofInt y else Int32.ofInt x) = Int32.ofInt (jmin x y) from e1]
  exact k a ha ls H locs hl hH hS c1 (jc_cons e2 (jc_tl (jc_tl c2))) c3

theorem z_mmax (hR : jR l g T own cc nL rk ret d K) {x y : Int} {idx : Nat} (w1 : Cond.methodLink own idx Lib.Math.max.name ∈ lw_g) (w2 : Cond.static Lib.Math.max.name ∈ lw_g) (w3 : Cond.initialized "java/lang/Math" ∈ lw_g) (w4 : Cond.code Lib.Math.max.name Lib.Math.max.code 2 (some .int) ∈ lw_g) (h1 : 1 ≤ d) (hrest : jcs st ≤ 8) (hd : decode cc pc = .ok (.invokestatic idx, 3)) (k : jZ K em (pc + 3) lv ((0, jmax x y) :: st) M t) : jZ K em pc lv ((0, y) :: (0, x) :: st) M t := by
  obtain ⟨p, e, s, m, args, below, meth, c, rfl, hx, hb, hml, hown, hts, hlk, hrt, hK, hE⟩ := hR
  intro a ha ls H locs hl hH hS c1 c2 c3
  have hx0 : in32 x := jc_hd (jc_tl c2)
  have hy0 : in32 y := jc_hd c2
  refine va_mmax (x := Int32.ofInt x) (y := Int32.ofInt y) (rest := st.map (jv g.2.2)) hx hb (by rw [hml]; exact hl.1.symm) hown (hts _ w1) (hts _ w2) (hts _ w3) (hts _ w4) h1 (by rw [jcs_sum]; show jcs st + 13 ≤ 64 * d; omega) (Nat.zero_le _) (Nat.zero_le _) hd ?_
  have e1 : (if Int32.ofInt x < Int32.ofInt y then Int32.ofInt y else Int32.ofInt x) = Int32.ofInt (jmax x y) := by
    unfold jmax
    by_cases h : x < y
    · rw [if_pos h]; exact (if_pos ((i32_lt hx0 hy0).mpr h)).trans rfl
    · rw [if_neg h]; exact (if_neg (fun z => h ((i32_lt hx0 hy0).mp z))).trans rfl
  have e2 : in32 (jmax x y) := by unfold jmax; split <;> assumption
  rw [show (if Int32.ofInt x < Int32.ofInt y then Int32.ofInt y else Int32.ofInt x) = Int32.ofInt (jmax x y) from e1]
  exact k a ha ls H locs hl hH hS c1 (jc_cons e2 (jc_tl (jc_tl c2))) c3

theorem z_none : jZ K em pc lv st M (none : Option α) := fun a ha => by cases ha
theorem jv4 {b n : Nat} : jv b (4, (n : Int)) = .ref n := rfl
theorem z_aload4_n (hR : jR l g T own cc nL rk ret d K) {k0 : Fin 4} {i n : Nat} (j : Nat) (hd : decode cc pc = .ok (.aload_n k0, 1)) (hi : (k0 : Nat) = i) (hv : lv[j]? = some (i, 4, (n : Int))) (k : jZ K em (pc + 1) lv ((4, (n : Int)) :: st) M t) : jZ K em pc lv st M t := by
  obtain ⟨p, e, s, m, args, below, meth, c, rfl, hx, hb, hml, hown, hts, hlk, hrt, hK, hE⟩ := hR
  intro a ha ls H locs hl hH hS c1 c2 c3
  exact lv_aload_n hx hb hd hi (lv_at hl j (jl_at hv)) (k a ha ls H locs hl hH hS c1 (jc_cons trivial c2) c3)
theorem z_ldcS (hR : jR l g T own cc nL rk ret d K) {w idx : Nat} {tx : String} (hE1 : ∀ U, jE g T U → vk_R own idx tx (g.1.2 100 w) U) (hd : decode cc pc = .ok (.ldc idx, 2)) (k : jZ K em (pc + 2) lv ((4, jSa g w) :: st) M t) : jZ K em pc lv st M t := by
  obtain ⟨p, e, s, m, args, below, meth, c, rfl, hx, hb, hml, hown, hts, hlk, hrt, hK, hE⟩ := hR
  intro a ha ls H locs hl hH hS c1 c2 c3
  exact va_ldcS hx hb hown (hE1 s hE) hd (k a ha ls H locs hl hH hS c1 (jc_cons trivial c2) c3)
theorem z_sgetv (hR : jR l g T own cc nL rk ret d K) {w idx : Nat} (hw : w < 2) (hlk' : Cond.fieldLink own idx "java/lang/String" "value" "[B" ∈ lw_g) (hd : decode cc pc = .ok (.getfield idx, 3)) (k : jZ K em (pc + 3) lv ((4, jSv g w) :: st) M t) : jZ K em pc lv ((4, jSa g w) :: st) M t := by
  obtain ⟨p, e, s, m, args, below, meth, c, rfl, hx, hb, hml, hown, hts, hlk, hrt, hK, hE⟩ := hR
  intro a ha ls H locs hl hH hS c1 c2 c3
  exact vk_getf hx hb (hE.1.1 w hw).2.2.1 hS hown (hts _ hlk') (fun _ h => h) hd (k a ha ls H locs hl hH hS c1 (jc_cons trivial (jc_tl c2)) c3)
theorem z_sgetc (hR : jR l g T own cc nL rk ret d K) {w idx : Nat} (hw : w < 2) (hlk' : Cond.fieldLink own idx "java/lang/String" "coder" "B" ∈ lw_g) (hd : decode cc pc = .ok (.getfield idx, 3)) (k : jZ K em (pc + 3) lv ((0, 0) :: st) M t) : jZ K em pc lv ((4, jSa g w) :: st) M t := by
  obtain ⟨p, e, s, m, args, below, meth, c, rfl, hx, hb, hml, hown, hts, hlk, hrt, hK, hE⟩ := hR
  intro a ha ls H locs hl hH hS c1 c2 c3
  exact vk_getf hx hb (hE.1.1 w hw).2.1 hS hown (hts _ hlk') (fun _ h => h) hd (k a ha ls H locs hl hH hS c1 (jc_cons (show in32 0 by unfold in32; omega) (jc_tl c2)) c3)
theorem z_gstC (hR : jR l g T own cc nL rk ret d K) {idx : Nat} (hlk' : Cond.fieldLink own idx "java/lang/String" "COMPACT_STRINGS" "Z" ∈ lw_g) (hd : decode cc pc = .ok (.getstatic idx, 3)) (k : jZ K em (pc + 3) lv ((0, 1) :: st) M t) : jZ K em pc lv st M t := by
  obtain ⟨p, e, s, m, args, below, meth, c, rfl, hx, hb, hml, hown, hts, hlk, hrt, hK, hE⟩ := hR
  intro a ha ls H locs hl hH hS c1 c2 c3
  exact va_gets hx hb hE.2.2.2.1 hS hown (hts _ hlk') (fun _ h => h) hd (k a ha ls H locs hl hH hS c1 (jc_cons (show in32 1 by unfold in32; omega) c2) c3)
theorem z_gstF (hR : jR l g T own cc nL rk ret d K) {idx : Nat} (hlk' : Cond.fieldLink own idx "jdk/internal/util/Preconditions" "SIOOBE_FORMATTER" "Ljava/util/function/BiFunction;" ∈ lw_g) (hd : decode cc pc = .ok (.getstatic idx, 3)) (k : jZ K em (pc + 3) lv ((5, jSf g) :: st) M t) : jZ K em pc lv st M t := by
  obtain ⟨p, e, s, m, args, below, meth, c, rfl, hx, hb, hml, hown, hts, hlk, hrt, hK, hE⟩ := hR
  intro a ha ls H locs hl hH hS c1 c2 c3
  exact va_gets hx hb hE.2.2.2.2 hS hown (hts _ hlk') (fun _ h => h) hd (k a ha ls H locs hl hH hS c1 (jc_cons trivial c2) c3)
theorem jSl_in {w : Nat} (hw : w < 2) : in32 (jSl w) := by
  match w, hw with
  | 0, _ => exact ⟨by decide, by decide⟩
  | 1, _ => exact ⟨by decide, by decide⟩
theorem z_blen (hR : jR l g T own cc nL rk ret d K) {w : Nat} (hw : w < 2) (hd : decode cc pc = .ok (.arraylength, 1)) (k : jZ K em (pc + 1) lv ((0, jSl w) :: st) M t) : jZ K em pc lv ((4, jSv g w) :: st) M t := by
  obtain ⟨p, e, s, m, args, below, meth, c, rfl, hx, hb, hml, hown, hts, hlk, hrt, hK, hE⟩ := hR
  intro a ha ls H locs hl hH hS c1 c2 c3
  exact va_tlen hx hb (hE.1.1 w hw).2.2.2 hS (v := Int32.ofInt (jSl w)) Int32.ofInt_eq_ofNat.symm hd (k a ha ls H locs hl hH hS c1 (jc_cons (jSl_in hw) (jc_tl c2)) c3)
theorem z_bbld (hR : jR l g T own cc nL rk ret d K) {w : Nat} {i : Int} (hw : w < 2) (h0 : 0 ≤ i) (h1 : i < jSl w) (hd : decode cc pc = .ok (.baload, 1)) (k : jZ K em (pc + 1) lv ((0, jSb w i) :: st) M t) : jZ K em pc lv ((0, i) :: (4, jSv g w) :: st) M t := by
  obtain ⟨p, e, s, m, args, below, meth, c, rfl, hx, hb, hml, hown, hts, hlk, hrt, hK, hE⟩ := hR
  intro a ha ls H locs hl hH hS c1 c2 c3
  have hi0 : in32 i := jc_hd c2
  refine va_tb (i := Int32.ofInt i) hx hb (hE.1.1 w hw).2.2.2 hS (vp_in_ok hi0 h0 h1) (v := .int (Int32.ofInt (jSb w i))) ?_ hd (k a ha ls H locs hl hH hS c1 (jc_cons (toInt_in32 _) (jc_tl (jc_tl c2))) c3)
  rw [i32_cl hi0]
  show Value.int _ = _
  unfold jSb
  rw [Int32.ofInt_toInt]
theorem z_creturn (hR : jR l g T own cc nL rk ret d K) {x : Int} {v : α} (h3 : rk = 0) (hr : ret = some .char) (h01 : 0 ≤ x ∧ x < 65536) (hd : decode cc pc = .ok (.ireturn, 1)) (he : em v = (x, M)) : jZ K em pc lv [(0, x)] M (some v) := by
  obtain ⟨p, e, s, m, args, below, meth, c, rfl, hx, hb, hml, hown, hts, hlk, hrt, hK, hE⟩ := hR
  intro a ha ls H locs hl hH hS c1 c2 c3
  cases ha
  subst h3; subst hr
  have hn : narrow .char (.int (Int32.ofInt x)) = .int (Int32.ofInt x) := nar_char h01
  exact W.zret (v := Int32.ofInt x) hx hb hrt hn (fun t0 ht0 hW => ⟨by rw [he]; exact ⟨rfl, by rw [ht0]; exact hH, jc_hd c2, c3⟩, hS.F ht0⟩) hS.2.2 hd hlk
theorem z_breturn (hR : jR l g T own cc nL rk ret d K) {x : Int} {v : α} (h3 : rk = 0) (hr : ret = some .byte) (h01 : -128 ≤ x ∧ x < 128) (hd : decode cc pc = .ok (.ireturn, 1)) (he : em v = (x, M)) : jZ K em pc lv [(0, x)] M (some v) := by
  obtain ⟨p, e, s, m, args, below, meth, c, rfl, hx, hb, hml, hown, hts, hlk, hrt, hK, hE⟩ := hR
  intro a ha ls H locs hl hH hS c1 c2 c3
  cases ha
  subst h3; subst hr
  have hx0 : in32 x := jc_hd c2
  have hn : narrow .byte (.int (Int32.ofInt x)) = .int (Int32.ofInt x) := by
    show Value.int (Int32.ofInt x).toInt8.toInt32 = _
    rw [i32_i8 hx0, show w8 x = x by unfold w8; omega]
  exact W.zret (v := Int32.ofInt x) hx hb hrt hn (fun t0 ht0 hW => ⟨by rw [he]; exact ⟨rfl, by rw [ht0]; exact hH, jc_hd c2, c3⟩, hS.F ht0⟩) hS.2.2 hd hlk
theorem z_callv4p (hR : jR l g T own cc nL rk ret d K) {y : MethodName} {cc' : ByteArray} {mL n d' rk' idx w : Nat} {ret' : Option FieldType} {As : List jV} {f : Option Int} {kt : Int → Option α} (hy : jVm "java/lang/String" y cc' mL ret' n) (hlk' : Cond.methodLink own idx y ∈ lw_g) (hw : w < 2) (hr3 : rk' ≠ 3) (hf : ∀ o, f = some o → jCt l g T y cc' mL ret' rk' d' ((4, jSa g w) :: As) M (o, M)) (hn : As.length = n) (hd' : d' + 1 ≤ d) (hmL : mL ≤ 45) (hst : st0 = As.reverse ++ (4, jSa g w) :: st) (hrest : jcs st ≤ 8) (hd : decode cc pc = .ok (.invokevirtual idx, 3)) (kk : ∀ r, jZ K em (pc + 3) lv ((rk', r) :: st) M (kt r)) : jZ K em pc lv st0 M (f.bind kt) := by
  obtain ⟨p, e, s, m, args, below, meth, c, rfl, hx, hb, hml, hown, hts, hlk, hrt, hK, hE⟩ := hR
  intro a ha ls H locs hl hH hS c1 c2 c3
  cases hfo : f with
  | none => rw [hfo] at ha; cases (show (none : Option α) = some a from ha)
  | some o =>
  rw [hfo] at ha
  have c2' : ∀ v ∈ st, jcan v := fun v hv => c2 v (by rw [hst]; exact List.mem_append_right _ (List.mem_cons_of_mem _ hv))
  have hcA : ∀ v ∈ (4, jSa g w) :: As, jcan v := by
    intro v hv
    rcases List.mem_cons.mp hv with rfl | h2
    · trivial
    · refine c2 v ?_
      rw [hst]
      exact List.mem_append_left _ (List.mem_reverse.mpr h2)
  obtain ⟨w1, w2, w3, w4, hdd⟩ := hy
  have hG : GoodIn lw_g (wsV own idx "java/lang/String" y (.code y cc' mL ret' :: lw_g)) := jgood (fun w hw => by
    rcases List.mem_append.mp hw with h | h
    · rcases List.mem_cons.mp h with rfl | h
      · exact hlk'
      rcases List.mem_cons.mp h with rfl | h
      · exact w1
      rcases List.mem_cons.mp h with rfl | h
      · exact w2
      rcases List.mem_cons.mp h with rfl | h
      · exact w3
      cases h
    · rcases List.mem_cons.mp h with rfl | h
      · exact w4
      · exact h)
  refine jran (va_runV (As := As.map (jv g.2.2)) (rest := st.map (jv g.2.2)) (b := g.1.2 100 w) (g := F0 m pc ls (st0.map (jv g.2.2))) (n := n) ⟨hx, hb, hml, hown, hts⟩ (hf _ hfo hcA c3) (cwV n hts hG rfl rfl rfl hdd ⟨hd', ?_⟩) ⟨fun a U g' mk hq2 => ⟨hq2.1, hq2.2.1, va_K.moved (u := U) (U := U.calling g' mk a) (Vm.Alike.refl U.vm) hq2.2.2.1, jE_call hq2.2.2.2⟩, ?_, fun U hU hW => ⟨?_, by rw [hU]; exact hH, va_K.moved hW.alike hK, jE_go hE hW (fun q h1 h2 => by rw [hU]; exact hS.2.1 q h1 h2)⟩⟩ rfl (by rw [List.length_map]; exact hn) hl.1 ?_ (lv_room (by rw [jcs_sum]; exact hrest)) hd ⟨Nat.le_refl _, Nat.le_refl _⟩) hS (fun H1 locs1 hH1 hS1 hc1 hk1 => ?_)
  · show 8 + (mL + 11) + 64 * d' ≤ 64 * d
    omega
  · exact vk_recv hE.1 hw hS
  · rfl
  · show st0.map (jv g.2.2) = _
    rw [hst, List.map_append, List.map_cons, List.map_reverse]; rfl
  · have h2 := kk o a ha ls H1 locs1 hl hH1 hS1 c1 (jc_cons hc1 c2') hk1
    unfold jrv
    rw [if_neg hr3]
    exact h2
theorem z_calls0p (hR : jR l g T own cc nL rk ret d K) {y : MethodName} {cc' : ByteArray} {mL n d' idx : Nat} {ret' : Option FieldType} {As : List jV} {f : Option Int} (hy : jSm y cc' mL ret' n) (hlk' : Cond.methodLink own idx y ∈ lw_g) (hf : ∀ o, f = some o → jCt l g T y cc' mL ret' 3 d' As M (o, M)) (hn : As.length = n) (hd' : d' + 1 ≤ d) (hmL : mL ≤ 45) (hst : st0 = As.reverse ++ st) (hrest : jcs st ≤ 8) (hd : decode cc pc = .ok (.invokestatic idx, 3)) (kk : jZ K em (pc + 3) lv st M t) : jZ K em pc lv st0 M (f.bind fun _ => t) := by
  obtain ⟨p, e, s, m, args, below, meth, c, rfl, hx, hb, hml, hown, hts, hlk, hrt, hK, hE⟩ := hR
  intro a ha ls H locs hl hH hS c1 c2 c3
  cases hfo : f with
  | none => rw [hfo] at ha; cases (show (none : Option α) = some a from ha)
  | some o =>
  rw [hfo] at ha
  have c2' : ∀ v ∈ st, jcan v := fun v hv => c2 v (by rw [hst]; exact List.mem_append_right _ hv)
  refine jcalls hx hb hml hown hts hK hE hl.1 hH hS hy hlk' (hf _ hfo) hn hd' hmL hst hrest c2 c3 hd (fun H1 locs1 hH1 hS1 hc1 hk1 => ?_)
  exact kk a ha ls H1 locs1 hl hH1 hS1 c1 c2' hk1

theorem z_copy (hR : jR l g T own cc nL rk ret d K) {idx n0 n1 n : Nat} {x y nI : Int} {f : jMem → Option α} (w1 : Cond.methodLink own idx arraycopyName ∈ lw_g) (w2 : Cond.native arraycopyName ∈ lw_g) (w3 : Cond.static arraycopyName ∈ lw_g) (w4 : Cond.initialized "java/lang/System" ∈ lw_g) (hx1 : ja T x 0 n0) (hy1 : ja T y 0 n1) (hnI : (n : Int) = nI) (h0 : n ≤ n0) (h1 : n ≤ n1) (hd1 : 1 ≤ d) (hrest : jcs st = 0) (hd : decode cc pc = .ok (.invokestatic idx, 3)) (kk : ∀ M', jZ K em (pc + 3) lv st M' (f M')) : jZ K em pc lv ((0, nI) :: (0, 0) :: (2, y) :: (0, 0) :: (2, x) :: st) M (jlt (jcp M x y nI) f) := by
  obtain ⟨p, e, s, m, args, below, meth, c, rfl, hx, hb, hml, hown, hts, hlk, hrt, hK, hE⟩ := hR
  intro a ha ls H locs hl hH hS c1 c2 c3
  have hxe : ((x.toNat : Nat) : Int) = x := Int.toNat_of_nonneg hx1.1
  have hye : ((y.toNat : Nat) : Int) = y := Int.toNat_of_nonneg hy1.1
  have hn0 : in32 nI := jc_hd c2
  have hz : in32 0 := by unfold in32; omega
  have hz2 : (Int32.ofInt 0).toNatClampNeg = 0 := by rw [i32_cl hz]; rfl
  have hz3 : (Int32.ofInt nI).toNatClampNeg = n := by rw [i32_cl hn0]; omega
  have hz4 : ¬ Int32.ofInt 0 < 0 := by rw [i32_lt0 hz]; omega
  have hz5 : ¬ Int32.ofInt nI < 0 := by rw [i32_lt0 hn0]; omega
  rw [List.map_cons, List.map_cons, List.map_cons, List.map_cons, List.map_cons, jv_ref hx1.1, jv_ref hy1.1]
  refine va_copyi (rest := st.map (jv g.2.2)) (ty := .int) (sp := Int32.ofInt 0) (dp := Int32.ofInt 0) (n := Int32.ofInt nI) hx hb (by rw [hml]; exact hl.1.symm) hown (hts _ w1) (hts _ w2) (hts _ w3) (hts _ w4) hK hH (jws_D g T M) hS x.toNat y.toNat 0 0 (by rw [jws_get (ja_lt hx1), jcell_int hx1.2.1 hx1.2.2 (by decide)]) (by rw [jws_get (ja_lt hy1), jcell_int hy1.2.1 hy1.2.2 (by decide)]) rfl rfl rfl hz4 hz4 hz5 (by rw [hz2, hz3]; omega) (by rw [hz2, hz3]; omega) (fun _ _ => rfl) hd1 (by rw [jcs_sum, hrest]; show 0 + (nativeFrameWords "java/lang/System" "arraycopy" 5 + 11) ≤ 64 * d; exact Nat.le_trans (show _ ≤ 64 by decide) (by omega)) hd (fun H1 locs1 hP1 hD1 hS1 => ?_)
  have e1 : jcell g T ((jcp M x y nI) (y.toNat : Nat)) y.toNat = .inl (g.2.1 0, n1, .inl (va_cpy (fun j => Int32.ofInt (M (x.toNat : Nat) j)) (fun j => Int32.ofInt (M (y.toNat : Nat) j)) (Int32.ofInt 0).toNatClampNeg (Int32.ofInt 0).toNatClampNeg (Int32.ofInt nI).toNatClampNeg)) := by
    rw [jcell_int hy1.2.1 hy1.2.2 (by decide), hz2, hz3, hye, hxe, jcp_eq]
    congr 3
    congr 1
    funext j
    unfold va_cpy
    dsimp only
    by_cases hj : j < n
    · rw [if_pos (by omega), if_pos (by omega)]
      congr 2; omega
    · rw [if_neg (by omega), if_neg (by omega)]
  rw [← e1, jws_set (ja_lt hy1) (fun k hk => jcp_ne (by omega))] at hP1
  exact kk _ a ha ls H1 locs1 hl hP1 hS1 c1 (jc_tl (jc_tl (jc_tl (jc_tl (jc_tl c2))))) (jok_cp hx1 hy1 (by decide) c3)
end Calls
