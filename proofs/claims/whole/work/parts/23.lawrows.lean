/-! the law: two worlds side by side, and the script -/
theorem arrV_congr {cA : ClassId} {n : Nat} {f f' : Nat → Value} (h : ∀ j, j < n → f j = f' j) : arrV cA n f = arrV cA n f' := by
  unfold arrV
  congr 1
  apply congrArg
  funext j
  exact h j.val j.isLt
/-- every reference that never changes is where the table says -/
def chkref (T : List Nat) (M : jMem) : Bool := (List.range T.length).all fun id =>
  if T.getD id 99 < 100 then (List.range (jFL (T.getD id 99)).length).all fun j => if 3 ≤ (jFL (T.getD id 99)).getD j 0 then M (id : Int) (j : Int) == ((id + ((jFL (T.getD id 99)).getD j 0 - 3) : Nat) : Int) else true
  else if 6000000 ≤ T.getD id 99 then (List.range (T.getD id 99 % 1000000)).all fun j => M (id : Int) (j : Int) == ((jSt (T.getD id 99 / 1000000 - 1) id j : Nat) : Int) else true
theorem jH_of {g : jG} {T : List Nat} {M : jMem} {H : Heap} (hH : jH1 g T M H) (hn : jn M = T.length) (hc : chkref T M = true) : jH g T M H := by
  intro k q hk
  have h1 := jws_inv hk
  rw [jws_get h1.1] at hk
  cases hk
  have h2 := hH.1 k _ (jws1_get (by rw [hn]; exact h1.1))
  have hc1 := (List.all_eq_true.mp hc) k (List.mem_range.mpr h1.1)
  show va_at g.1 vwCl (g.2.2 + k, jcell g T (M (k : Int)) k) H
  unfold jcell1 at h2
  unfold jcell
  by_cases hk1 : T.getD k 99 < 100
  · rw [if_pos hk1] at h2 hc1 ⊢
    have e : jfs1 g.2.2 (M (k : Int)) (jFL (T.getD k 99)) = jfs g.2.2 k (M (k : Int)) (jFL (T.getD k 99)) := by
      unfold jfs1 jfs
      apply List.map_congr_left
      intro j hj
      have h3 := (List.all_eq_true.mp hc1) j hj
      generalize (jFL (T.getD k 99)).getD j 0 = cd at h3
      unfold jfld1 jfld
      match cd, h3 with
      | 0, _ => rfl
      | 1, _ => rfl
      | 2, _ => rfl
      | cd + 3, h3 =>
        rw [if_pos (by omega)] at h3
        have h4 : M (k : Int) (j : Int) = ((k + (cd + 3 - 3) : Nat) : Int) := by simpa using h3
        show jv g.2.2 (2, M (k : Int) (j : Int)) = .ref (g.2.2 + (k + cd))
        rw [h4, jv_ref (by omega)]
        congr 1
    rw [← e]; exact h2
  · rw [if_neg hk1] at h2 hc1 ⊢
    by_cases hk2 : T.getD k 99 < 5000000
    · rw [if_pos hk2] at h2 ⊢; exact h2
    · rw [if_neg hk2] at h2 ⊢
      by_cases hk3 : T.getD k 99 < 6000000
      · rw [if_pos hk3] at h2 ⊢; exact h2
      · rw [if_neg hk3] at h2 ⊢
        rw [if_pos (by omega)] at hc1
        have h5 : H[g.2.2 + k]? = some (vp_cell _ _) := h2
        show H[g.2.2 + k]? = some (vp_cell _ _)
        rw [h5, vp_cell_q, vp_cell_q]
        congr 1
        apply arrV_congr
        intro j hj
        have h3 := (List.all_eq_true.mp hc1) j (List.mem_range.mpr hj)
        have h4 : M (k : Int) (j : Int) = ((jSt (T.getD k 99 / 1000000 - 1) k j : Nat) : Int) := by simpa using h3
        rw [h4]
        unfold jrf1
        rw [if_neg (by omega)]
        congr 2
theorem jH_kept {g : jG} {T : List Nat} {M : jMem} {H H1 : Heap} (hH : jH g T M H) (h : ∀ q : Nat, q < H.size → jA g T q → H1[q]? = H[q]?) : jH g T M H1 :=
  va_P.kept hH (fun k q hk => h q.1 ((hH k q hk).lt) ((jws_D g T M).2 k q hk))
def jM0 : jMem := fun _ _ => 0
def x_start : Option (Int × jMem) := x_init 100 281 0 (jnewM jTX jM0)
def m_start : Option (Int × jMem) := m_init 100 25 0 (jnewM jTM jM0)
def jX0 : jMem := match x_start with
  | some z => z.2
  | none => jM0
def jY0 : jMem := match m_start with
  | some z => z.2
  | none => jM0
theorem x_start_ok : (match x_start with
  | some z => chkref jTX z.2 && decide (jn z.2 = 281)
  | none => false) = true := by decide +kernel
theorem m_start_ok : (match m_start with
  | some z => chkref jTM z.2 && decide (jn z.2 = 25)
  | none => false) = true := by decide +kernel
theorem jX0_ok : ∃ z, x_start = some z ∧ z.2 = jX0 ∧ chkref jTX jX0 = true ∧ jn jX0 = 281 := by
  have h := x_start_ok
  unfold jX0
  cases hz : x_start with
  | none => rw [hz] at h; cases h
  | some z =>
    rw [hz] at h
    simp only [Bool.and_eq_true, decide_eq_true_eq] at h
    exact ⟨z, rfl, rfl, h.1, h.2⟩
theorem jY0_ok : ∃ z, m_start = some z ∧ z.2 = jY0 ∧ chkref jTM jY0 = true ∧ jn jY0 = 25 := by
  have h := m_start_ok
  unfold jY0
  cases hz : m_start with
  | none => rw [hz] at h; cases h
  | some z =>
    rw [hz] at h
    simp only [Bool.and_eq_true, decide_eq_true_eq] at h
    exact ⟨z, rfl, rfl, h.1, h.2⟩
def jK3 (p : Program) (l : Launch) (e : Env) (s : State) (m : MethodId) (b0 : Nat) (below : List Frame) (meth : Method) (c : Code) (gX gM : jG) (CC SS : Nat) (pc : Nat) (lv : jL) (st : List jV) (X Y : jMem) (a : Int) : Prop :=
  a = 1 → ∀ (ls : Array Slot) (H : Heap) (locs : List Loc), lv_has ls 4 (lv.map (jl 0)) → jH gX jTX X H → jH gM jTM Y H → va_S (fun q => s.heap.size ≤ q) s.heap H locs → (∀ v ∈ lv, jcan v.2) → (∀ v ∈ st, jcan v) → jok jTX X → jok jTM Y →
    W p l e room_1 s m #[Value.ref b0] below meth c H locs CC SS (lw_Z below #[Value.ref b0] s) (F0 m pc ls (st.map (jv 0)))
def jR3 (l : Launch) (gX gM : jG) (b0 L : Nat) (xs : Nat → Int32) (K : Nat → jL → List jV → jMem → jMem → Int → Prop) : Prop :=
  ∃ (p : Program) (e : Env) (s : State) (m : MethodId) (below : List Frame) (meth : Method) (c : Code) (CC SS : Nat), K = jK3 p l e s m b0 below meth c gX gM CC SS ∧
    p.tables.exec = Jvm.exec ∧ c.code = code ∧ c.maxLocals = 4 ∧ s.vm.findClass R_law = some m.cls ∧ (∀ w ∈ lw_g, w.before #[Value.ref b0] s = true) ∧ meth.locks = false ∧ meth.sig.returnType = ret ∧ va_K gX.1 vwCl (jtys gX) s ∧ gM.1 = gX.1 ∧ gM.2.1 = gX.2.1 ∧ jE gX jTX s ∧ jE gM jTM s ∧
    va_X b0 L xs s s.heap ∧ b0 < s.heap.size ∧ gX.2.2 = s.heap.size ∧ gM.2.2 = s.heap.size + 281 ∧ CC ≤ 600000 ∧ SS ≤ 7302250 ∧ L ≤ 3072
def jZ3 (K : Nat → jL → List jV → jMem → jMem → Int → Prop) (pc : Nat) (lv : jL) (st : List jV) (X Y : jMem) (t : Option Int) : Prop := ∀ a, t = some a → K pc lv st X Y a
section Law3
variable {l : Launch} {gX gM : jG} {b0 L : Nat} {xs : Nat → Int32} {K : Nat → jL → List jV → jMem → jMem → Int → Prop} {pc : Nat} {lv : jL} {st st0 : List jV} {X Y : jMem} {t : Option Int}

theorem v_iconst (hR : jR3 l gX gM b0 L xs K) {n : Int} (hd : decode code pc = .ok (.iconst n, 1)) (hn : jin32 n = true) (k : jZ3 K (pc + 1) lv ((0, n) :: st) X Y t) : jZ3 K pc lv st X Y t := by
  obtain ⟨p, e, s, m, below, meth, c, CC, SS, rfl, hx, hb, hml, hown, hts, hlk, hrt, hK, hg1, hg2, hEX, hEM, hXs, hbl, hgb, hgm, hCC, hSS, hL⟩ := hR
  intro a ha h1 ls H locs hl hH hHM hS c1 c2 c3 c4
  exact lv_iconst hx hb hd rfl (k a ha h1 ls H locs hl hH hHM hS c1 (jc_cons (jin32_ok hn) c2) c3 c4)
theorem v_bipush (hR : jR3 l gX gM b0 L xs K) {n : Int} (hd : decode code pc = .ok (.bipush n, 2)) (hn : jin8 n = true) (k : jZ3 K (pc + 2) lv ((0, n) :: st) X Y t) : jZ3 K pc lv st X Y t := by
  obtain ⟨p, e, s, m, below, meth, c, CC, SS, rfl, hx, hb, hml, hown, hts, hlk, hrt, hK, hg1, hg2, hEX, hEM, hXs, hbl, hgb, hgm, hCC, hSS, hL⟩ := hR
  intro a ha h1 ls H locs hl hH hHM hS c1 c2 c3 c4
  have h8 : -128 ≤ n ∧ n < 128 := by simpa [jin8] using hn
  have h3 : in32 n := by unfold in32; omega
  refine lv_bipush hx hb hd (v := Int32.ofInt n) ?_ (k a ha h1 ls H locs hl hH hHM hS c1 (jc_cons h3 c2) c3 c4)
  apply Int32.toInt_inj.mp
  rw [Int8.toInt_toInt32, i32_toInt' h3, Int8.toInt_ofInt_of_le (by omega) (by omega)]
theorem v_iload_n (hR : jR3 l gX gM b0 L xs K) {k0 : Fin 4} {i : Nat} {x : Int} (j : Nat) (hd : decode code pc = .ok (.iload_n k0, 1)) (hi : (k0 : Nat) = i) (hv : lv[j]? = some (i, 0, x)) (k : jZ3 K (pc + 1) lv ((0, x) :: st) X Y t) : jZ3 K pc lv st X Y t := by
  obtain ⟨p, e, s, m, below, meth, c, CC, SS, rfl, hx, hb, hml, hown, hts, hlk, hrt, hK, hg1, hg2, hEX, hEM, hXs, hbl, hgb, hgm, hCC, hSS, hL⟩ := hR
  intro a ha h1 ls H locs hl hH hHM hS c1 c2 c3 c4
  exact lv_iload_n hx hb hd hi (lv_at hl j (jl_at hv)) (k a ha h1 ls H locs hl hH hHM hS c1 (jc_cons (jl_can hv c1) c2) c3 c4)
theorem v_aload_n (hR : jR3 l gX gM b0 L xs K) {k0 : Fin 4} {i n : Nat} (j : Nat) (hd : decode code pc = .ok (.aload_n k0, 1)) (hi : (k0 : Nat) = i) (hv : lv[j]? = some (i, 4, (n : Int))) (k : jZ3 K (pc + 1) lv ((4, (n : Int)) :: st) X Y t) : jZ3 K pc lv st X Y t := by
  obtain ⟨p, e, s, m, below, meth, c, CC, SS, rfl, hx, hb, hml, hown, hts, hlk, hrt, hK, hg1, hg2, hEX, hEM, hXs, hbl, hgb, hgm, hCC, hSS, hL⟩ := hR
  intro a ha h1 ls H locs hl hH hHM hS c1 c2 c3 c4
  exact lv_aload_n hx hb hd hi (lv_at hl j (jl_at hv)) (k a ha h1 ls H locs hl hH hHM hS c1 (jc_cons trivial c2) c3 c4)
theorem v_iinc (hR : jR3 l gX gM b0 L xs K) {i j : Nat} {n x : Int} {lv' : jL} (hd : decode code pc = .ok (.iinc i n, 3)) (hj : lv[j]? = some (i, 0, x)) (hn : i < 4) (hv : (i, 0, w32 (x + n)) :: lv.filter (fun q => !(q.1 == i) && !(q.1 + 1 == i && q.2.1 == 1)) = lv') (k : jZ3 K (pc + 3) lv' st X Y t) : jZ3 K pc lv st X Y t := by
  obtain ⟨p, e, s, m, below, meth, c, CC, SS, rfl, hx, hb, hml, hown, hts, hlk, hrt, hK, hg1, hg2, hEX, hEM, hXs, hbl, hgb, hgm, hCC, hSS, hL⟩ := hR
  intro a ha h1 ls H locs hl hH hHM hS c1 c2 c3 c4
  exact lv_iinc hx hb hd hl (jl_at hj) (i32_add x n).symm hn (jl_st1 hv) (fun ls' hl' => k a ha h1 ls' H locs hl' hH hHM hS (jl_stc hv (w32_in _) c1) c2 c3 c4)
theorem v_iadd (hR : jR3 l gX gM b0 L xs K) {x y : Int} (hd : decode code pc = .ok (.iadd, 1)) (k : jZ3 K (pc + 1) lv ((0, w32 (x + y)) :: st) X Y t) : jZ3 K pc lv ((0, y) :: (0, x) :: st) X Y t := by
  obtain ⟨p, e, s, m, below, meth, c, CC, SS, rfl, hx, hb, hml, hown, hts, hlk, hrt, hK, hg1, hg2, hEX, hEM, hXs, hbl, hgb, hgm, hCC, hSS, hL⟩ := hR
  intro a ha h1 ls H locs hl hH hHM hS c1 c2 c3 c4
  refine lv_iadd (x := Int32.ofInt x) (y := Int32.ofInt y) hx hb hd ?_
  rw [← i32_add]
  exact k a ha h1 ls H locs hl hH hHM hS c1 (jc_cons (w32_in _) (jc_tl (jc_tl c2))) c3 c4
theorem v_isub (hR : jR3 l gX gM b0 L xs K) {x y : Int} (hd : decode code pc = .ok (.isub, 1)) (k : jZ3 K (pc + 1) lv ((0, w32 (x - y)) :: st) X Y t) : jZ3 K pc lv ((0, y) :: (0, x) :: st) X Y t := by
  obtain ⟨p, e, s, m, below, meth, c, CC, SS, rfl, hx, hb, hml, hown, hts, hlk, hrt, hK, hg1, hg2, hEX, hEM, hXs, hbl, hgb, hgm, hCC, hSS, hL⟩ := hR
  intro a ha h1 ls H locs hl hH hHM hS c1 c2 c3 c4
  refine lv_isub (x := Int32.ofInt x) (y := Int32.ofInt y) hx hb hd ?_
  rw [← i32_sub]
  exact k a ha h1 ls H locs hl hH hHM hS c1 (jc_cons (w32_in _) (jc_tl (jc_tl c2))) c3 c4
theorem v_iand (hR : jR3 l gX gM b0 L xs K) {x y : Int} (hd : decode code pc = .ok (.iand, 1)) (k : jZ3 K (pc + 1) lv ((0, jand x y) :: st) X Y t) : jZ3 K pc lv ((0, y) :: (0, x) :: st) X Y t := by
  obtain ⟨p, e, s, m, below, meth, c, CC, SS, rfl, hx, hb, hml, hown, hts, hlk, hrt, hK, hg1, hg2, hEX, hEM, hXs, hbl, hgb, hgm, hCC, hSS, hL⟩ := hR
  intro a ha h1 ls H locs hl hH hHM hS c1 c2 c3 c4
  refine lv_iand (x := Int32.ofInt x) (y := Int32.ofInt y) hx hb hd ?_
  rw [← i32_and]
  exact k a ha h1 ls H locs hl hH hHM hS c1 (jc_cons (toInt_in32 _) (jc_tl (jc_tl c2))) c3 c4
theorem v_goto (hR : jR3 l gX gM b0 L xs K) {off : Int} {tgt : Nat} (hd : decode code pc = .ok (.goto off, 3)) (ht : (pc : Int) + off = (tgt : Int)) (k : jZ3 K tgt lv st X Y t) : jZ3 K pc lv st X Y t := by
  obtain ⟨p, e, s, m, below, meth, c, CC, SS, rfl, hx, hb, hml, hown, hts, hlk, hrt, hK, hg1, hg2, hEX, hEM, hXs, hbl, hgb, hgm, hCC, hSS, hL⟩ := hR
  intro a ha h1 ls H locs hl hH hHM hS c1 c2 c3 c4
  exact lv_goto hx hb hd ht (k a ha h1 ls H locs hl hH hHM hS c1 c2 c3 c4)
theorem v_pick (hR : jR3 l gX gM b0 L xs K) {lv' : jL} (ks : List Nat) (h : ks.filterMap (fun k => lv[k]?) = lv') (k : jZ3 K pc lv' st X Y t) : jZ3 K pc lv st X Y t := by
  obtain ⟨p, e, s, m, below, meth, c, CC, SS, rfl, hx, hb, hml, hown, hts, hlk, hrt, hK, hg1, hg2, hEX, hEM, hXs, hbl, hgb, hgm, hCC, hSS, hL⟩ := hR
  intro a ha h1 ls H locs hl hH hHM hS c1 c2 c3 c4
  refine k a ha h1 ls H locs (lv_sub hl ks ?_) hH hHM hS ?_ c2 c3 c4
  · rw [← h]
    unfold lv_pick
    rw [List.map_filterMap]
    congr 1
    funext q
    rw [List.getElem?_map]
  · intro v hv
    rw [← h] at hv
    obtain ⟨q, _, hq⟩ := List.mem_filterMap.mp hv
    exact c1 v (List.mem_of_getElem? hq)
theorem v_icmpgt (hR : jR3 l gX gM b0 L xs K) {x y : Int} {off : Int} {tgt : Nat} {A B : Option Int} (hd : decode code pc = .ok (.if_icmp .gt off, 3)) (ht : (pc : Int) + off = (tgt : Int)) (kt : jZ3 K tgt lv st X Y A) (kf : jZ3 K (pc + 3) lv st X Y B) : jZ3 K pc lv ((0, y) :: (0, x) :: st) X Y (if y < x then A else B) := by
  obtain ⟨p, e, s, m, below, meth, c, CC, SS, rfl, hx, hb, hml, hown, hts, hlk, hrt, hK, hg1, hg2, hEX, hEM, hXs, hbl, hgb, hgm, hCC, hSS, hL⟩ := hR
  intro a ha h1 ls H locs hl hH hHM hS c1 c2 c3 c4
  have hl0 := i32_lt (jc_hd c2) (jc_hd (jc_tl c2))
  refine lv_icmp_gt (x := Int32.ofInt x) (y := Int32.ofInt y) hx hb hd ht (fun h => ?_) (fun h => ?_)
  · exact kt a (by rw [if_pos (hl0.mp h)] at ha; exact ha) h1 ls H locs hl hH hHM hS c1 (jc_tl (jc_tl c2)) c3 c4
  · exact kf a (by rw [if_neg (fun z => h (hl0.mpr z))] at ha; exact ha) h1 ls H locs hl hH hHM hS c1 (jc_tl (jc_tl c2)) c3 c4
theorem v_icmpeq (hR : jR3 l gX gM b0 L xs K) {x y : Int} {off : Int} {tgt : Nat} {A B : Option Int} (hd : decode code pc = .ok (.if_icmp .eq off, 3)) (ht : (pc : Int) + off = (tgt : Int)) (kt : jZ3 K tgt lv st X Y A) (kf : jZ3 K (pc + 3) lv st X Y B) : jZ3 K pc lv ((0, y) :: (0, x) :: st) X Y (if x = y then A else B) := by
  obtain ⟨p, e, s, m, below, meth, c, CC, SS, rfl, hx, hb, hml, hown, hts, hlk, hrt, hK, hg1, hg2, hEX, hEM, hXs, hbl, hgb, hgm, hCC, hSS, hL⟩ := hR
  intro a ha h1 ls H locs hl hH hHM hS c1 c2 c3 c4
  have hl0 := i32_eq (jc_hd (jc_tl c2)) (jc_hd c2)
  refine lv_icmp_eq (x := Int32.ofInt x) (y := Int32.ofInt y) hx hb hd ht (fun h => ?_) (fun h => ?_)
  · exact kt a (by rw [if_pos (hl0.mp h)] at ha; exact ha) h1 ls H locs hl hH hHM hS c1 (jc_tl (jc_tl c2)) c3 c4
  · exact kf a (by rw [if_neg (fun z => h (hl0.mpr z))] at ha; exact ha) h1 ls H locs hl hH hHM hS c1 (jc_tl (jc_tl c2)) c3 c4
theorem v_tsw (hR : jR3 l gX gM b0 L xs K) {x dflt lo hi off : Int} {offs : Array Int} {len tgt j : Nat} {y : Int} {A B : Option Int} (hd : decode code pc = .ok (.tableswitch dflt lo hi offs, len)) (hy : lo + (j : Int) = y) (hoff : offs[j]? = some off) (hhi : lo + (j : Int) ≤ hi) (ht : (pc : Int) + off = (tgt : Int)) (kt : jZ3 K tgt lv st X Y A) (kf : x ≠ y → jZ3 K pc lv ((0, x) :: st) X Y B) : jZ3 K pc lv ((0, x) :: st) X Y (if x = y then A else B) := by
  by_cases h : x = y
  · obtain ⟨p, e, s, m, below, meth, c, CC, SS, rfl, hx, hb, hml, hown, hts, hlk, hrt, hK, hg1, hg2, hEX, hEM, hXs, hbl, hgb, hgm, hCC, hSS, hL⟩ := hR
    intro a ha h1 ls H locs hl hH hHM hS c1 c2 c3 c4
    rw [if_pos h] at ha
    have hi0 : in32 x := jc_hd c2
    refine lv_tableIn (x := Int32.ofInt x) hx hb hd (by rw [i32_toInt' hi0]; omega) (by rw [i32_toInt' hi0]; omega) (off := off) ?_ ht (kt a ha h1 ls H locs hl hH hHM hS c1 (jc_tl c2) c3 c4)
    have e9 : (x - lo).toNat = j := by omega
    rw [i32_toInt' hi0, e9, hoff]
  · rw [if_neg h]; exact kf h
theorem v_tswd (hR : jR3 l gX gM b0 L xs K) {x dflt lo hi : Int} {offs : Array Int} {len tgt : Nat} (hd : decode code pc = .ok (.tableswitch dflt lo hi offs, len)) (ho : x < lo ∨ hi < x) (ht : (pc : Int) + dflt = (tgt : Int)) (kt : jZ3 K tgt lv st X Y t) : jZ3 K pc lv ((0, x) :: st) X Y t := by
  obtain ⟨p, e, s, m, below, meth, c, CC, SS, rfl, hx, hb, hml, hown, hts, hlk, hrt, hK, hg1, hg2, hEX, hEM, hXs, hbl, hgb, hgm, hCC, hSS, hL⟩ := hR
  intro a ha h1 ls H locs hl hH hHM hS c1 c2 c3 c4
  have hi0 : in32 x := jc_hd c2
  exact lv_tableOut (x := Int32.ofInt x) hx hb hd (by rw [i32_toInt' hi0]; exact ho) ht (kt a ha h1 ls H locs hl hH hHM hS c1 (jc_tl c2) c3 c4)
theorem v_slen (hR : jR3 l gX gM b0 L xs K) (hd : decode code pc = .ok (.arraylength, 1)) (k : jZ3 K (pc + 1) lv ((0, (L : Int)) :: st) X Y t) : jZ3 K pc lv ((4, (b0 : Int)) :: st) X Y t := by
  obtain ⟨p, e, s, m, below, meth, c, CC, SS, rfl, hx, hb, hml, hown, hts, hlk, hrt, hK, hg1, hg2, hEX, hEM, hXs, hbl, hgb, hgm, hCC, hSS, hL⟩ := hR
  intro a ha h1 ls H locs hl hH hHM hS c1 c2 c3 c4
  refine va_slen hx hb hXs hbl (Nat.not_le.mpr hbl) hS hd ?_
  have h2 := k a ha h1 ls H locs hl hH hHM hS c1 (jc_cons (show in32 _ by unfold in32; omega) (jc_tl c2)) c3 c4
  rw [List.map_cons] at h2
  rw [← Int32.ofInt_eq_ofNat]
  exact h2
def jsx (xs : Nat → Int32) (i : Int) : Int := (xs i.toNat).toInt
theorem v_sld (hR : jR3 l gX gM b0 L xs K) {i : Int} (h0 : 0 ≤ i) (hn : i < (L : Int)) (hd : decode code pc = .ok (.iaload, 1)) (k : jZ3 K (pc + 1) lv ((0, jsx xs i) :: st) X Y t) : jZ3 K pc lv ((0, i) :: (4, (b0 : Int)) :: st) X Y t := by
  obtain ⟨p, e, s, m, below, meth, c, CC, SS, rfl, hx, hb, hml, hown, hts, hlk, hrt, hK, hg1, hg2, hEX, hEM, hXs, hbl, hgb, hgm, hCC, hSS, hL⟩ := hR
  intro a ha h1 ls H locs hl hH hHM hS c1 c2 c3 c4
  have hi0 : in32 i := jc_hd c2
  refine va_sld (i := Int32.ofInt i) hx hb hXs hbl (Nat.not_le.mpr hbl) hS (vp_in_ok hi0 h0 hn) hd ?_
  have h2 := k a ha h1 ls H locs hl hH hHM hS c1 (jc_cons (toInt_in32 _) (jc_tl (jc_tl c2))) c3 c4
  rw [List.map_cons] at h2
  rw [i32_cl hi0, ← Int32.ofInt_toInt (xs i.toNat)]
  exact h2
theorem v_chk {c : Prop} [Decidable c] (k : c → jZ3 K pc lv st X Y t) : jZ3 K pc lv st X Y (jchk c t) := by
  intro a ha
  unfold jchk at ha
  by_cases h : c
  · rw [if_pos h] at ha; exact k h a ha
  · rw [if_neg h] at ha; cases ha
theorem v_fix {σ : Type} {body : (σ → Option Int) → σ → Option Int} {lv : σ → jL} {X Y : σ → jMem} (k : ∀ h : σ → Option Int, (∀ z, jZ3 K pc (lv z) [] (X z) (Y z) (h z)) → ∀ z, jZ3 K pc (lv z) [] (X z) (Y z) (body h z)) (n : Nat) (z : σ) : jZ3 K pc (lv z) [] (X z) (Y z) (jfix n body z) := by
  induction n generalizing z with
  | zero => intro a ha; cases ha
  | succ n ih => exact k (jfix n body) ih z
theorem v_ret0 (hR : jR3 l gX gM b0 L xs K) : jZ3 K pc lv st X Y (some 0) := by
  obtain ⟨p, e, s, m, below, meth, c, CC, SS, rfl, hx, hb, hml, hown, hts, hlk, hrt, hK, hg1, hg2, hEX, hEM, hXs, hbl, hgb, hgm, hCC, hSS, hL⟩ := hR
  intro a ha h1 ls H locs hl hH hHM hS c1 c2 c3 c4
  cases ha; cases h1
theorem v_ret1 (hR : jR3 l gX gM b0 L xs K) (hd : decode code pc = .ok (.ireturn, 1)) : jZ3 K pc lv [(0, 1)] X Y (some 1) := by
  obtain ⟨p, e, s, m, below, meth, c, CC, SS, rfl, hx, hb, hml, hown, hts, hlk, hrt, hK, hg1, hg2, hEX, hEM, hXs, hbl, hgb, hgm, hCC, hSS, hL⟩ := hR
  intro a ha h1 ls H locs hl hH hHM hS c1 c2 c3 c4
  refine va_forget (fun q hq => hS.2.2 q hq) ?_
  exact W.widen hCC hSS (lw_ret hx hb hrt hlk hd)

theorem v_callx1 (hR : jR3 l gX gM b0 L xs K) {y : MethodName} {cc' : ByteArray} {mL n d' idx : Nat} {As : List jV} {f : Option (Int × jMem)} {kt : Int → jMem → Option Int} (hy : jVm RX11 y cc' mL (some .int) n) (hlk' : Cond.methodLink RL idx y ∈ lw_g) (hf : ∀ o, f = some o → jCt l gX jTX y cc' mL (some .int) 0 d' ((2, 0) :: As) X o) (hint : ∀ v ∈ As, jv gX.2.2 v = jv 0 v) (hn : As.length = n) (hd' : d' < 1000) (hmL : mL ≤ 45) (hst : st0 = As.reverse ++ (4, (gX.2.2 : Int)) :: st) (hrest : jcs st ≤ 8) (hd : decode code pc = .ok (.invokevirtual idx, 3)) (kk : ∀ r M', jZ3 K (pc + 3) lv ((0, r) :: st) M' Y (kt r M')) : jZ3 K pc lv st0 X Y (jb1 f kt) := by
  obtain ⟨p, e, s, m, below, meth, c, CC, SS, rfl, hx, hb, hml, hown, hts, hlk, hrt, hK, hg1, hg2, hEX, hEM, hXs, hbl, hgb, hgm, hCC, hSS, hL⟩ := hR
  intro a ha h1 ls H locs hl hH hHM hS c1 c2 c3 c4
  cases hfo : f with
  | none => rw [hfo] at ha; cases (show (none : Option Int) = some a from ha)
  | some o =>
  rw [hfo] at ha
  have hcA : ∀ v ∈ (2, 0) :: As, jcan v := by
    intro v hv
    rcases List.mem_cons.mp hv with rfl | h2
    · trivial
    · refine c2 v ?_
      rw [hst]
      exact List.mem_append_left _ (List.mem_reverse.mpr h2)
  have c2' : ∀ v ∈ st, jcan v := fun v hv => c2 v (by rw [hst]; exact List.mem_append_right _ (List.mem_cons_of_mem _ hv))
  obtain ⟨w1, w2, w3, w4, hdd⟩ := hy
  have hG : GoodIn lw_g (wsV RL idx RX11 y (.code y cc' mL (some .int) :: lw_g)) := jgood (fun w hw => by
    rcases List.mem_append.mp hw with h | h
    · rcases List.mem_cons.mp h with rfl | h
      · exact hlk'
      rcases List.mem_cons.mp h with rfl | h
      · exact w1
      rcases List.mem_cons.mp h with rfl | h
      · exact w2
      rcases List.mem_cons.mp h with rfl | h
      · exact w3
      cases h
    · rcases List.mem_cons.mp h with rfl | h
      · exact w4
      · exact h)
  have hKg : va_K gX.1 vwCl (jtys gX) s := hK
  have hge : gX.2.2 = s.heap.size := hgb
  have hjv : ∀ v : jV, v ∈ As → jv gX.2.2 v = jv 0 v := fun v hv => hint v hv
  have hSg : ∀ q : Nat, q < s.heap.size → ¬ jA gX jTX q → H[q]? = s.heap[q]? := fun q h1 _ => hS.2.1 q h1 (by omega)
  have hmap : As.map (jv gX.2.2) = As.map (jv 0) := List.map_congr_left hjv
  have hr1 : (jrm d').frames + 1 ≤ room_1.frames := by
    have h9 : room_1.frames = 2048 := rfl
    rw [h9]; show d' + 1 ≤ 2048; omega
  have hr2 : 8 + (mL + 11) + (jrm d').locals ≤ room_1.locals := by
    have h9 : room_1.locals = 84000 := rfl
    rw [h9]; show 8 + (mL + 11) + 64 * d' ≤ 84000; omega
  have hr3 : CC + 0 ≤ room_1.cells := by
    have h9 : room_1.cells = 600000 := rfl
    rw [h9]; omega
  have hr4 : SS + 0 ≤ room_1.slots := by
    have h9 : room_1.slots = 7302250 := rfl
    rw [h9]; omega
  have hrun := va_runV (As := As.map (jv gX.2.2)) (rest := st.map (jv 0)) (b := gX.2.2 + 0) (g := F0 m pc ls (st0.map (jv 0))) (n := n) (R := room_1) (below := below) (e := e) (meth := meth) (locs := locs) (cells := CC) (slots := SS) (H := H) ⟨hx, hb, hml, hown, hts⟩ (hf _ hfo hcA c3) (cwV n hts hG rfl rfl rfl hdd ⟨hr1, hr2⟩) ⟨fun a U g' mk hq2 => ⟨hq2.1, hq2.2.1, va_K.moved (u := U) (U := U.calling g' mk a) (Vm.Alike.refl U.vm) hq2.2.2.1, jE_call hq2.2.2.2⟩, va_recv hKg hH (ci := 11) rfl (jws_get (M := X) (id := 0) (by decide +kernel)), fun U hU hW => ⟨rfl, by rw [hU]; exact hH, va_K.moved hW.alike hKg, jE_go hEX hW (fun q h1 h2 => by rw [hU]; exact hSg q h1 h2)⟩⟩ rfl (by rw [List.length_map]; exact hn) hl.1 (by show st0.map (jv 0) = _; rw [hst, List.map_append, List.map_cons, List.map_reverse, hmap]; rfl) (lv_room (by rw [jcs_sum]; exact hrest)) hd ⟨hr3, hr4⟩
  intro T0 hT X0
  obtain ⟨v, st₀, t1, T', L1, h3, X', hL1, e1, e2, ⟨⟨hv, hP, hcn, hok⟩, hz, hk⟩, st1⟩ := hrun T0 hT X0
  cases hv
  rw [h3] at hz hk
  have hoth : jH gM jTM Y T'.heap := jH_kept hHM (fun q h4 h5 => by
    rw [e1]
    refine hk q h4 (fun h6 => ?_)
    have h7 : gM.2.2 ≤ q ∧ q < gM.2.2 + jTM.length := h5
    have h8 : gX.2.2 ≤ q ∧ q < gX.2.2 + jTX.length := h6
    have h9 : jTX.length = 281 := by decide +kernel
    omega)
  have hS' : va_S (fun q => s.heap.size ≤ q) s.heap T'.heap (locs ++ L1) := ⟨Nat.le_trans hS.1 (by rw [e1]; exact hz), fun q h4 h5 => by
      rw [e1, hk q (Nat.lt_of_lt_of_le h4 hS.1) (fun h6 => by
        have h8 : gX.2.2 ≤ q ∧ q < gX.2.2 + jTX.length := h6
        omega)]
      exact hS.2.1 q h4 h5, fun q hq => by
      rcases List.mem_append.mp hq with h | h
      · exact hS.2.2 q h
      · have h8 : gX.2.2 ≤ q.base ∧ q.base < gX.2.2 + jTX.length := hL1 q h
        show s.heap.size ≤ q.base
        omega⟩
  have h2 := kk o.1 o.2 a ha h1 ls T'.heap (locs ++ L1) hl (by rw [e1]; exact hP) hoth hS' c1 (jc_cons hcn c2') hok c4
  obtain ⟨t2, a1, b1⟩ := h2 T' rfl X'
  exact ⟨t2, st1 t2 a1, b1⟩

theorem v_callxp (hR : jR3 l gX gM b0 L xs K) {y : MethodName} {cc' : ByteArray} {mL n d' idx : Nat} {As : List jV} {f : Option Int} {kt : Int → Option Int} (hy : jVm RX11 y cc' mL (some .int) n) (hlk' : Cond.methodLink RL idx y ∈ lw_g) (hf : ∀ o, f = some o → jCt l gX jTX y cc' mL (some .int) 0 d' ((2, 0) :: As) X (o, X)) (hint : ∀ v ∈ As, jv gX.2.2 v = jv 0 v) (hn : As.length = n) (hd' : d' < 1000) (hmL : mL ≤ 45) (hst : st0 = As.reverse ++ (4, (gX.2.2 : Int)) :: st) (hrest : jcs st ≤ 8) (hd : decode code pc = .ok (.invokevirtual idx, 3)) (kk : ∀ r, jZ3 K (pc + 3) lv ((0, r) :: st) X Y (kt r)) : jZ3 K pc lv st0 X Y (f.bind kt) := by
  obtain ⟨p, e, s, m, below, meth, c, CC, SS, rfl, hx, hb, hml, hown, hts, hlk, hrt, hK, hg1, hg2, hEX, hEM, hXs, hbl, hgb, hgm, hCC, hSS, hL⟩ := hR
  intro a ha h1 ls H locs hl hH hHM hS c1 c2 c3 c4
  cases hfo : f with
  | none => rw [hfo] at ha; cases (show (none : Option Int) = some a from ha)
  | some o =>
  rw [hfo] at ha
  have hcA : ∀ v ∈ (2, 0) :: As, jcan v := by
    intro v hv
    rcases List.mem_cons.mp hv with rfl | h2
    · trivial
    · refine c2 v ?_
      rw [hst]
      exact List.mem_append_left _ (List.mem_reverse.mpr h2)
  have c2' : ∀ v ∈ st, jcan v := fun v hv => c2 v (by rw [hst]; exact List.mem_append_right _ (List.mem_cons_of_mem _ hv))
  obtain ⟨w1, w2, w3, w4, hdd⟩ := hy
  have hG : GoodIn lw_g (wsV RL idx RX11 y (.code y cc' mL (some .int) :: lw_g)) := jgood (fun w hw => by
    rcases List.mem_append.mp hw with h | h
    · rcases List.mem_cons.mp h with rfl | h
      · exact hlk'
      rcases List.mem_cons.mp h with rfl | h
      · exact w1
      rcases List.mem_cons.mp h with rfl | h
      · exact w2
      rcases List.mem_cons.mp h with rfl | h
      · exact w3
      cases h
    · rcases List.mem_cons.mp h with rfl | h
      · exact w4
      · exact h)
  have hKg : va_K gX.1 vwCl (jtys gX) s := hK
  have hge : gX.2.2 = s.heap.size := hgb
  have hjv : ∀ v : jV, v ∈ As → jv gX.2.2 v = jv 0 v := fun v hv => hint v hv
  have hSg : ∀ q : Nat, q < s.heap.size → ¬ jA gX jTX q → H[q]? = s.heap[q]? := fun q h1 _ => hS.2.1 q h1 (by omega)
  have hmap : As.map (jv gX.2.2) = As.map (jv 0) := List.map_congr_left hjv
  have hr1 : (jrm d').frames + 1 ≤ room_1.frames := by
    have h9 : room_1.frames = 2048 := rfl
    rw [h9]; show d' + 1 ≤ 2048; omega
  have hr2 : 8 + (mL + 11) + (jrm d').locals ≤ room_1.locals := by
    have h9 : room_1.locals = 84000 := rfl
    rw [h9]; show 8 + (mL + 11) + 64 * d' ≤ 84000; omega
  have hr3 : CC + 0 ≤ room_1.cells := by
    have h9 : room_1.cells = 600000 := rfl
    rw [h9]; omega
  have hr4 : SS + 0 ≤ room_1.slots := by
    have h9 : room_1.slots = 7302250 := rfl
    rw [h9]; omega
  have hrun := va_runV (As := As.map (jv gX.2.2)) (rest := st.map (jv 0)) (b := gX.2.2 + 0) (g := F0 m pc ls (st0.map (jv 0))) (n := n) (R := room_1) (below := below) (e := e) (meth := meth) (locs := locs) (cells := CC) (slots := SS) (H := H) ⟨hx, hb, hml, hown, hts⟩ (hf _ hfo hcA c3) (cwV n hts hG rfl rfl rfl hdd ⟨hr1, hr2⟩) ⟨fun a U g' mk hq2 => ⟨hq2.1, hq2.2.1, va_K.moved (u := U) (U := U.calling g' mk a) (Vm.Alike.refl U.vm) hq2.2.2.1, jE_call hq2.2.2.2⟩, va_recv hKg hH (ci := 11) rfl (jws_get (M := X) (id := 0) (by decide +kernel)), fun U hU hW => ⟨rfl, by rw [hU]; exact hH, va_K.moved hW.alike hKg, jE_go hEX hW (fun q h1 h2 => by rw [hU]; exact hSg q h1 h2)⟩⟩ rfl (by rw [List.length_map]; exact hn) hl.1 (by show st0.map (jv 0) = _; rw [hst, List.map_append, List.map_cons, List.map_reverse, hmap]; rfl) (lv_room (by rw [jcs_sum]; exact hrest)) hd ⟨hr3, hr4⟩
  intro T0 hT X0
  obtain ⟨v, st₀, t1, T', L1, h3, X', hL1, e1, e2, ⟨⟨hv, hP, hcn, hok⟩, hz, hk⟩, st1⟩ := hrun T0 hT X0
  cases hv
  rw [h3] at hz hk
  have hoth : jH gM jTM Y T'.heap := jH_kept hHM (fun q h4 h5 => by
    rw [e1]
    refine hk q h4 (fun h6 => ?_)
    have h7 : gM.2.2 ≤ q ∧ q < gM.2.2 + jTM.length := h5
    have h8 : gX.2.2 ≤ q ∧ q < gX.2.2 + jTX.length := h6
    have h9 : jTX.length = 281 := by decide +kernel
    omega)
  have hS' : va_S (fun q => s.heap.size ≤ q) s.heap T'.heap (locs ++ L1) := ⟨Nat.le_trans hS.1 (by rw [e1]; exact hz), fun q h4 h5 => by
      rw [e1, hk q (Nat.lt_of_lt_of_le h4 hS.1) (fun h6 => by
        have h8 : gX.2.2 ≤ q ∧ q < gX.2.2 + jTX.length := h6
        omega)]
      exact hS.2.1 q h4 h5, fun q hq => by
      rcases List.mem_append.mp hq with h | h
      · exact hS.2.2 q h
      · have h8 : gX.2.2 ≤ q.base ∧ q.base < gX.2.2 + jTX.length := hL1 q h
        show s.heap.size ≤ q.base
        omega⟩
  have h2 := kk o a ha h1 ls T'.heap (locs ++ L1) hl (by rw [e1]; exact hP) hoth hS' c1 (jc_cons hcn c2') hok c4
  obtain ⟨t2, a1, b1⟩ := h2 T' rfl X'
  exact ⟨t2, st1 t2 a1, b1⟩


theorem v_callm1 (hR : jR3 l gX gM b0 L xs K) {y : MethodName} {cc' : ByteArray} {mL n d' idx : Nat} {As : List jV} {f : Option (Int × jMem)} {kt : Int → jMem → Option Int} (hy : jVm RX12 y cc' mL (some .int) n) (hlk' : Cond.methodLink RL idx y ∈ lw_g) (hf : ∀ o, f = some o → jCt l gM jTM y cc' mL (some .int) 0 d' ((2, 0) :: As) Y o) (hint : ∀ v ∈ As, jv gM.2.2 v = jv 0 v) (hn : As.length = n) (hd' : d' < 1000) (hmL : mL ≤ 45) (hst : st0 = As.reverse ++ (4, (gM.2.2 : Int)) :: st) (hrest : jcs st ≤ 8) (hd : decode code pc = .ok (.invokevirtual idx, 3)) (kk : ∀ r M', jZ3 K (pc + 3) lv ((0, r) :: st) X M' (kt r M')) : jZ3 K pc lv st0 X Y (jb1 f kt) := by
  obtain ⟨p, e, s, m, below, meth, c, CC, SS, rfl, hx, hb, hml, hown, hts, hlk, hrt, hK, hg1, hg2, hEX, hEM, hXs, hbl, hgb, hgm, hCC, hSS, hL⟩ := hR
  intro a ha h1 ls H locs hl hH hHM hS c1 c2 c3 c4
  cases hfo : f with
  | none => rw [hfo] at ha; cases (show (none : Option Int) = some a from ha)
  | some o =>
  rw [hfo] at ha
  have hcA : ∀ v ∈ (2, 0) :: As, jcan v := by
    intro v hv
    rcases List.mem_cons.mp hv with rfl | h2
    · trivial
    · refine c2 v ?_
      rw [hst]
      exact List.mem_append_left _ (List.mem_reverse.mpr h2)
  have c2' : ∀ v ∈ st, jcan v := fun v hv => c2 v (by rw [hst]; exact List.mem_append_right _ (List.mem_cons_of_mem _ hv))
  obtain ⟨w1, w2, w3, w4, hdd⟩ := hy
  have hG : GoodIn lw_g (wsV RL idx RX12 y (.code y cc' mL (some .int) :: lw_g)) := jgood (fun w hw => by
    rcases List.mem_append.mp hw with h | h
    · rcases List.mem_cons.mp h with rfl | h
      · exact hlk'
      rcases List.mem_cons.mp h with rfl | h
      · exact w1
      rcases List.mem_cons.mp h with rfl | h
      · exact w2
      rcases List.mem_cons.mp h with rfl | h
      · exact w3
      cases h
    · rcases List.mem_cons.mp h with rfl | h
      · exact w4
      · exact h)
  have hKg : va_K gM.1 vwCl (jtys gM) s := (by
    have e9 : jtys gM = jtys gX := by unfold jtys; rw [hg2]
    rw [hg1, e9]; exact hK)
  have hge : gM.2.2 = (s.heap.size + 281) := hgm
  have hjv : ∀ v : jV, v ∈ As → jv gM.2.2 v = jv 0 v := fun v hv => hint v hv
  have hSg : ∀ q : Nat, q < s.heap.size → ¬ jA gM jTM q → H[q]? = s.heap[q]? := fun q h1 _ => hS.2.1 q h1 (by omega)
  have hmap : As.map (jv gM.2.2) = As.map (jv 0) := List.map_congr_left hjv
  have hr1 : (jrm d').frames + 1 ≤ room_1.frames := by
    have h9 : room_1.frames = 2048 := rfl
    rw [h9]; show d' + 1 ≤ 2048; omega
  have hr2 : 8 + (mL + 11) + (jrm d').locals ≤ room_1.locals := by
    have h9 : room_1.locals = 84000 := rfl
    rw [h9]; show 8 + (mL + 11) + 64 * d' ≤ 84000; omega
  have hr3 : CC + 0 ≤ room_1.cells := by
    have h9 : room_1.cells = 600000 := rfl
    rw [h9]; omega
  have hr4 : SS + 0 ≤ room_1.slots := by
    have h9 : room_1.slots = 7302250 := rfl
    rw [h9]; omega
  have hrun := va_runV (As := As.map (jv gM.2.2)) (rest := st.map (jv 0)) (b := gM.2.2 + 0) (g := F0 m pc ls (st0.map (jv 0))) (n := n) (R := room_1) (below := below) (e := e) (meth := meth) (locs := locs) (cells := CC) (slots := SS) (H := H) ⟨hx, hb, hml, hown, hts⟩ (hf _ hfo hcA c4) (cwV n hts hG rfl rfl rfl hdd ⟨hr1, hr2⟩) ⟨fun a U g' mk hq2 => ⟨hq2.1, hq2.2.1, va_K.moved (u := U) (U := U.calling g' mk a) (Vm.Alike.refl U.vm) hq2.2.2.1, jE_call hq2.2.2.2⟩, va_recv hKg hHM (ci := 12) rfl (jws_get (M := Y) (id := 0) (by decide +kernel)), fun U hU hW => ⟨rfl, by rw [hU]; exact hHM, va_K.moved hW.alike hKg, jE_go hEM hW (fun q h1 h2 => by rw [hU]; exact hSg q h1 h2)⟩⟩ rfl (by rw [List.length_map]; exact hn) hl.1 (by show st0.map (jv 0) = _; rw [hst, List.map_append, List.map_cons, List.map_reverse, hmap]; rfl) (lv_room (by rw [jcs_sum]; exact hrest)) hd ⟨hr3, hr4⟩
  intro T0 hT X0
  obtain ⟨v, st₀, t1, T', L1, h3, X', hL1, e1, e2, ⟨⟨hv, hP, hcn, hok⟩, hz, hk⟩, st1⟩ := hrun T0 hT X0
  cases hv
  rw [h3] at hz hk
  have hoth : jH gX jTX X T'.heap := jH_kept hH (fun q h4 h5 => by
    rw [e1]
    refine hk q h4 (fun h6 => ?_)
    have h7 : gX.2.2 ≤ q ∧ q < gX.2.2 + jTX.length := h5
    have h8 : gM.2.2 ≤ q ∧ q < gM.2.2 + jTM.length := h6
    have h9 : jTX.length = 281 := by decide +kernel
    omega)
  have hS' : va_S (fun q => s.heap.size ≤ q) s.heap T'.heap (locs ++ L1) := ⟨Nat.le_trans hS.1 (by rw [e1]; exact hz), fun q h4 h5 => by
      rw [e1, hk q (Nat.lt_of_lt_of_le h4 hS.1) (fun h6 => by
        have h8 : gM.2.2 ≤ q ∧ q < gM.2.2 + jTM.length := h6
        omega)]
      exact hS.2.1 q h4 h5, fun q hq => by
      rcases List.mem_append.mp hq with h | h
      · exact hS.2.2 q h
      · have h8 : gM.2.2 ≤ q.base ∧ q.base < gM.2.2 + jTM.length := hL1 q h
        show s.heap.size ≤ q.base
        omega⟩
  have h2 := kk o.1 o.2 a ha h1 ls T'.heap (locs ++ L1) hl hoth (by rw [e1]; exact hP) hS' c1 (jc_cons hcn c2') c3 hok
  obtain ⟨t2, a1, b1⟩ := h2 T' rfl X'
  exact ⟨t2, st1 t2 a1, b1⟩

theorem v_callmp (hR : jR3 l gX gM b0 L xs K) {y : MethodName} {cc' : ByteArray} {mL n d' idx : Nat} {As : List jV} {f : Option Int} {kt : Int → Option Int} (hy : jVm RX12 y cc' mL (some .int) n) (hlk' : Cond.methodLink RL idx y ∈ lw_g) (hf : ∀ o, f = some o → jCt l gM jTM y cc' mL (some .int) 0 d' ((2, 0) :: As) Y (o, Y)) (hint : ∀ v ∈ As, jv gM.2.2 v = jv 0 v) (hn : As.length = n) (hd' : d' < 1000) (hmL : mL ≤ 45) (hst : st0 = As.reverse ++ (4, (gM.2.2 : Int)) :: st) (hrest : jcs st ≤ 8) (hd : decode code pc = .ok (.invokevirtual idx, 3)) (kk : ∀ r, jZ3 K (pc + 3) lv ((0, r) :: st) X Y (kt r)) : jZ3 K pc lv st0 X Y (f.bind kt) := by
  obtain ⟨p, e, s, m, below, meth, c, CC, SS, rfl, hx, hb, hml, hown, hts, hlk, hrt, hK, hg1, hg2, hEX, hEM, hXs, hbl, hgb, hgm, hCC, hSS, hL⟩ := hR
  intro a ha h1 ls H locs hl hH hHM hS c1 c2 c3 c4
  cases hfo : f with
  | none => rw [hfo] at ha; cases (show (none : Option Int) = some a from ha)
  | some o =>
  rw [hfo] at ha
  have hcA : ∀ v ∈ (2, 0) :: As, jcan v := by
    intro v hv
    rcases List.mem_cons.mp hv with rfl | h2
    · trivial
    · refine c2 v ?_
      rw [hst]
      exact List.mem_append_left _ (List.mem_reverse.mpr h2)
  have c2' : ∀ v ∈ st, jcan v := fun v hv => c2 v (by rw [hst]; exact List.mem_append_right _ (List.mem_cons_of_mem _ hv))
  obtain ⟨w1, w2, w3, w4, hdd⟩ := hy
  have hG : GoodIn lw_g (wsV RL idx RX12 y (.code y cc' mL (some .int) :: lw_g)) := jgood (fun w hw => by
    rcases List.mem_append.mp hw with h | h
    · rcases List.mem_cons.mp h with rfl | h
      · exact hlk'
      rcases List.mem_cons.mp h with rfl | h
      · exact w1
      rcases List.mem_cons.mp h with rfl | h
      · exact w2
      rcases List.mem_cons.mp h with rfl | h
      · exact w3
      cases h
    · rcases List.mem_cons.mp h with rfl | h
      · exact w4
      · exact h)
  have hKg : va_K gM.1 vwCl (jtys gM) s := (by
    have e9 : jtys gM = jtys gX := by unfold jtys; rw [hg2]
    rw [hg1, e9]; exact hK)
  have hge : gM.2.2 = (s.heap.size + 281) := hgm
  have hjv : ∀ v : jV, v ∈ As → jv gM.2.2 v = jv 0 v := fun v hv => hint v hv
  have hSg : ∀ q : Nat, q < s.heap.size → ¬ jA gM jTM q → H[q]? = s.heap[q]? := fun q h1 _ => hS.2.1 q h1 (by omega)
  have hmap : As.map (jv gM.2.2) = As.map (jv 0) := List.map_congr_left hjv
  have hr1 : (jrm d').frames + 1 ≤ room_1.frames := by
    have h9 : room_1.frames = 2048 := rfl
    rw [h9]; show d' + 1 ≤ 2048; omega
  have hr2 : 8 + (mL + 11) + (jrm d').locals ≤ room_1.locals := by
    have h9 : room_1.locals = 84000 := rfl
    rw [h9]; show 8 + (mL + 11) + 64 * d' ≤ 84000; omega
  have hr3 : CC + 0 ≤ room_1.cells := by
    have h9 : room_1.cells = 600000 := rfl
    rw [h9]; omega
  have hr4 : SS + 0 ≤ room_1.slots := by
    have h9 : room_1.slots = 7302250 := rfl
    rw [h9]; omega
  have hrun := va_runV (As := As.map (jv gM.2.2)) (rest := st.map (jv 0)) (b := gM.2.2 + 0) (g := F0 m pc ls (st0.map (jv 0))) (n := n) (R := room_1) (below := below) (e := e) (meth := meth) (locs := locs) (cells := CC) (slots := SS) (H := H) ⟨hx, hb, hml, hown, hts⟩ (hf _ hfo hcA c4) (cwV n hts hG rfl rfl rfl hdd ⟨hr1, hr2⟩) ⟨fun a U g' mk hq2 => ⟨hq2.1, hq2.2.1, va_K.moved (u := U) (U := U.calling g' mk a) (Vm.Alike.refl U.vm) hq2.2.2.1, jE_call hq2.2.2.2⟩, va_recv hKg hHM (ci := 12) rfl (jws_get (M := Y) (id := 0) (by decide +kernel)), fun U hU hW => ⟨rfl, by rw [hU]; exact hHM, va_K.moved hW.alike hKg, jE_go hEM hW (fun q h1 h2 => by rw [hU]; exact hSg q h1 h2)⟩⟩ rfl (by rw [List.length_map]; exact hn) hl.1 (by show st0.map (jv 0) = _; rw [hst, List.map_append, List.map_cons, List.map_reverse, hmap]; rfl) (lv_room (by rw [jcs_sum]; exact hrest)) hd ⟨hr3, hr4⟩
  intro T0 hT X0
  obtain ⟨v, st₀, t1, T', L1, h3, X', hL1, e1, e2, ⟨⟨hv, hP, hcn, hok⟩, hz, hk⟩, st1⟩ := hrun T0 hT X0
  cases hv
  rw [h3] at hz hk
  have hoth : jH gX jTX X T'.heap := jH_kept hH (fun q h4 h5 => by
    rw [e1]
    refine hk q h4 (fun h6 => ?_)
    have h7 : gX.2.2 ≤ q ∧ q < gX.2.2 + jTX.length := h5
    have h8 : gM.2.2 ≤ q ∧ q < gM.2.2 + jTM.length := h6
    have h9 : jTX.length = 281 := by decide +kernel
    omega)
  have hS' : va_S (fun q => s.heap.size ≤ q) s.heap T'.heap (locs ++ L1) := ⟨Nat.le_trans hS.1 (by rw [e1]; exact hz), fun q h4 h5 => by
      rw [e1, hk q (Nat.lt_of_lt_of_le h4 hS.1) (fun h6 => by
        have h8 : gM.2.2 ≤ q ∧ q < gM.2.2 + jTM.length := h6
        omega)]
      exact hS.2.1 q h4 h5, fun q hq => by
      rcases List.mem_append.mp hq with h | h
      · exact hS.2.2 q h
      · have h8 : gM.2.2 ≤ q.base ∧ q.base < gM.2.2 + jTM.length := hL1 q h
        show s.heap.size ≤ q.base
        omega⟩
  have h2 := kk o a ha h1 ls T'.heap (locs ++ L1) hl hoth (by rw [e1]; exact hP) hS' c1 (jc_cons hcn c2') c3 hok
  obtain ⟨t2, a1, b1⟩ := h2 T' rfl X'
  exact ⟨t2, st1 t2 a1, b1⟩


end Law3
