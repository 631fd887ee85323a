/-! fields, arrays, calls, ends -/
def jmin (x y : Int) : Int := if y < x then y else x
def jmax (x y : Int) : Int := if x < y then y else x
def jcp (M : jMem) (a0 a n : Int) : jMem := fun q => if q = a then (fun j => if 0 ≤ j ∧ j < n then M a0 j else M a j) else M q
theorem jcp_ne {M : jMem} {a0 a n q : Int} (h : q ≠ a) : jcp M a0 a n q = M q := by unfold jcp; rw [if_neg h]
theorem jcp_eq {M : jMem} {a0 a n : Int} : jcp M a0 a n a = fun j => if 0 ≤ j ∧ j < n then M a0 j else M a j := by unfold jcp; rw [if_pos rfl]
theorem jk_lt {T : List Nat} {q : Int} {ci : Nat} (h : jk T q ci) : q.toNat < T.length := (List.getElem?_eq_some_iff.mp h.2).1
theorem ja_lt {T : List Nat} {q : Int} {ty n : Nat} (h : ja T q ty n) : q.toNat < T.length := (List.getElem?_eq_some_iff.mp h.2.1).1
theorem vp_in_ok {i : Int} {n : Nat} (hi : in32 i) (h0 : 0 ≤ i) (hn : i < (n : Int)) : vp_in (Int32.ofInt i) n := by
  unfold vp_in
  rw [i32_lt0 hi, i32_cl hi]
  omega
theorem jok_cp {T : List Nat} {M : jMem} {x y : Int} {n : Int} {ty n0 n1 : Nat} (h0 : ja T x ty n0) (h1 : ja T y ty n1) (ht : ty < 4) (h : jok T M) : jok T (jcp M x y n) := by
  intro q j
  by_cases hq : (q : Int) = y
  · have e1 : jcd T q j = 0 := by
      have e2 := h1.2.1
      rw [← hq] at e2
      exact jcd_int e2 h1.2.2 ht
    rw [e1, hq, jcp_eq]
    by_cases hj : 0 ≤ (j : Int) ∧ (j : Int) < n
    · show jcan (0, if 0 ≤ (j : Int) ∧ (j : Int) < n then M x j else M y j)
      rw [if_pos hj]
      have h3 := h x.toNat j
      rw [jcd_int h0.2.1 h0.2.2 ht, Int.toNat_of_nonneg h0.1] at h3
      exact h3
    · show jcan (0, if 0 ≤ (j : Int) ∧ (j : Int) < n then M x j else M y j)
      rw [if_neg hj]
      have h3 := h q j
      rw [e1, hq] at h3
      exact h3
  · rw [jcp_ne hq]; exact h q j
section Cells
variable {l : Launch} {g : jG} {T : List Nat} {own : String} {cc : ByteArray} {nL rk d : Nat} {ret : Option FieldType} {K : Nat → jL → List jV → jMem → Int × jMem → Prop} {α : Type} {em : α → Int × jMem} {pc : Nat} {lv : jL} {st : List jV} {M : jMem} {t : Option α}

theorem z_geti (hR : jR l g T own cc nL rk ret d K) {ci k idx : Nat} {q j : Int} (hF : jF ci k own idx) (hq : jk T q ci) (hci : ci < 100) (hfl : (jFL ci)[k]? = some 0) (hj : ((k : Nat) : Int) = j) (hd : decode cc pc = .ok (.getfield idx, 3)) (kk : jZ K em (pc + 3) lv ((0, M q j) :: st) M t) : jZ K em pc lv ((2, q) :: st) M t := by
  obtain ⟨p, e, s, m, args, below, meth, c, rfl, hx, hb, hml, hown, hts, hlk, hrt, hK, hE⟩ := hR
  intro a ha ls H locs hl hH hS c1 c2 c3
  obtain ⟨C, Tb, N, hc, hin, hk, hlink⟩ := hF
  have hqe : ((q.toNat : Nat) : Int) = q := Int.toNat_of_nonneg hq.1
  have hcan := c3 q.toNat k
  rw [jcd_obj hq.2 hci hfl, hqe] at hcan
  rw [List.map_cons, jv_ref hq.1]
  refine va_get (ci := ci) (C := C) (T := Tb) (N := N) (fs := jfs g.2.2 q.toNat (M (q.toNat : Nat)) (jFL ci)) hx hb hts hin hown hK hH q.toNat (by rw [jws_get (jk_lt hq), jcell_obj hq.2 hci]) hc k hk (hts _ hlink) (fun _ h => h) (jfs_get hfl) hd ?_
  have h2 := kk a ha ls H locs hl hH hS c1 (jc_cons (by subst hj; exact hcan) (jc_tl c2)) c3
  rw [List.map_cons] at h2
  have e1 : jfld g.2.2 q.toNat (M (q.toNat : Nat)) k 0 = jv g.2.2 (0, M q j) := by
    subst hj; rw [hqe]; rfl
  rw [e1]
  exact h2

theorem z_getl (hR : jR l g T own cc nL rk ret d K) {ci k idx : Nat} {q j : Int} (hF : jF ci k own idx) (hq : jk T q ci) (hci : ci < 100) (hfl : (jFL ci)[k]? = some 1) (hj : ((k : Nat) : Int) = j) (hd : decode cc pc = .ok (.getfield idx, 3)) (kk : jZ K em (pc + 3) lv ((1, M q j) :: st) M t) : jZ K em pc lv ((2, q) :: st) M t := by
  obtain ⟨p, e, s, m, args, below, meth, c, rfl, hx, hb, hml, hown, hts, hlk, hrt, hK, hE⟩ := hR
  intro a ha ls H locs hl hH hS c1 c2 c3
  obtain ⟨C, Tb, N, hc, hin, hk, hlink⟩ := hF
  have hqe : ((q.toNat : Nat) : Int) = q := Int.toNat_of_nonneg hq.1
  have hcan := c3 q.toNat k
  rw [jcd_obj hq.2 hci hfl, hqe] at hcan
  rw [List.map_cons, jv_ref hq.1]
  refine va_get (ci := ci) (C := C) (T := Tb) (N := N) (fs := jfs g.2.2 q.toNat (M (q.toNat : Nat)) (jFL ci)) hx hb hts hin hown hK hH q.toNat (by rw [jws_get (jk_lt hq), jcell_obj hq.2 hci]) hc k hk (hts _ hlink) (fun _ h => h) (jfs_get hfl) hd ?_
  have h2 := kk a ha ls H locs hl hH hS c1 (jc_cons (by subst hj; exact hcan) (jc_tl c2)) c3
  rw [List.map_cons] at h2
  have e1 : jfld g.2.2 q.toNat (M (q.toNat : Nat)) k 1 = jv g.2.2 (1, M q j) := by
    subst hj; rw [hqe]; rfl
  rw [e1]
  exact h2

theorem z_getm (hR : jR l g T own cc nL rk ret d K) {ci k idx : Nat} {q j : Int} (hF : jF ci k own idx) (hq : jk T q ci) (hci : ci < 100) (hfl : (jFL ci)[k]? = some 2) (hj : ((k : Nat) : Int) = j) (hd : decode cc pc = .ok (.getfield idx, 3)) (kk : jZ K em (pc + 3) lv ((2, M q j) :: st) M t) : jZ K em pc lv ((2, q) :: st) M t := by
  obtain ⟨p, e, s, m, args, below, meth, c, rfl, hx, hb, hml, hown, hts, hlk, hrt, hK, hE⟩ := hR
  intro a ha ls H locs hl hH hS c1 c2 c3
  obtain ⟨C, Tb, N, hc, hin, hk, hlink⟩ := hF
  have hqe : ((q.toNat : Nat) : Int) = q := Int.toNat_of_nonneg hq.1
  have hcan := c3 q.toNat k
  rw [jcd_obj hq.2 hci hfl, hqe] at hcan
  rw [List.map_cons, jv_ref hq.1]
  refine va_get (ci := ci) (C := C) (T := Tb) (N := N) (fs := jfs g.2.2 q.toNat (M (q.toNat : Nat)) (jFL ci)) hx hb hts hin hown hK hH q.toNat (by rw [jws_get (jk_lt hq), jcell_obj hq.2 hci]) hc k hk (hts _ hlink) (fun _ h => h) (jfs_get hfl) hd ?_
  have h2 := kk a ha ls H locs hl hH hS c1 (jc_cons trivial (jc_tl c2)) c3
  rw [List.map_cons] at h2
  have e1 : jfld g.2.2 q.toNat (M (q.toNat : Nat)) k 2 = jv g.2.2 (2, M q j) := by
    subst hj; rw [hqe]; rfl
  rw [e1]
  exact h2

theorem z_getr (hR : jR l g T own cc nL rk ret d K) {ci k idx : Nat} {q r : Int} {c0 : Nat} (hF : jF ci k own idx) (hq : jk T q ci) (hci : ci < 100) (hfl : (jFL ci)[k]? = some (c0 + 3)) (hr : q + (c0 : Int) = r) (hd : decode cc pc = .ok (.getfield idx, 3)) (kk : jZ K em (pc + 3) lv ((2, r) :: st) M t) : jZ K em pc lv ((2, q) :: st) M t := by
  obtain ⟨p, e, s, m, args, below, meth, c, rfl, hx, hb, hml, hown, hts, hlk, hrt, hK, hE⟩ := hR
  intro a ha ls H locs hl hH hS c1 c2 c3
  obtain ⟨C, Tb, N, hc, hin, hk, hlink⟩ := hF
  have hqe : ((q.toNat : Nat) : Int) = q := Int.toNat_of_nonneg hq.1
  have hcan := c3 q.toNat k
  rw [jcd_obj hq.2 hci hfl, hqe] at hcan
  rw [List.map_cons, jv_ref hq.1]
  refine va_get (ci := ci) (C := C) (T := Tb) (N := N) (fs := jfs g.2.2 q.toNat (M (q.toNat : Nat)) (jFL ci)) hx hb hts hin hown hK hH q.toNat (by rw [jws_get (jk_lt hq), jcell_obj hq.2 hci]) hc k hk (hts _ hlink) (fun _ h => h) (jfs_get hfl) hd ?_
  have h2 := kk a ha ls H locs hl hH hS c1 (jc_cons trivial (jc_tl c2)) c3
  rw [List.map_cons] at h2
  have e1 : jfld g.2.2 q.toNat (M (q.toNat : Nat)) k (c0 + 3) = jv g.2.2 (2, r) := by
    have hq0 := hq.1
    have e2 : q.toNat + c0 = r.toNat := by omega
    rw [jv_ref (by omega), ← e2]
    rfl
  rw [e1]
  exact h2

theorem z_puti (hR : jR l g T own cc nL rk ret d K) {ci k idx : Nat} {q j x : Int} {ty : FieldType} {f : jMem → Option α} (hF : jP ci k own idx ty) (hq : jk T q ci) (hci : ci < 100) (hfl : (jFL ci)[k]? = some 0) (hj : ((k : Nat) : Int) = j) (hn : narrow ty (.int (Int32.ofInt x)) = .int (Int32.ofInt x)) (hf : fits ty (.int (Int32.ofInt x)) = true) (hd : decode cc pc = .ok (.putfield idx, 3)) (kk : ∀ M', jZ K em (pc + 3) lv st M' (f M')) : jZ K em pc lv ((0, x) :: (2, q) :: st) M (jlt (up M q j x) f) := by
  obtain ⟨p, e, s, m, args, below, meth, c, rfl, hx, hb, hml, hown, hts, hlk, hrt, hK, hE⟩ := hR
  intro a ha ls H locs hl hH hS c1 c2 c3
  obtain ⟨C, Tb, N, ty0, hc, hin, hk, hlink, hty, hnm, hfin, hdsc⟩ := hF
  have hqe : ((q.toNat : Nat) : Int) = q := Int.toNat_of_nonneg hq.1
  have hx0 : jcan (0, x) := jc_hd c2
  rw [List.map_cons, List.map_cons, jv_ref hq.1]
  refine va_put (ci := ci) (C := C) (T := Tb) (N := N) (fs := jfs g.2.2 q.toNat (M (q.toNat : Nat)) (jFL ci)) (v := jv g.2.2 (0, x)) (ty := ty) hx hb hts hin ty0 hty hnm hown hK hH (jws_D g T M) hS q.toNat (by rw [jws_get (jk_lt hq), jcell_obj hq.2 hci]) hc k hk (hts _ hlink) (fun _ h => h) hfin hdsc hn hf (by rw [jfs_len]; exact (List.getElem?_eq_some_iff.mp hfl).1) hd (fun H1 locs1 hP1 hD1 hS1 => ?_)
  have e0 : (up M q j x) (q.toNat : Nat) = fun j' => if j' = j then x else M q j' := by rw [hqe, up_eq]
  have e1 : jfld g.2.2 q.toNat ((up M q j x) (q.toNat : Nat)) k 0 = jv g.2.2 (0, x) := by
    rw [e0, ← hj]
    simp only [jfld, if_true]
    try rfl
  rw [← e1, jfs_set hfl (fun i hi => by rw [e0, hqe, ← hj]; dsimp only; rw [if_neg (by omega)]), ← jcell_obj (g := g) hq.2 hci, jws_set (jk_lt hq) (fun i hi => up_ne (by omega))] at hP1
  refine kk _ a ha ls H1 locs1 hl hP1 hS1 c1 (jc_tl (jc_tl c2)) ?_
  have h3 := jok_up (id := q.toNat) (j := k) c3 (x := x) (by rw [jcd_obj hq.2 hci hfl]; exact hx0)
  rw [hqe, hj] at h3
  exact h3

theorem z_putl (hR : jR l g T own cc nL rk ret d K) {ci k idx : Nat} {q j x : Int} {ty : FieldType} {f : jMem → Option α} (hF : jP ci k own idx ty) (hq : jk T q ci) (hci : ci < 100) (hfl : (jFL ci)[k]? = some 1) (hj : ((k : Nat) : Int) = j) (hn : narrow ty (.long (Int64.ofInt x)) = .long (Int64.ofInt x)) (hf : fits ty (.long (Int64.ofInt x)) = true) (hd : decode cc pc = .ok (.putfield idx, 3)) (kk : ∀ M', jZ K em (pc + 3) lv st M' (f M')) : jZ K em pc lv ((1, x) :: (2, q) :: st) M (jlt (up M q j x) f) := by
  obtain ⟨p, e, s, m, args, below, meth, c, rfl, hx, hb, hml, hown, hts, hlk, hrt, hK, hE⟩ := hR
  intro a ha ls H locs hl hH hS c1 c2 c3
  obtain ⟨C, Tb, N, ty0, hc, hin, hk, hlink, hty, hnm, hfin, hdsc⟩ := hF
  have hqe : ((q.toNat : Nat) : Int) = q := Int.toNat_of_nonneg hq.1
  have hx0 : jcan (1, x) := jc_hd c2
  rw [List.map_cons, List.map_cons, jv_ref hq.1]
  refine va_put (ci := ci) (C := C) (T := Tb) (N := N) (fs := jfs g.2.2 q.toNat (M (q.toNat : Nat)) (jFL ci)) (v := jv g.2.2 (1, x)) (ty := ty) hx hb hts hin ty0 hty hnm hown hK hH (jws_D g T M) hS q.toNat (by rw [jws_get (jk_lt hq), jcell_obj hq.2 hci]) hc k hk (hts _ hlink) (fun _ h => h) hfin hdsc hn hf (by rw [jfs_len]; exact (List.getElem?_eq_some_iff.mp hfl).1) hd (fun H1 locs1 hP1 hD1 hS1 => ?_)
  have e0 : (up M q j x) (q.toNat : Nat) = fun j' => if j' = j then x else M q j' := by rw [hqe, up_eq]
  have e1 : jfld g.2.2 q.toNat ((up M q j x) (q.toNat : Nat)) k 1 = jv g.2.2 (1, x) := by
    rw [e0, ← hj]
    simp only [jfld, if_true]
    try rfl
  rw [← e1, jfs_set hfl (fun i hi => by rw [e0, hqe, ← hj]; dsimp only; rw [if_neg (by omega)]), ← jcell_obj (g := g) hq.2 hci, jws_set (jk_lt hq) (fun i hi => up_ne (by omega))] at hP1
  refine kk _ a ha ls H1 locs1 hl hP1 hS1 c1 (jc_tl (jc_tl c2)) ?_
  have h3 := jok_up (id := q.toNat) (j := k) c3 (x := x) (by rw [jcd_obj hq.2 hci hfl]; exact hx0)
  rw [hqe, hj] at h3
  exact h3

theorem z_putm (hR : jR l g T own cc nL rk ret d K) {ci k idx : Nat} {q j x : Int} {ty : FieldType} {f : jMem → Option α} (hF : jP ci k own idx ty) (hq : jk T q ci) (hci : ci < 100) (hfl : (jFL ci)[k]? = some 2) (hj : ((k : Nat) : Int) = j) (h0 : 0 ≤ x) (hn : ∀ r : Nat, narrow ty (.ref r) = .ref r) (hf : ∀ r : Nat, fits ty (.ref r) = true) (hd : decode cc pc = .ok (.putfield idx, 3)) (kk : ∀ M', jZ K em (pc + 3) lv st M' (f M')) : jZ K em pc lv ((2, x) :: (2, q) :: st) M (jlt (up M q j x) f) := by
  obtain ⟨p, e, s, m, args, below, meth, c, rfl, hx, hb, hml, hown, hts, hlk, hrt, hK, hE⟩ := hR
  intro a ha ls H locs hl hH hS c1 c2 c3
  obtain ⟨C, Tb, N, ty0, hc, hin, hk, hlink, hty, hnm, hfin, hdsc⟩ := hF
  have hqe : ((q.toNat : Nat) : Int) = q := Int.toNat_of_nonneg hq.1
  have hx0 : jcan (2, x) := jc_hd c2
  rw [List.map_cons, List.map_cons, jv_ref hq.1]
  refine va_put (ci := ci) (C := C) (T := Tb) (N := N) (fs := jfs g.2.2 q.toNat (M (q.toNat : Nat)) (jFL ci)) (v := jv g.2.2 (2, x)) (ty := ty) hx hb hts hin ty0 hty hnm hown hK hH (jws_D g T M) hS q.toNat (by rw [jws_get (jk_lt hq), jcell_obj hq.2 hci]) hc k hk (hts _ hlink) (fun _ h => h) hfin hdsc (by rw [jv_ref h0]; exact hn _) (by rw [jv_ref h0]; exact hf _) (by rw [jfs_len]; exact (List.getElem?_eq_some_iff.mp hfl).1) hd (fun H1 locs1 hP1 hD1 hS1 => ?_)
  have e0 : (up M q j x) (q.toNat : Nat) = fun j' => if j' = j then x else M q j' := by rw [hqe, up_eq]
  have e1 : jfld g.2.2 q.toNat ((up M q j x) (q.toNat : Nat)) k 2 = jv g.2.2 (2, x) := by
    rw [e0, ← hj]
    simp only [jfld, if_true]
    try rfl
  rw [← e1, jfs_set hfl (fun i hi => by rw [e0, hqe, ← hj]; dsimp only; rw [if_neg (by omega)]), ← jcell_obj (g := g) hq.2 hci, jws_set (jk_lt hq) (fun i hi => up_ne (by omega))] at hP1
  refine kk _ a ha ls H1 locs1 hl hP1 hS1 c1 (jc_tl (jc_tl c2)) ?_
  have h3 := jok_up (id := q.toNat) (j := k) c3 (x := x) (by rw [jcd_obj hq.2 hci hfl]; exact hx0)
  rw [hqe, hj] at h3
  exact h3

theorem z_iald (hR : jR l g T own cc nL rk ret d K) {n : Nat} {q i : Int} (hq : ja T q 0 n) (h0 : 0 ≤ i) (hn : i < (n : Int)) (hd : decode cc pc = .ok (.iaload, 1)) (kk : jZ K em (pc + 1) lv ((0, M q i) :: st) M t) : jZ K em pc lv ((0, i) :: (2, q) :: st) M t := by
  obtain ⟨p, e, s, m, args, below, meth, c, rfl, hx, hb, hml, hown, hts, hlk, hrt, hK, hE⟩ := hR
  intro a ha ls H locs hl hH hS c1 c2 c3
  have hqe : ((q.toNat : Nat) : Int) = q := Int.toNat_of_nonneg hq.1
  have hie : ((i.toNat : Nat) : Int) = i := Int.toNat_of_nonneg h0
  have hi0 : in32 i := jc_hd c2
  have hcan := c3 q.toNat i.toNat
  rw [jcd_int hq.2.1 hq.2.2 (by decide), hqe, hie] at hcan
  rw [List.map_cons, List.map_cons, jv_ref hq.1]
  refine va_iald (i := Int32.ofInt i) hx hb hK hH q.toNat 0 (by rw [jws_get (ja_lt hq), jcell_int hq.2.1 hq.2.2 (by decide)]) rfl (vp_in_ok hi0 h0 hn) hd ?_
  rw [i32_cl hi0]
  show W p l e (jrm d) s m args below meth c H locs 0 0 _ (F0 m (pc + 1) ls (.int (Int32.ofInt (M (q.toNat : Nat) (i.toNat : Nat))) :: _))
  rw [hqe, hie]
  exact kk a ha ls H locs hl hH hS c1 (jc_cons hcan (jc_tl (jc_tl c2))) c3

theorem z_bald (hR : jR l g T own cc nL rk ret d K) {n : Nat} {q i : Int} (hq : ja T q 1 n) (h0 : 0 ≤ i) (hn : i < (n : Int)) (hd : decode cc pc = .ok (.baload, 1)) (kk : jZ K em (pc + 1) lv ((0, M q i) :: st) M t) : jZ K em pc lv ((0, i) :: (2, q) :: st) M t := by
  obtain ⟨p, e, s, m, args, below, meth, c, rfl, hx, hb, hml, hown, hts, hlk, hrt, hK, hE⟩ := hR
  intro a ha ls H locs hl hH hS c1 c2 c3
  have hqe : ((q.toNat : Nat) : Int) = q := Int.toNat_of_nonneg hq.1
  have hie : ((i.toNat : Nat) : Int) = i := Int.toNat_of_nonneg h0
  have hi0 : in32 i := jc_hd c2
  have hcan := c3 q.toNat i.toNat
  rw [jcd_int hq.2.1 hq.2.2 (by decide), hqe, hie] at hcan
  rw [List.map_cons, List.map_cons, jv_ref hq.1]
  refine va_bald (i := Int32.ofInt i) hx hb hK hH q.toNat 1 (by rw [jws_get (ja_lt hq), jcell_int hq.2.1 hq.2.2 (by decide)]) rfl (vp_in_ok hi0 h0 hn) hd ?_
  rw [i32_cl hi0]
  show W p l e (jrm d) s m args below meth c H locs 0 0 _ (F0 m (pc + 1) ls (.int (Int32.ofInt (M (q.toNat : Nat) (i.toNat : Nat))) :: _))
  rw [hqe, hie]
  exact kk a ha ls H locs hl hH hS c1 (jc_cons hcan (jc_tl (jc_tl c2))) c3

theorem z_sald (hR : jR l g T own cc nL rk ret d K) {n : Nat} {q i : Int} (hq : ja T q 2 n) (h0 : 0 ≤ i) (hn : i < (n : Int)) (hd : decode cc pc = .ok (.saload, 1)) (kk : jZ K em (pc + 1) lv ((0, M q i) :: st) M t) : jZ K em pc lv ((0, i) :: (2, q) :: st) M t := by
  obtain ⟨p, e, s, m, args, below, meth, c, rfl, hx, hb, hml, hown, hts, hlk, hrt, hK, hE⟩ := hR
  intro a ha ls H locs hl hH hS c1 c2 c3
  have hqe : ((q.toNat : Nat) : Int) = q := Int.toNat_of_nonneg hq.1
  have hie : ((i.toNat : Nat) : Int) = i := Int.toNat_of_nonneg h0
  have hi0 : in32 i := jc_hd c2
  have hcan := c3 q.toNat i.toNat
  rw [jcd_int hq.2.1 hq.2.2 (by decide), hqe, hie] at hcan
  rw [List.map_cons, List.map_cons, jv_ref hq.1]
  refine va_sald (i := Int32.ofInt i) hx hb hK hH q.toNat 2 (by rw [jws_get (ja_lt hq), jcell_int hq.2.1 hq.2.2 (by decide)]) rfl (vp_in_ok hi0 h0 hn) hd ?_
  rw [i32_cl hi0]
  show W p l e (jrm d) s m args below meth c H locs 0 0 _ (F0 m (pc + 1) ls (.int (Int32.ofInt (M (q.toNat : Nat) (i.toNat : Nat))) :: _))
  rw [hqe, hie]
  exact kk a ha ls H locs hl hH hS c1 (jc_cons hcan (jc_tl (jc_tl c2))) c3

theorem z_zald (hR : jR l g T own cc nL rk ret d K) {n : Nat} {q i : Int} (hq : ja T q 3 n) (h0 : 0 ≤ i) (hn : i < (n : Int)) (hd : decode cc pc = .ok (.baload, 1)) (kk : jZ K em (pc + 1) lv ((0, M q i) :: st) M t) : jZ K em pc lv ((0, i) :: (2, q) :: st) M t := by
  obtain ⟨p, e, s, m, args, below, meth, c, rfl, hx, hb, hml, hown, hts, hlk, hrt, hK, hE⟩ := hR
  intro a ha ls H locs hl hH hS c1 c2 c3
  have hqe : ((q.toNat : Nat) : Int) = q := Int.toNat_of_nonneg hq.1
  have hie : ((i.toNat : Nat) : Int) = i := Int.toNat_of_nonneg h0
  have hi0 : in32 i := jc_hd c2
  have hcan := c3 q.toNat i.toNat
  rw [jcd_int hq.2.1 hq.2.2 (by decide), hqe, hie] at hcan
  rw [List.map_cons, List.map_cons, jv_ref hq.1]
  refine va_zald (i := Int32.ofInt i) hx hb hK hH q.toNat 3 (by rw [jws_get (ja_lt hq), jcell_int hq.2.1 hq.2.2 (by decide)]) rfl (vp_in_ok hi0 h0 hn) hd ?_
  rw [i32_cl hi0]
  show W p l e (jrm d) s m args below meth c H locs 0 0 _ (F0 m (pc + 1) ls (.int (Int32.ofInt (M (q.toNat : Nat) (i.toNat : Nat))) :: _))
  rw [hqe, hie]
  exact kk a ha ls H locs hl hH hS c1 (jc_cons hcan (jc_tl (jc_tl c2))) c3

theorem z_iast (hR : jR l g T own cc nL rk ret d K) {n : Nat} {q i x : Int} {f : jMem → Option α} (hq : ja T q 0 n) (h0 : 0 ≤ i) (hn : i < (n : Int)) (hd : decode cc pc = .ok (.iastore, 1)) (kk : ∀ M', jZ K em (pc + 1) lv st M' (f M')) : jZ K em pc lv ((0, x) :: (0, i) :: (2, q) :: st) M (jlt (up M q i x) f) := by
  obtain ⟨p, e, s, m, args, below, meth, c, rfl, hx, hb, hml, hown, hts, hlk, hrt, hK, hE⟩ := hR
  intro a ha ls H locs hl hH hS c1 c2 c3
  have hqe : ((q.toNat : Nat) : Int) = q := Int.toNat_of_nonneg hq.1
  have hie : ((i.toNat : Nat) : Int) = i := Int.toNat_of_nonneg h0
  have hx0 : in32 x := jc_hd c2
  have hi0 : in32 i := jc_hd (jc_tl c2)
  rw [List.map_cons, List.map_cons, List.map_cons, jv_ref hq.1]
  refine va_iast (i := Int32.ofInt i) (x := Int32.ofInt x) hx hb hK hH (jws_D g T M) hS q.toNat 0 (by rw [jws_get (ja_lt hq), jcell_int hq.2.1 hq.2.2 (by decide)]) rfl (vp_in_ok hi0 h0 hn) hd (fun H1 locs1 hP1 hD1 hS1 => ?_)
  have e1 : jcell g T ((up M q i x) (q.toNat : Nat)) q.toNat = .inl (g.2.1 0, n, .inl (upd (fun j => Int32.ofInt (M (q.toNat : Nat) j)) (Int32.ofInt i).toNatClampNeg (Int32.ofInt x))) := by
    rw [jcell_int hq.2.1 hq.2.2 (by decide), i32_cl hi0, hqe, up_eq]
    congr 3
    congr 1
    funext j
    unfold upd
    dsimp only
    by_cases hj : j = i.toNat
    · rw [if_pos hj, if_pos (by omega)]; try exact (rfl : Int32.ofInt x = _).symm
    · rw [if_neg hj, if_neg (by omega)]
  rw [← e1, jws_set (ja_lt hq) (fun k hk => up_ne (by omega))] at hP1
  refine kk _ a ha ls H1 locs1 hl hP1 hS1 c1 (jc_tl (jc_tl (jc_tl c2))) ?_
  have h3 := jok_up (id := q.toNat) (j := i.toNat) c3 (x := x) (by rw [jcd_int hq.2.1 hq.2.2 (by decide)]; exact hx0)
  rw [hqe, hie] at h3
  exact h3

theorem z_bast (hR : jR l g T own cc nL rk ret d K) {n : Nat} {q i x : Int} {f : jMem → Option α} (hq : ja T q 1 n) (h0 : 0 ≤ i) (hn : i < (n : Int)) (hd : decode cc pc = .ok (.bastore, 1)) (kk : ∀ M', jZ K em (pc + 1) lv st M' (f M')) : jZ K em pc lv ((0, x) :: (0, i) :: (2, q) :: st) M (jlt (up M q i (w8 x)) f) := by
  obtain ⟨p, e, s, m, args, below, meth, c, rfl, hx, hb, hml, hown, hts, hlk, hrt, hK, hE⟩ := hR
  intro a ha ls H locs hl hH hS c1 c2 c3
  have hqe : ((q.toNat : Nat) : Int) = q := Int.toNat_of_nonneg hq.1
  have hie : ((i.toNat : Nat) : Int) = i := Int.toNat_of_nonneg h0
  have hx0 : in32 x := jc_hd c2
  have hi0 : in32 i := jc_hd (jc_tl c2)
  rw [List.map_cons, List.map_cons, List.map_cons, jv_ref hq.1]
  refine va_bast (i := Int32.ofInt i) (x := Int32.ofInt x) hx hb hK hH (jws_D g T M) hS q.toNat 1 (by rw [jws_get (ja_lt hq), jcell_int hq.2.1 hq.2.2 (by decide)]) rfl (vp_in_ok hi0 h0 hn) hd (fun H1 locs1 hP1 hD1 hS1 => ?_)
  have e1 : jcell g T ((up M q i (w8 x)) (q.toNat : Nat)) q.toNat = .inl (g.2.1 1, n, .inl (upd (fun j => Int32.ofInt (M (q.toNat : Nat) j)) (Int32.ofInt i).toNatClampNeg (vp_nar .byte (Int32.ofInt x)))) := by
    rw [jcell_int hq.2.1 hq.2.2 (by decide), i32_cl hi0, hqe, up_eq]
    congr 3
    congr 1
    funext j
    unfold upd
    dsimp only
    by_cases hj : j = i.toNat
    · rw [if_pos hj, if_pos (by omega)]; try exact (i32_i8 hx0 : vp_nar .byte (Int32.ofInt x) = _).symm
    · rw [if_neg hj, if_neg (by omega)]
  rw [← e1, jws_set (ja_lt hq) (fun k hk => up_ne (by omega))] at hP1
  refine kk _ a ha ls H1 locs1 hl hP1 hS1 c1 (jc_tl (jc_tl (jc_tl c2))) ?_
  have h3 := jok_up (id := q.toNat) (j := i.toNat) c3 (x := (w8 x)) (by rw [jcd_int hq.2.1 hq.2.2 (by decide)]; exact w8_in _)
  rw [hqe, hie] at h3
  exact h3

theorem z_sast (hR : jR l g T own cc nL rk ret d K) {n : Nat} {q i x : Int} {f : jMem → Option α} (hq : ja T q 2 n) (h0 : 0 ≤ i) (hn : i < (n : Int)) (hd : decode cc pc = .ok (.sastore, 1)) (kk : ∀ M', jZ K em (pc + 1) lv st M' (f M')) : jZ K em pc lv ((0, x) :: (0, i) :: (2, q) :: st) M (jlt (up M q i (w16 x)) f) := by
  obtain ⟨p, e, s, m, args, below, meth, c, rfl, hx, hb, hml, hown, hts, hlk, hrt, hK, hE⟩ := hR
  intro a ha ls H locs hl hH hS c1 c2 c3
  have hqe : ((q.toNat : Nat) : Int) = q := Int.toNat_of_nonneg hq.1
  have hie : ((i.toNat : Nat) : Int) = i := Int.toNat_of_nonneg h0
  have hx0 : in32 x := jc_hd c2
  have hi0 : in32 i := jc_hd (jc_tl c2)
  rw [List.map_cons, List.map_cons, List.map_cons, jv_ref hq.1]
  refine va_sast (i := Int32.ofInt i) (x := Int32.ofInt x) hx hb hK hH (jws_D g T M) hS q.toNat 2 (by rw [jws_get (ja_lt hq), jcell_int hq.2.1 hq.2.2 (by decide)]) rfl (vp_in_ok hi0 h0 hn) hd (fun H1 locs1 hP1 hD1 hS1 => ?_)
  have e1 : jcell g T ((up M q i (w16 x)) (q.toNat : Nat)) q.toNat = .inl (g.2.1 2, n, .inl (upd (fun j => Int32.ofInt (M (q.toNat : Nat) j)) (Int32.ofInt i).toNatClampNeg (vp_nar .short (Int32.ofInt x)))) := by
    rw [jcell_int hq.2.1 hq.2.2 (by decide), i32_cl hi0, hqe, up_eq]
    congr 3
    congr 1
    funext j
    unfold upd
    dsimp only
    by_cases hj : j = i.toNat
    · rw [if_pos hj, if_pos (by omega)]; try exact (i32_i16 hx0 : vp_nar .short (Int32.ofInt x) = _).symm
    · rw [if_neg hj, if_neg (by omega)]
  rw [← e1, jws_set (ja_lt hq) (fun k hk => up_ne (by omega))] at hP1
  refine kk _ a ha ls H1 locs1 hl hP1 hS1 c1 (jc_tl (jc_tl (jc_tl c2))) ?_
  have h3 := jok_up (id := q.toNat) (j := i.toNat) c3 (x := (w16 x)) (by rw [jcd_int hq.2.1 hq.2.2 (by decide)]; exact w16_in _)
  rw [hqe, hie] at h3
  exact h3

theorem z_zast (hR : jR l g T own cc nL rk ret d K) {n : Nat} {q i x : Int} {f : jMem → Option α} (hq : ja T q 3 n) (h0 : 0 ≤ i) (hn : i < (n : Int)) (h01 : x = 0 ∨ x = 1) (hd : decode cc pc = .ok (.bastore, 1)) (kk : ∀ M', jZ K em (pc + 1) lv st M' (f M')) : jZ K em pc lv ((0, x) :: (0, i) :: (2, q) :: st) M (jlt (up M q i x) f) := by
  obtain ⟨p, e, s, m, args, below, meth, c, rfl, hx, hb, hml, hown, hts, hlk, hrt, hK, hE⟩ := hR
  intro a ha ls H locs hl hH hS c1 c2 c3
  have hqe : ((q.toNat : Nat) : Int) = q := Int.toNat_of_nonneg hq.1
  have hie : ((i.toNat : Nat) : Int) = i := Int.toNat_of_nonneg h0
  have hx0 : in32 x := jc_hd c2
  have hi0 : in32 i := jc_hd (jc_tl c2)
  have hnar : vp_nar .boolean (Int32.ofInt x) = Int32.ofInt x := by rcases h01 with rfl | rfl <;> decide +kernel
  rw [List.map_cons, List.map_cons, List.map_cons, jv_ref hq.1]
  refine va_zast (i := Int32.ofInt i) (x := Int32.ofInt x) hx hb hK hH (jws_D g T M) hS q.toNat 3 (by rw [jws_get (ja_lt hq), jcell_int hq.2.1 hq.2.2 (by decide)]) rfl (vp_in_ok hi0 h0 hn) hd (fun H1 locs1 hP1 hD1 hS1 => ?_)
  have e1 : jcell g T ((up M q i x) (q.toNat : Nat)) q.toNat = .inl (g.2.1 3, n, .inl (upd (fun j => Int32.ofInt (M (q.toNat : Nat) j)) (Int32.ofInt i).toNatClampNeg (vp_nar .boolean (Int32.ofInt x)))) := by
    rw [jcell_int hq.2.1 hq.2.2 (by decide), i32_cl hi0, hqe, up_eq, hnar]
    congr 3
    congr 1
    funext j
    unfold upd
    dsimp only
    by_cases hj : j = i.toNat
    · rw [if_pos hj, if_pos (by omega)]
    · rw [if_neg hj, if_neg (by omega)]
  rw [← e1, jws_set (ja_lt hq) (fun k hk => up_ne (by omega))] at hP1
  refine kk _ a ha ls H1 locs1 hl hP1 hS1 c1 (jc_tl (jc_tl (jc_tl c2))) ?_
  have h3 := jok_up (id := q.toNat) (j := i.toNat) c3 (x := x) (by rw [jcd_int hq.2.1 hq.2.2 (by decide)]; exact hx0)
  rw [hqe, hie] at h3
  exact h3
theorem z_lald (hR : jR l g T own cc nL rk ret d K) {n : Nat} {q i : Int} (hq : ja T q 4 n) (h0 : 0 ≤ i) (hn : i < (n : Int)) (hd : decode cc pc = .ok (.laload, 1)) (kk : jZ K em (pc + 1) lv ((1, M q i) :: st) M t) : jZ K em pc lv ((0, i) :: (2, q) :: st) M t := by
  obtain ⟨p, e, s, m, args, below, meth, c, rfl, hx, hb, hml, hown, hts, hlk, hrt, hK, hE⟩ := hR
  intro a ha ls H locs hl hH hS c1 c2 c3
  have hqe : ((q.toNat : Nat) : Int) = q := Int.toNat_of_nonneg hq.1
  have hie : ((i.toNat : Nat) : Int) = i := Int.toNat_of_nonneg h0
  have hi0 : in32 i := jc_hd c2
  have hcan := c3 q.toNat i.toNat
  rw [jcd_long hq.2.1 hq.2.2, hqe, hie] at hcan
  rw [List.map_cons, List.map_cons, jv_ref hq.1]
  refine va_lald (i := Int32.ofInt i) hx hb hK hH q.toNat 4 (by rw [jws_get (ja_lt hq), jcell_long hq.2.1 hq.2.2]) rfl (vp_in_ok hi0 h0 hn) hd ?_
  rw [i32_cl hi0]
  show W p l e (jrm d) s m args below meth c H locs 0 0 _ (F0 m (pc + 1) ls (.long (Int64.ofInt (M (q.toNat : Nat) (i.toNat : Nat))) :: _))
  rw [hqe, hie]
  exact kk a ha ls H locs hl hH hS c1 (jc_cons hcan (jc_tl (jc_tl c2))) c3
theorem z_last (hR : jR l g T own cc nL rk ret d K) {n : Nat} {q i x : Int} {f : jMem → Option α} (hq : ja T q 4 n) (h0 : 0 ≤ i) (hn : i < (n : Int)) (hd : decode cc pc = .ok (.lastore, 1)) (kk : ∀ M', jZ K em (pc + 1) lv st M' (f M')) : jZ K em pc lv ((1, x) :: (0, i) :: (2, q) :: st) M (jlt (up M q i x) f) := by
  obtain ⟨p, e, s, m, args, below, meth, c, rfl, hx, hb, hml, hown, hts, hlk, hrt, hK, hE⟩ := hR
  intro a ha ls H locs hl hH hS c1 c2 c3
  have hqe : ((q.toNat : Nat) : Int) = q := Int.toNat_of_nonneg hq.1
  have hie : ((i.toNat : Nat) : Int) = i := Int.toNat_of_nonneg h0
  have hx0 : in64 x := jc_hd c2
  have hi0 : in32 i := jc_hd (jc_tl c2)
  rw [List.map_cons, List.map_cons, List.map_cons, jv_ref hq.1]
  refine va_last (i := Int32.ofInt i) (x := Int64.ofInt x) hx hb hK hH (jws_D g T M) hS q.toNat 4 (by rw [jws_get (ja_lt hq), jcell_long hq.2.1 hq.2.2]) rfl (vp_in_ok hi0 h0 hn) hd (fun H1 locs1 hP1 hD1 hS1 => ?_)
  have e1 : jcell g T ((up M q i x) (q.toNat : Nat)) q.toNat = .inl (g.2.1 4, n, .inr (.inl (vp_updL (fun j => Int64.ofInt (M (q.toNat : Nat) j)) (Int32.ofInt i).toNatClampNeg (Int64.ofInt x)))) := by
    rw [jcell_long hq.2.1 hq.2.2, i32_cl hi0, hqe, up_eq]
    congr 4
    congr 1
    funext j
    unfold vp_updL
    dsimp only
    by_cases hj : j = i.toNat
    · rw [if_pos hj, if_pos (by omega)]
    · rw [if_neg hj, if_neg (by omega)]
  rw [← e1, jws_set (ja_lt hq) (fun k hk => up_ne (by omega))] at hP1
  refine kk _ a ha ls H1 locs1 hl hP1 hS1 c1 (jc_tl (jc_tl (jc_tl c2))) ?_
  have h3 := jok_up (id := q.toNat) (j := i.toNat) c3 (x := x) (by rw [jcd_long hq.2.1 hq.2.2]; exact hx0)
  rw [hqe, hie] at h3
  exact h3
theorem z_alen (hR : jR l g T own cc nL rk ret d K) {ty n : Nat} {q x : Int} (hq : ja T q ty n) (hty : ty < 8) (hx1 : (n : Int) = x) (hd : decode cc pc = .ok (.arraylength, 1)) (kk : jZ K em (pc + 1) lv ((0, x) :: st) M t) : jZ K em pc lv ((2, q) :: st) M t := by
  obtain ⟨p, e, s, m, args, below, meth, c, rfl, hx, hb, hml, hown, hts, hlk, hrt, hK, hE⟩ := hR
  intro a ha ls H locs hl hH hS c1 c2 c3
  subst hx1
  rw [List.map_cons, jv_ref hq.1]
  have hn := hq.2.2
  have h2 := kk a ha ls H locs hl hH hS c1 (jc_cons (show in32 _ by unfold in32; omega) (jc_tl c2)) c3
  have htys : ∃ ft, (jtys g)[ty]? = some (g.2.1 ty, ft) := by
    match ty, hty with
    | 0, _ => exact ⟨_, rfl⟩
    | 1, _ => exact ⟨_, rfl⟩
    | 2, _ => exact ⟨_, rfl⟩
    | 3, _ => exact ⟨_, rfl⟩
    | 4, _ => exact ⟨_, rfl⟩
    | 5, _ => exact ⟨_, rfl⟩
    | 6, _ => exact ⟨_, rfl⟩
    | 7, _ => exact ⟨_, rfl⟩
  obtain ⟨ft, hft⟩ := htys
  by_cases h4 : ty < 4
  · exact va_alen (x := (n, .inl (fun j => Int32.ofInt (M (q.toNat : Nat) j)))) hx hb hK hH q.toNat ty (by rw [jws_get (ja_lt hq), jcell_int hq.2.1 hq.2.2 h4]) hft Int32.ofInt_eq_ofNat.symm hd h2
  · by_cases h5 : ty = 4
    · subst h5
      exact va_alen (x := (n, .inr (.inl (fun j => Int64.ofInt (M (q.toNat : Nat) j))))) hx hb hK hH q.toNat 4 (by rw [jws_get (ja_lt hq), jcell_long hq.2.1 hq.2.2]) hft Int32.ofInt_eq_ofNat.symm hd h2
    · exact va_alen (x := (n, .inr (.inr (.inr (.inr (fun j => some (g.2.2 + jSt ty q.toNat j))))))) hx hb hK hH q.toNat ty (by rw [jws_get (ja_lt hq), jcell_refs hq.2.1 hq.2.2 (by omega)]) hft Int32.ofInt_eq_ofNat.symm hd h2

theorem z_aald5 (hR : jR l g T own cc nL rk ret d K) {n : Nat} {q i : Int} (hq : ja T q 5 n) (h0 : 0 ≤ i) (hn : i < (n : Int)) (hd : decode cc pc = .ok (.aaload, 1)) (kk : jZ K em (pc + 1) lv ((2, q + 164 + 6 * i) :: st) M t) : jZ K em pc lv ((0, i) :: (2, q) :: st) M t := by
  obtain ⟨p, e, s, m, args, below, meth, c, rfl, hx, hb, hml, hown, hts, hlk, hrt, hK, hE⟩ := hR
  intro a ha ls H locs hl hH hS c1 c2 c3
  have hi0 : in32 i := jc_hd c2
  have hq0 := hq.1
  rw [List.map_cons, List.map_cons, jv_ref hq.1]
  refine va_aldq (i := Int32.ofInt i) hx hb hK hH q.toNat 5 (by rw [jws_get (ja_lt hq), jcell_refs hq.2.1 hq.2.2 (by decide)]) rfl (vp_in_ok hi0 h0 hn) hd ?_
  rw [i32_cl hi0]
  have h2 := kk a ha ls H locs hl hH hS c1 (jc_cons trivial (jc_tl (jc_tl c2))) c3
  rw [List.map_cons, jv_ref (by omega)] at h2
  have e1 : (q + 164 + 6 * i).toNat = jSt 5 q.toNat i.toNat := by
    show _ = q.toNat + 164 + 6 * i.toNat
    omega
  rw [e1] at h2
  exact h2

theorem z_aald6 (hR : jR l g T own cc nL rk ret d K) {n : Nat} {q i : Int} (hq : ja T q 6 n) (h0 : 0 ≤ i) (hn : i < (n : Int)) (hd : decode cc pc = .ok (.aaload, 1)) (kk : jZ K em (pc + 1) lv ((2, q + 60 + 17 * i) :: st) M t) : jZ K em pc lv ((0, i) :: (2, q) :: st) M t := by
  obtain ⟨p, e, s, m, args, below, meth, c, rfl, hx, hb, hml, hown, hts, hlk, hrt, hK, hE⟩ := hR
  intro a ha ls H locs hl hH hS c1 c2 c3
  have hi0 : in32 i := jc_hd c2
  have hq0 := hq.1
  rw [List.map_cons, List.map_cons, jv_ref hq.1]
  refine va_aldq (i := Int32.ofInt i) hx hb hK hH q.toNat 6 (by rw [jws_get (ja_lt hq), jcell_refs hq.2.1 hq.2.2 (by decide)]) rfl (vp_in_ok hi0 h0 hn) hd ?_
  rw [i32_cl hi0]
  have h2 := kk a ha ls H locs hl hH hS c1 (jc_cons trivial (jc_tl (jc_tl c2))) c3
  rw [List.map_cons, jv_ref (by omega)] at h2
  have e1 : (q + 60 + 17 * i).toNat = jSt 6 q.toNat i.toNat := by
    show _ = q.toNat + 60 + 17 * i.toNat
    omega
  rw [e1] at h2
  exact h2

theorem z_aald7 (hR : jR l g T own cc nL rk ret d K) {n : Nat} {q i : Int} (hq : ja T q 7 n) (h0 : 0 ≤ i) (hn : i < (n : Int)) (hd : decode cc pc = .ok (.aaload, 1)) (kk : jZ K em (pc + 1) lv ((2, q + 1 + 6 * i) :: st) M t) : jZ K em pc lv ((0, i) :: (2, q) :: st) M t := by
  obtain ⟨p, e, s, m, args, below, meth, c, rfl, hx, hb, hml, hown, hts, hlk, hrt, hK, hE⟩ := hR
  intro a ha ls H locs hl hH hS c1 c2 c3
  have hi0 : in32 i := jc_hd c2
  have hq0 := hq.1
  rw [List.map_cons, List.map_cons, jv_ref hq.1]
  refine va_aldq (i := Int32.ofInt i) hx hb hK hH q.toNat 7 (by rw [jws_get (ja_lt hq), jcell_refs hq.2.1 hq.2.2 (by decide)]) rfl (vp_in_ok hi0 h0 hn) hd ?_
  rw [i32_cl hi0]
  have h2 := kk a ha ls H locs hl hH hS c1 (jc_cons trivial (jc_tl (jc_tl c2))) c3
  rw [List.map_cons, jv_ref (by omega)] at h2
  have e1 : (q + 1 + 6 * i).toNat = jSt 7 q.toNat i.toNat := by
    show _ = q.toNat + 1 + 6 * i.toNat
    omega
  rw [e1] at h2
  exact h2

theorem z_ifnonnull (hR : jR l g T own cc nL rk ret d K) {x off : Int} {tgt : Nat} {A B : Option α} (hd : decode cc pc = .ok (.ifnonnull off, 3)) (ht : (pc : Int) + off = (tgt : Int)) (kt : 0 ≤ x → jZ K em tgt lv st M B) (kf : x < 0 → jZ K em (pc + 3) lv st M A) : jZ K em pc lv ((2, x) :: st) M (if x < 0 then A else B) := by
  obtain ⟨p, e, s, m, args, below, meth, c, rfl, hx, hb, hml, hown, hts, hlk, hrt, hK, hE⟩ := hR
  intro a ha ls H locs hl hH hS c1 c2 c3
  rw [List.map_cons]
  by_cases h : x < 0
  · rw [jv_null h]
    rw [if_pos h] at ha
    exact lv_ifnonnullN hx hb hd (kf h a ha ls H locs hl hH hS c1 (jc_tl c2) c3)
  · rw [jv_ref (by omega)]
    rw [if_neg h] at ha
    exact lv_ifnonnull hx hb hd ht (kt (by omega) a ha ls H locs hl hH hS c1 (jc_tl c2) c3)
/-- a switch, case by case -/
theorem z_tsw (hR : jR l g T own cc nL rk ret d K) {x dflt lo hi off : Int} {offs : Array Int} {len tgt j : Nat} {y : Int} {A B : Option α} (hd : decode cc pc = .ok (.tableswitch dflt lo hi offs, len)) (hy : lo + (j : Int) = y) (hoff : offs[j]? = some off) (hhi : lo + (j : Int) ≤ hi) (ht : (pc : Int) + off = (tgt : Int)) (kt : jZ K em tgt lv st M A) (kf : x ≠ y → jZ K em pc lv ((0, x) :: st) M B) : jZ K em pc lv ((0, x) :: st) M (if x = y then A else B) := by
  by_cases h : x = y
  · obtain ⟨p, e, s, m, args, below, meth, c, rfl, hx, hb, hml, hown, hts, hlk, hrt, hK, hE⟩ := hR
    intro a ha ls H locs hl hH hS c1 c2 c3
    rw [if_pos h] at ha
    have hi0 : in32 x := jc_hd c2
    refine lv_tableIn (x := Int32.ofInt x) hx hb hd (by rw [i32_toInt' hi0]; omega) (by rw [i32_toInt' hi0]; omega) (off := off) ?_ ht (kt a ha ls H locs hl hH hS c1 (jc_tl c2) c3)
    rw [i32_toInt' hi0, ← hoff]
    congr 1
    omega
  · rw [if_neg h]; exact kf h
theorem z_tswd (hR : jR l g T own cc nL rk ret d K) {x dflt lo hi : Int} {offs : Array Int} {len tgt : Nat} (hd : decode cc pc = .ok (.tableswitch dflt lo hi offs, len)) (ho : x < lo ∨ hi < x) (ht : (pc : Int) + dflt = (tgt : Int)) (kt : jZ K em tgt lv st M t) : jZ K em pc lv ((0, x) :: st) M t := by
  obtain ⟨p, e, s, m, args, below, meth, c, rfl, hx, hb, hml, hown, hts, hlk, hrt, hK, hE⟩ := hR
  intro a ha ls H locs hl hH hS c1 c2 c3
  have hi0 : in32 x := jc_hd c2
  exact lv_tableOut (x := Int32.ofInt x) hx hb hd (by rw [i32_toInt' hi0]; exact ho) ht (kt a ha ls H locs hl hH hS c1 (jc_tl c2) c3)
theorem z_ireturn (hR : jR l g T own cc nL rk ret d K) {x : Int} {v : α} (h3 : rk = 0) (hr : ret = some .int) (hd : decode cc pc = .ok (.ireturn, 1)) (he : em v = (x, M)) : jZ K em pc lv [(0, x)] M (some v) := by
  obtain ⟨p, e, s, m, args, below, meth, c, rfl, hx, hb, hml, hown, hts, hlk, hrt, hK, hE⟩ := hR
  intro a ha ls H locs hl hH hS c1 c2 c3
  cases ha
  subst h3; subst hr
  exact W.iret (v := Int32.ofInt x) hx hb hrt (fun t0 ht0 hW => ⟨by rw [he]; exact ⟨rfl, by rw [ht0]; exact hH, jc_hd c2, c3⟩, hS.F ht0⟩) hS.2.2 hd hlk
theorem z_zreturn (hR : jR l g T own cc nL rk ret d K) {x : Int} {v : α} (h3 : rk = 0) (hr : ret = some .boolean) (h01 : x = 0 ∨ x = 1) (hd : decode cc pc = .ok (.ireturn, 1)) (he : em v = (x, M)) : jZ K em pc lv [(0, x)] M (some v) := by
  obtain ⟨p, e, s, m, args, below, meth, c, rfl, hx, hb, hml, hown, hts, hlk, hrt, hK, hE⟩ := hR
  intro a ha ls H locs hl hH hS c1 c2 c3
  cases ha
  subst h3; subst hr
  have hn : narrow .boolean (.int (Int32.ofInt x)) = .int (Int32.ofInt x) := by rcases h01 with rfl | rfl <;> rfl
  exact W.zret (v := Int32.ofInt x) hx hb hrt hn (fun t0 ht0 hW => ⟨by rw [he]; exact ⟨rfl, by rw [ht0]; exact hH, jc_hd c2, c3⟩, hS.F ht0⟩) hS.2.2 hd hlk
theorem z_lreturn (hR : jR l g T own cc nL rk ret d K) {x : Int} {v : α} (h3 : rk = 1) (hr : ret = some .long) (hd : decode cc pc = .ok (.lreturn, 1)) (he : em v = (x, M)) : jZ K em pc lv [(1, x)] M (some v) := by
  obtain ⟨p, e, s, m, args, below, meth, c, rfl, hx, hb, hml, hown, hts, hlk, hrt, hK, hE⟩ := hR
  intro a ha ls H locs hl hH hS c1 c2 c3
  cases ha
  subst h3; subst hr
  exact W.lret (v := Int64.ofInt x) hx hb hrt (fun t0 ht0 hW => ⟨by rw [he]; exact ⟨rfl, by rw [ht0]; exact hH, jc_hd c2, c3⟩, hS.F ht0⟩) hS.2.2 hd hlk
theorem z_areturn (hR : jR l g T own cc nL rk ret d K) {x : Int} {v : α} {nm : String} (h3 : rk = 2) (hr : ret = some (.object nm)) (hd : decode cc pc = .ok (.areturn, 1)) (he : em v = (x, M)) : jZ K em pc lv [(2, x)] M (some v) := by
  obtain ⟨p, e, s, m, args, below, meth, c, rfl, hx, hb, hml, hown, hts, hlk, hrt, hK, hE⟩ := hR
  intro a ha ls H locs hl hH hS c1 c2 c3
  cases ha
  subst h3; subst hr
  have hv : jv g.2.2 (2, x) = .null ∨ ∃ q, jv g.2.2 (2, x) = .ref q := by
    by_cases h : x < 0
    · exact Or.inl (jv_null h)
    · exact Or.inr ⟨_, jv_ref (by omega)⟩
  exact W.aret (v := jv g.2.2 (2, x)) hx hb hrt (Or.inl ⟨nm, rfl⟩) hv (fun t0 ht0 hW => ⟨by rw [he]; exact ⟨rfl, by rw [ht0]; exact hH, jc_hd c2, c3⟩, hS.F ht0⟩) hS.2.2 hd hlk
theorem z_return (hR : jR l g T own cc nL rk ret d K) {x : Int} {v : α} (h3 : rk = 3) (hr : ret = none) (hd : decode cc pc = .ok (.return_, 1)) (he : em v = (x, M)) : jZ K em pc lv [] M (some v) := by
  obtain ⟨p, e, s, m, args, below, meth, c, rfl, hx, hb, hml, hown, hts, hlk, hrt, hK, hE⟩ := hR
  intro a ha ls H locs hl hH hS c1 c2 c3
  cases ha
  subst h3; subst hr
  exact W.vret hx hb hrt (fun t0 ht0 hW => ⟨by rw [he]; exact ⟨rfl, by rw [ht0]; exact hH, trivial, c3⟩, hS.F ht0⟩) hS.2.2 hd hlk
end Cells
