/-! from the entry of the law to its loop -/
theorem jk_RL_7 : Cond.classLink R_law 7 RX11 ∈ lw_g := lw_in (List.mem_append_right _ (List.mem_append_left _ (List.mem_of_getElem? (i := 22) (by decide +kernel)))) rfl
theorem jk_RL_10 : Cond.classLink R_law 10 RX12 ∈ lw_g := lw_in (List.mem_append_right _ (List.mem_append_right _ (List.mem_append_right _ (List.mem_append_right _ (List.mem_append_right _ (List.mem_append_left _ (List.mem_of_getElem? (i := 181) (by decide +kernel)))))))) rfl
theorem ji_RX11 : Cond.instantiable RX11 13 ∈ lw_g := lw_in (List.mem_append_right _ (List.mem_append_left _ (List.mem_of_getElem? (i := 23) (by decide +kernel)))) rfl
theorem jz_RX11 : Cond.initialized RX11 ∈ lw_g := lw_in (List.mem_append_right _ (List.mem_append_left _ (List.mem_of_getElem? (i := 1) (by decide +kernel)))) rfl
theorem jq_X11_init : jIm yX11_init cX11_init 2 := ⟨lw_in (List.mem_append_right _ (List.mem_append_left _ (List.mem_of_getElem? (i := 25) (by decide +kernel)))) rfl, lw_in (List.mem_append_right _ (List.mem_append_left _ (List.mem_of_getElem? (i := 1) (by decide +kernel)))) rfl, lw_in (List.mem_append_right _ (List.mem_append_left _ (List.mem_of_getElem? (i := 26) (by decide +kernel)))) rfl, rfl, by decide +kernel⟩
theorem jl_RL_9 : Cond.methodLink R_law 9 yX11_init ∈ lw_g := lw_in (List.mem_append_right _ (List.mem_append_left _ (List.mem_of_getElem? (i := 24) (by decide +kernel)))) rfl
theorem ji_RX12 : Cond.instantiable RX12 42 ∈ lw_g := lw_in (List.mem_append_right _ (List.mem_append_right _ (List.mem_append_right _ (List.mem_append_right _ (List.mem_append_right _ (List.mem_append_left _ (List.mem_of_getElem? (i := 182) (by decide +kernel)))))))) rfl
theorem jz_RX12 : Cond.initialized RX12 ∈ lw_g := lw_in (List.mem_append_right _ (List.mem_append_left _ (List.mem_of_getElem? (i := 13) (by decide +kernel)))) rfl
theorem jq_X12_init : jIm yX12_init cX12_init 1 := ⟨lw_in (List.mem_append_right _ (List.mem_append_right _ (List.mem_append_right _ (List.mem_append_right _ (List.mem_append_right _ (List.mem_append_left _ (List.mem_of_getElem? (i := 184) (by decide +kernel)))))))) rfl, lw_in (List.mem_append_right _ (List.mem_append_left _ (List.mem_of_getElem? (i := 13) (by decide +kernel)))) rfl, lw_in (List.mem_append_right _ (List.mem_append_right _ (List.mem_append_right _ (List.mem_append_right _ (List.mem_append_right _ (List.mem_append_left _ (List.mem_of_getElem? (i := 185) (by decide +kernel)))))))) rfl, rfl, by decide +kernel⟩
theorem jl_RL_12 : Cond.methodLink R_law 12 yX12_init ∈ lw_g := lw_in (List.mem_append_right _ (List.mem_append_right _ (List.mem_append_right _ (List.mem_append_right _ (List.mem_append_right _ (List.mem_append_left _ (List.mem_of_getElem? (i := 183) (by decide +kernel)))))))) rfl
theorem jao_5 : Cond.arrayOver (.object RX5) ∈ lw_tbl := List.mem_append_right _ (List.mem_append_left _ (List.mem_of_getElem? (i := 117) (by decide +kernel)))
theorem jao_9 : Cond.arrayOver (.object RX9) ∈ lw_tbl := List.mem_append_right _ (List.mem_append_right _ (List.mem_append_left _ (List.mem_of_getElem? (i := 4) (by decide +kernel))))
theorem jao_7 : Cond.arrayOver (.object RX7) ∈ lw_tbl := List.mem_append_right _ (List.mem_append_left _ (List.mem_of_getElem? (i := 231) (by decide +kernel)))
theorem jnest_ok : ∀ x ∈ jNest, Cond.methodLinkNest x.1 x.2.1 x.2.2 RX11 ∈ lw_tbl := by decide +kernel
theorem jsr_0 : Cond.stringRef RX8 48 jTx0 ∈ lw_tbl := List.mem_append_right _ (List.mem_append_right _ (List.mem_append_left _ (List.mem_of_getElem? (i := 201) (by decide +kernel))))
theorem jsr_1 : Cond.stringRef RX8 64 jTx1 ∈ lw_tbl := List.mem_append_right _ (List.mem_append_right _ (List.mem_append_right _ (List.mem_append_left _ (List.mem_of_getElem? (i := 17) (by decide +kernel)))))
theorem jls_0 : Cond.laysStatic "java/lang/String" "COMPACT_STRINGS" "Z" ∈ lw_tbl := List.mem_append_right _ (List.mem_append_right _ (List.mem_append_left _ (List.mem_of_getElem? (i := 211) (by decide +kernel))))
theorem jls_0i : Cond.initialized "java/lang/String" ∈ lw_tbl := List.mem_append_right _ (List.mem_append_left _ (List.mem_of_getElem? (i := 14) (by decide +kernel)))
theorem jls_1 : Cond.laysStatic "jdk/internal/util/Preconditions" "SIOOBE_FORMATTER" "Ljava/util/function/BiFunction;" ∈ lw_tbl := List.mem_append_right _ (List.mem_append_right _ (List.mem_append_left _ (List.mem_of_getElem? (i := 227) (by decide +kernel))))
theorem jls_1i : Cond.initialized "jdk/internal/util/Preconditions" ∈ lw_tbl := List.mem_append_right _ (List.mem_append_left _ (List.mem_of_getElem? (i := 16) (by decide +kernel)))
section Enter
variable {p : Program} {l : Launch} {e : Env} {R : Room} {s : State} {m : MethodId} {args : Array Value} {below : List Frame} {meth : Method} {c : Code} {H : Heap} {locs : List Loc} {cells slots : Nat} {Q : State → Prop} {cc : ByteArray} {pc nL : Nat} {ls : Array Slot} {rest : List Value} {own : String} {g : jG} {T : List Nat} {M : jMem}
theorem wl_new {ci idx N : Nat} {C : String} {Tb : u_T} {ty : Nat → FieldType} (hx : p.tables.exec = Jvm.exec) (hb : c.code = cc) (hown : s.vm.findClass own = some m.cls) (hts : ∀ w ∈ lw_g, w.before args s = true) (hK : va_K g.1 vwCl (jtys g) s) (hc : vwCl[ci]? = some (C, Tb, N)) (hw : ∀ w ∈ u_ws C Tb N, w ∈ lw_g) (hty : ∀ k, k < N → parseFieldDescriptor (Tb k).2.2.1 = some (ty k)) (hci : ci < 100) (hN : (jFL ci).length = N) (hcd : ∀ k, k < N → jtc (ty k) ((jFL ci).getD k 0) = true) (w1 : Cond.classLink own idx C ∈ lw_g) (w2 : Cond.instantiable C N ∈ lw_g) (w3 : Cond.initialized C ∈ lw_g) (hH : jH1 g T M H) (hn : T[jn M]? = some ci) (hcells : cells + 1 ≤ R.cells) (hslots : slots + N ≤ R.slots) (hd : decode cc pc = .ok (.new idx, 3))
    (kk : ∀ H1 : Heap, jH1 g T (jnewM T M) H1 → H1.size = H.size + 1 → (∀ q : Nat, q < H.size → H1[q]? = H[q]?) → W p l e R s m args below meth c H1 locs (cells + 1) (slots + N) Q (F0 m (pc + 3) ls (.ref H.size :: rest))) : W p l e R s m args below meth c H locs cells slots Q (F0 m pc ls rest) := by
  have hKn := hK.1 ci _ hc
  refine W.newcK hx hb hown (hts _ w1) (hts _ w2) (hts _ w3) rfl hd hcells hslots hKn.2.1 rfl fun H1 kC hkC e1 z1 o1 => ?_
  refine kk H1 (jH1_grow hH z1 o1 ?_) z1 o1
  rw [jcell1_obj hn hci]
  refine ⟨_, hc, ?_⟩
  have e2 : H.size = g.2.2 + jn M := hH.2.1
  rw [e2] at e1
  refine (u_born ty hts hw hKn hkC e1 hty).to (fun j hj => ?_)
  have hg : (jFL ci)[j]? = some ((jFL ci).getD j 0) := by
    rw [List.getD_eq_getElem?_getD, List.getElem?_eq_getElem (by omega)]; rfl
  rw [jtc_ok (b := g.2.2) (x := jdrow T (jn M)) (j := j) (hcd j hj) (fun h => ?_) (fun h => ?_)]
  · have h9 := jfs1_get (b := g.2.2) (r := jdrow T (jn M)) hg
    have h10 : (jfs1 g.2.2 (jdrow T (jn M)) (jFL ci)).getD j .null = jfld1 g.2.2 (jdrow T (jn M)) j ((jFL ci).getD j 0) := by
      rw [List.getD_eq_getElem?_getD (l := jfs1 g.2.2 (jdrow T (jn M)) (jFL ci)), h9]; rfl
    exact h10.symm
  · unfold jdrow
    rw [show ((j : Int).toNat) = j by omega, jcd_obj hn hci hg, if_pos h]
  · unfold jdrow
    rw [show ((j : Int).toNat) = j by omega, jcd_obj hn hci hg, if_neg (by omega)]
theorem wl_init {y : MethodName} {cc' : ByteArray} {mL d' idx nE : Nat} {o : Int × jMem} (hx : p.tables.exec = Jvm.exec) (hb : c.code = cc) (hml : c.maxLocals = nL) (hls : ls.size = nL) (hown : s.vm.findClass own = some m.cls) (hts : ∀ w ∈ lw_g, w.before args s = true) (hK : va_K g.1 vwCl (jtys g) s) (hE1 : jE1 s) (hy : jIm y cc' mL) (hlk' : Cond.methodLink own idx y ∈ lw_g) (hM : jC1 l g T y cc' mL (jn M) nE d' 0 M o) (hok : jok T M) (hnE : jn M ≤ nE) (hH : jH1 g T M H) (hS : va_S (fun q => s.heap.size ≤ q) s.heap H locs) (hbase : s.heap.size ≤ g.2.2) (hr1 : d' + 1 ≤ R.frames) (hr2 : 8 + (mL + 11) + 64 * d' ≤ R.locals) (hr3 : cells + (nE - jn M) ≤ R.cells) (hr4 : slots + (jss T nE - jss T (jn M)) ≤ R.slots) (hrest : (rest.map fun v => v.category).sum ≤ 8) (hd : decode cc pc = .ok (.invokespecial idx, 3))
    (kk : ∀ (H1 : Heap) (locs1 : List Loc), jH1 g T o.2 H1 → jn o.2 = nE → jok T o.2 → H.size ≤ H1.size → (∀ a : Nat, a < H.size → ¬ jA1 g a → H1[a]? = H[a]?) → va_S (fun q => s.heap.size ≤ q) s.heap H1 locs1 → W p l e R s m args below meth c H1 locs1 (cells + (nE - jn M)) (slots + (jss T nE - jss T (jn M))) Q (F0 m (pc + 3) ls rest)) : W p l e R s m args below meth c H locs cells slots Q (F0 m pc ls (.ref (g.2.2 + 0) :: rest)) := by
  obtain ⟨w1, w2, w3, hyn, hdd⟩ := hy
  have hG : GoodIn lw_g (.code y cc' mL none :: lw_g) := jgood (fun w hw => by
    rcases List.mem_cons.mp hw with rfl | h
    · exact w3
    · exact h)
  have hrun := va_runI (As := []) (rest := rest) (b := g.2.2 + 0) (g := F0 m pc ls (Value.ref (g.2.2 + 0) :: rest)) (n := 0) (R := R) (below := below) (e := e) (meth := meth) (locs := locs) (cells := cells) (slots := slots) (H := H) ⟨hx, hb, hml, hown, hts⟩ (hM (Int.le_refl 0) rfl hnE hok) (cwI 0 hts hG rfl rfl rfl (hts _ w2) (hts _ hlk') (hts _ w1) hyn hdd ⟨hr1, hr2⟩) ⟨fun a U g' mk hq2 => ⟨hq2.1, hq2.2.1, va_K.moved (u := U) (U := U.calling g' mk a) (Vm.Alike.refl U.vm) hq2.2.2.1, jE1_same (s := U) rfl hq2.2.2.2⟩, fun U hU hW => ⟨rfl, by rw [hU]; exact hH, va_K.moved hW.alike hK, jE1_go hW hE1⟩⟩ rfl rfl hls rfl (lv_room hrest) hd ⟨hr3, hr4⟩
  intro T0 hT X
  obtain ⟨v, st₀, t, T', L1, h1, X', hL1, e1, e2, ⟨⟨hv, hP, hcn, hok1⟩, hz, hk⟩, st1⟩ := hrun T0 hT X
  cases hv
  rw [h1] at hz hk
  have h2 := kk T'.heap (locs ++ L1) (by rw [e1]; exact hP) hcn hok1 (by rw [e1]; exact hz) (fun a h3 h4 => by rw [e1]; exact hk a h3 h4) ⟨Nat.le_trans hS.1 (by rw [e1]; exact hz), fun q h3 h4 => by
      rw [e1, hk q (Nat.lt_of_lt_of_le h3 hS.1) (fun h5 => h4 (Nat.le_trans hbase h5))]; exact hS.2.1 q h3 h4, fun q hq => by
      rcases List.mem_append.mp hq with h | h
      · exact hS.2.2 q h
      · exact Nat.le_trans hbase (hL1 q h)⟩
  obtain ⟨t2, a1, b1⟩ := h2 T' rfl X'
  exact ⟨t2, st1 t2 a1, b1⟩
end Enter
theorem jX0_val : ∃ o, x_init 100 281 0 (jnewM jTX jM0) = some o ∧ o.2 = jX0 := by
  obtain ⟨z, h1, h2, -, -⟩ := jX0_ok
  exact ⟨z, h1, h2⟩
theorem jY0_val : ∃ o, m_init 100 25 0 (jnewM jTM jM0) = some o ∧ o.2 = jY0 := by
  obtain ⟨z, h1, h2, -, -⟩ := jY0_ok
  exact ⟨z, h1, h2⟩
theorem jok_0 (T : List Nat) : jok T jM0 := by
  intro q j
  show jcan (jcd T q j, 0)
  generalize jcd T q j = c
  match c with
  | 0 => exact ⟨by decide, by decide⟩
  | 1 => exact ⟨by decide, by decide⟩
  | c + 2 => trivial
theorem jn_M0 : jn jM0 = 0 := rfl
theorem jn_X1 (T : List Nat) : jn (jnewM T jM0) = 1 := by rw [jnewM_n (by decide)]; rfl
theorem jss_X : jss jTX 281 ≤ 100000 := by decide +kernel
theorem jss_Y : jss jTM 25 ≤ 100000 := by decide +kernel
theorem len_X : jTX.length = 281 := by decide +kernel
theorem len_Y : jTM.length = 25 := by decide +kernel

set_option maxRecDepth 100000 in
theorem enter {p : Program} {e : Env} {s : State} {m : MethodId} {below : List Frame} {meth : Method} {c : Code} (l : Launch) {b L : Nat} {xs : Nat → Int32} (hL : L ≤ 3072) (C0 : lw_At p s m meth c b L xs) (N : Nat) (htrue : law_f N L xs jX0 jY0 = some 1) : W p l e room_1 s m #[Value.ref b] below meth c s.heap [] 0 0 (lw_Z below #[Value.ref b] s) (entryFrame m ([Value.ref b] : List Value).toArray 4) := by
  obtain ⟨hx, hb, hr, hml, hown, hts, hX, hbl, hlocks, hgv⟩ := C0
  have htg : ∀ w ∈ lw_g, w.before #[Value.ref b] s = true := fun w hw => hts w (List.mem_filter.mp hw).1
  have hs := flat_of_before _ hgv
  obtain ⟨c0, i0, k0⟩ := u_known (C := RX0) (T := TX0) (N := 3) (n := 3) htg jin_0 (htg _ ji_RX0)
  obtain ⟨c1, i1, k1⟩ := u_known (C := RX1) (T := TX1) (N := 8) (n := 8) htg jin_1 (htg _ ji_RX1)
  obtain ⟨c2, i2, k2⟩ := u_known (C := RX2) (T := TX2) (N := 8) (n := 8) htg jin_2 (htg _ ji_RX2)
  obtain ⟨c3, i3, k3⟩ := u_known (C := RX3) (T := TX3) (N := 4) (n := 4) htg jin_3 (htg _ ji_RX3)
  obtain ⟨c4, i4, k4⟩ := u_known (C := RX4) (T := TX4) (N := 7) (n := 7) htg jin_4 (htg _ ji_RX4)
  obtain ⟨c5, i5, k5⟩ := u_known (C := RX5) (T := TX5) (N := 7) (n := 7) htg jin_5 (htg _ ji_RX5)
  obtain ⟨c6, i6, k6⟩ := u_known (C := RX6) (T := TX6) (N := 3) (n := 3) htg jin_6 (htg _ ji_RX6)
  obtain ⟨c7, i7, k7⟩ := u_known (C := RX7) (T := TX7) (N := 7) (n := 7) htg jin_7 (htg _ ji_RX7)
  obtain ⟨c8, i8, k8⟩ := u_known (C := RX8) (T := TX8) (N := 5) (n := 5) htg jin_8 (htg _ ji_RX8)
  obtain ⟨c9, i9, k9⟩ := u_known (C := RX9) (T := TX9) (N := 6) (n := 6) htg jin_9 (htg _ ji_RX9)
  obtain ⟨c10, i10, k10⟩ := u_known (C := RX10) (T := TX10) (N := 3) (n := 3) htg jin_10 (htg _ ji_RX10)
  obtain ⟨c11, i11, k11⟩ := u_known (C := RX11) (T := TX11) (N := 13) (n := 13) htg jin_11 (htg _ ji_RX11)
  obtain ⟨c12, i12, k12⟩ := u_known (C := RX12) (T := TX12) (N := 42) (n := 42) htg jin_12 (htg _ ji_RX12)
  obtain ⟨a0, ka0, co0, fa0, fb0, fc0⟩ := Cond.arrayClass_spec (htg _ jar_0)
  obtain ⟨a1, ka1, co1, fa1, fb1, fc1⟩ := Cond.arrayClass_spec (htg _ jar_1)
  obtain ⟨a2, ka2, co2, fa2, fb2, fc2⟩ := Cond.arrayClass_spec (htg _ jar_2)
  obtain ⟨a3, ka3, co3, fa3, fb3, fc3⟩ := Cond.arrayClass_spec (htg _ jar_3)
  obtain ⟨a4, ka4, co4, fa4, fb4, fc4⟩ := Cond.arrayClass_spec (htg _ jar_4)
  obtain ⟨co5, a5, ka5, fd5, -, fb5, fc5, fa5⟩ := Cond.arrayOver_spec (hts _ jao_5)
  obtain ⟨co6, a6, ka6, fd6, -, fb6, fc6, fa6⟩ := Cond.arrayOver_spec (hts _ jao_9)
  obtain ⟨co7, a7, ka7, fd7, -, fb7, fc7, fa7⟩ := Cond.arrayOver_spec (hts _ jao_7)
  have hE1 : jE1 s := ⟨va_AO.of (hts _ jao_5), va_AO.of (hts _ jao_9), va_AO.of (hts _ jao_7), fun x hx => va_Nw.of rfl (hts _ (jnest_ok x hx))⟩
  obtain ⟨adK, adV, hvS, hvE⟩ := vk_Sof (A := fun q => s.heap.size ≤ q) (N := 2) (tm := fun i => if i = 0 then .string RX8 48 else .string RX8 64) (len := [100, 11]) (byt := [jBy0, jBy1]) (args := #[Value.ref b]) (s := s) (by decide) (fun i hi => hs _ ((by decide +kernel : ∀ i < 2, Cond.exactly (if i = 0 then .string RX8 48 else .string RX8 64) "java/lang/String" ∈ flatC (Jvm.Cond.and given_1 narrow_1)) i hi)) (fun i hi => hs _ ((by decide +kernel : ∀ i < 2, Cond.eq (.field (if i = 0 then .string RX8 48 else .string RX8 64) "java/lang/String" "coder" "B") (.int 0) ∈ flatC (Jvm.Cond.and given_1 narrow_1)) i hi)) (fun i hi => hs _ ((by decide +kernel : ∀ i < 2, Cond.arrayOf (.field (if i = 0 then .string RX8 48 else .string RX8 64) "java/lang/String" "value" "[B") .byte ∈ flatC (Jvm.Cond.and given_1 narrow_1)) i hi)) (fun i hi => hs _ ((by decide +kernel : ∀ i < 2, Cond.eq (.length (.field (if i = 0 then .string RX8 48 else .string RX8 64) "java/lang/String" "value" "[B")) (.int (Int32.ofNat (([100, 11] : List Nat).getD i 0))) ∈ flatC (Jvm.Cond.and given_1 narrow_1)) i hi)) (fun i hi j hj => hs _ ((by decide +kernel : ∀ i < 2, ∀ j < ([100, 11] : List Nat).getD i 0, Cond.eq (.elem (.field (if i = 0 then .string RX8 48 else .string RX8 64) "java/lang/String" "value" "[B") (.int (Int32.ofNat j))) (.int ((([jBy0, jBy1] : List (List Int32)).getD i []).getD j 0)) ∈ flatC (Jvm.Cond.and given_1 narrow_1)) i hi j hj)) (fun i j hi hj hij => by
    match i, j, hi, hj, hij with
    | 0, 0, _, _, h => exact absurd rfl h
    | 1, 1, _, _, h => exact absurd rfl h
    | 0, 1, _, _, _ => exact Or.inl (hs _ (by decide +kernel))
    | 1, 0, _, _, _ => exact Or.inr (hs _ (by decide +kernel))) (fun a h h2 => by omega)
  obtain ⟨fl, hfl⟩ : ∃ fl : Nat, va_Z "jdk/internal/util/Preconditions" "SIOOBE_FORMATTER" "Ljava/util/function/BiFunction;" (jv 0 (5, (fl : Int) - 1)) (fun q => s.heap.size ≤ q) s s.heap := by
    rcases va_Zqof (A := fun q => s.heap.size ≤ q) (hts _ jls_1) (hts _ jls_1i) (hs (.isRef (.static "jdk/internal/util/Preconditions" "SIOOBE_FORMATTER" "Ljava/util/function/BiFunction;")) (by decide +kernel)) (fun a h h2 => by omega) with h | ⟨t, h⟩
    · exact ⟨0, h⟩
    · refine ⟨t + 1, ?_⟩
      have e9 : jv 0 (5, ((t + 1 : Nat) : Int) - 1) = .ref t := by
        show (if ((t + 1 : Nat) : Int) - 1 < 0 then Value.null else .ref (((t + 1 : Nat) : Int) - 1).toNat) = _
        have e10 : (((t + 1 : Nat) : Int) - 1).toNat = t := by omega
        rw [if_neg (by omega), e10]
      rw [e9]; exact h
  have hcs := va_Zof (A := fun q => s.heap.size ≤ q) (hts _ jls_0) (hts _ jls_0i) (va_eqi (hs (.eq (.static "java/lang/String" "COMPACT_STRINGS" "Z") (.int 1)) (by decide +kernel))) (fun a h h2 => by omega)
  obtain ⟨D, hD100, hD101, hD102, hKc⟩ : ∃ D : va_G, D.2 100 = adK ∧ D.2 101 = adV ∧ D.2 102 0 = fl ∧ ∀ (k : Nat) (q : vw_C), vwCl[k]? = some q → u_Kn s q.1 q.2.1 q.2.2 (D.1 k) (D.2 k) := by
    refine ⟨(fun k => ([c0, c1, c2, c3, c4, c5, c6, c7, c8, c9, c10, c11, c12] : List ClassId).getD k 0, fun k => if k = 100 then adK else if k = 101 then adV else if k = 102 then (fun _ => fl) else ([i0, i1, i2, i3, i4, i5, i6, i7, i8, i9, i10, i11, i12] : List (Nat → Nat)).getD k (fun _ => 0)), rfl, rfl, rfl, ?_⟩
    intro k q hq
    match k, hq with
    | 0, hq => cases hq; exact k0
    | 1, hq => cases hq; exact k1
    | 2, hq => cases hq; exact k2
    | 3, hq => cases hq; exact k3
    | 4, hq => cases hq; exact k4
    | 5, hq => cases hq; exact k5
    | 6, hq => cases hq; exact k6
    | 7, hq => cases hq; exact k7
    | 8, hq => cases hq; exact k8
    | 9, hq => cases hq; exact k9
    | 10, hq => cases hq; exact k10
    | 11, hq => cases hq; exact k11
    | 12, hq => cases hq; exact k12
    | k + 13, hq => simp [vwCl] at hq
  obtain ⟨cA, hcA⟩ : ∃ cA : Nat → ClassId, ∀ (k : Nat) (q : ClassId × FieldType), (jtys (D, cA, s.heap.size))[k]? = some q → ArrOfT s q.1 q.2 ∧ va_RA s q.1 q.2 := by
    refine ⟨fun k => ([a0, a1, a2, a3, a4, a5, a6, a7] : List ClassId).getD k 0, ?_⟩
    intro k q h
    match k, h with
    | 0, h => cases h; exact ⟨fun N z => ⟨(fun k h => by cases h), ka0, fb0, co0, fc0⟩, fa0⟩
    | 1, h => cases h; exact ⟨fun N z => ⟨(fun k h => by cases h), ka1, fb1, co1, fc1⟩, fa1⟩
    | 2, h => cases h; exact ⟨fun N z => ⟨(fun k h => by cases h), ka2, fb2, co2, fc2⟩, fa2⟩
    | 3, h => cases h; exact ⟨fun N z => ⟨(fun k h => by cases h), ka3, fb3, co3, fc3⟩, fa3⟩
    | 4, h => cases h; exact ⟨fun N z => ⟨(fun k h => by cases h), ka4, fb4, co4, fc4⟩, fa4⟩
    | 5, h => cases h; exact ⟨fun N z => ⟨(fun k h => by cases h), ka5, fb5, co5, fc5⟩, ka5, co5, fb5, fc5, fd5, fa5⟩
    | 6, h => cases h; exact ⟨fun N z => ⟨(fun k h => by cases h), ka6, fb6, co6, fc6⟩, ka6, co6, fb6, fc6, fd6, fa6⟩
    | 7, h => cases h; exact ⟨fun N z => ⟨(fun k h => by cases h), ka7, fb7, co7, fc7⟩, ka7, co7, fb7, fc7, fd7, fa7⟩
    | k + 8, h => simp [jtys] at h
  have hKX : va_K D vwCl (jtys (D, cA, s.heap.size)) s := ⟨hKc, hcA⟩
  have hgA : ∀ (g : jG) (T : List Nat), s.heap.size ≤ g.2.2 → ∀ q, jA g T q → s.heap.size ≤ q := fun g T h q hq => Nat.le_trans h hq.1
  have hEg : ∀ (g : jG) (T : List Nat), g.1 = D → s.heap.size ≤ g.2.2 → jE g T s := fun g T hg hle => by
    refine ⟨?_, ?_, ?_, ?_, ?_⟩
    · rw [hg, hD100, hD101]; exact hvS.narrow (hgA g T hle)
    · rw [hg, hD100]; exact vk_R.of (hts _ jsr_0) (by have h9 := hvE 0 (by decide); exact h9)
    · rw [hg, hD100]; exact vk_R.of (hts _ jsr_1) (by have h9 := hvE 1 (by decide); exact h9)
    · exact hcs.narrow (hgA g T hle)
    · unfold jSf; rw [hg, hD102]; exact hfl.narrow (hgA g T hle)
  have hl := lv_entry ([Value.ref b]) (n := 4) (Nat.le_of_ble_eq_true rfl)
  rw [lg_entry_eq]
  generalize (lg_sl ([Value.ref b]) ++ List.replicate (4 - (lg_sl ([Value.ref b])).length) Slot.unset).toArray = ls at hl ⊢
  have hl : lv_has ls 4 [(0, .ref b)] := hl
  obtain ⟨oX, hoX, hoX2⟩ := jX0_val
  obtain ⟨oY, hoY, hoY2⟩ := jY0_val
  obtain ⟨-, -, -, hcX, hnX⟩ := jX0_ok
  obtain ⟨-, -, -, hcY, hnY⟩ := jY0_ok
  have hH0 : jH1 (D, cA, s.heap.size) jTX jM0 s.heap := ⟨fun k q h => by simp [jws1, jn_M0] at h, by show s.heap.size = s.heap.size + jn jM0; rw [jn_M0]; rfl, by decide⟩
  have hR1 : room_1.frames = 2048 := rfl
  have hR2 : room_1.locals = 84000 := rfl
  have hR3 : room_1.cells = 600000 := rfl
  have hR4 : room_1.slots = 7302250 := rfl
  have hsX := jss_X
  have hsY := jss_Y
  refine wl_new (g := (D, cA, s.heap.size)) (T := jTX) (M := jM0) (ci := 11) (N := 13) (C := RX11) (Tb := TX11) (ty := tyX11) hx hb hown htg hKX rfl jin_11 tyX11_ok (by decide) rfl (by decide +kernel) jk_RL_7 ji_RX11 jz_RX11 hH0 (by rw [jn_M0]; decide +kernel) (by rw [hR3]; omega) (by rw [hR4]; omega) dL_law_0 (fun H1 hH1 z1 o1 => ?_)
  have hz0 : s.heap.size = s.heap.size + 0 := rfl
  refine lv_dup hx hb dL_law_3 rfl ?_
  have hS1 : va_S (fun q => s.heap.size ≤ q) s.heap H1 [] := ⟨by omega, fun q h1 h2 => o1 q h1, fun q h => by cases h⟩
  refine wl_init (g := (D, cA, s.heap.size)) (T := jTX) (M := jnewM jTX jM0) (nE := 281) hx hb hml hl.1 hown htg hKX hE1 jq_X11_init jl_RL_9 (by have h9 := c_x_init (l := l) (g := (D, cA, s.heap.size)) 100 281 0 (jnewM jTX jM0) oX hoX; exact h9) (jok_new (by decide) (jok_0 _)) (by rw [jn_X1]; omega) hH1 hS1 (Nat.le_refl _) (by rw [hR1]; decide) (by rw [hR2]; decide) (by rw [hR3, jn_X1]; omega) (by rw [hR4, jn_X1]; omega) (Nat.le_of_ble_eq_true rfl) dL_law_4 (fun H2 locs2 hH2 hn2 hok2 z2 o2 hS2 => ?_)
  refine lv_astore_n hx hb dL_law_7 rfl hl (by decide) rfl (fun ls2 hl2 => ?_)
  rw [hoX2] at hH2 hn2 hok2
  have hHX := jH_of hH2 (by rw [hn2, len_X]) hcX
  have hsz2 : H2.size = s.heap.size + 281 := by have h9 := hH2.2.1; rw [hn2] at h9; exact h9
  have hKM : va_K D vwCl (jtys (D, cA, s.heap.size + 281)) s := hKX
  have hH3 : jH1 (D, cA, s.heap.size + 281) jTM jM0 H2 := ⟨fun k q h => by simp [jws1, jn_M0] at h, by show H2.size = s.heap.size + 281 + jn jM0; rw [jn_M0, hsz2], by decide⟩
  refine wl_new (g := (D, cA, s.heap.size + 281)) (T := jTM) (M := jM0) (ci := 12) (N := 42) (C := RX12) (Tb := TX12) (ty := tyX12) hx hb hown htg hKM rfl jin_12 tyX12_ok (by decide) rfl (by decide +kernel) jk_RL_10 ji_RX12 jz_RX12 hH3 (by rw [jn_M0]; decide +kernel) (by rw [hR3, jn_X1]; omega) (by rw [hR4, jn_X1]; omega) dL_law_8 (fun H3 hH3 z3 o3 => ?_)
  rw [hsz2]
  refine lv_dup hx hb dL_law_11 rfl ?_
  have hS3 : va_S (fun q => s.heap.size ≤ q) s.heap H3 locs2 := ⟨by omega, fun q h1 h2 => (o3 q (by omega)).trans (hS2.2.1 q h1 h2), hS2.2.2⟩
  have hHX3 : jH (D, cA, s.heap.size) jTX jX0 H3 := jH_kept hHX (fun q h1 _ => o3 q h1)
  refine wl_init (g := (D, cA, s.heap.size + 281)) (T := jTM) (M := jnewM jTM jM0) (nE := 25) hx hb hml hl2.1 hown htg hKM hE1 jq_X12_init jl_RL_12 (by have h9 := c_m_init (l := l) (g := (D, cA, s.heap.size + 281)) 100 25 0 (jnewM jTM jM0) oY hoY; exact h9) (jok_new (by decide) (jok_0 _)) (by rw [jn_X1]; omega) hH3 hS3 (Nat.le_add_right _ _) (by rw [hR1]; decide) (by rw [hR2]; decide) (by rw [hR3, jn_X1, jn_X1]; omega) (by rw [hR4, jn_X1, jn_X1]; omega) (Nat.le_of_ble_eq_true rfl) dL_law_12 (fun H4 locs4 hH4 hn4 hok4 z4 o4 hS4 => ?_)
  refine lv_astore_n hx hb dL_law_15 rfl hl2 (by decide) rfl (fun ls3 hl3 => ?_)
  rw [hoY2] at hH4 hn4 hok4
  have hHY := jH_of hH4 (by rw [hn4, len_Y]) hcY
  have hHX4 : jH (D, cA, s.heap.size) jTX jX0 H4 := jH_kept hHX3 (fun q h1 h2 => o4 q h1 (fun h3 => by
    have h4 : s.heap.size ≤ q ∧ q < s.heap.size + jTX.length := h2
    have h5 : s.heap.size + 281 ≤ q := h3
    have h6 := len_X
    omega))
  refine lv_iconst hx hb dL_law_16 rfl ?_
  refine lv_istore_n hx hb dL_law_17 rfl hl3 (by decide) rfl (fun ls4 hl4 => ?_)
  refine law_walk (K := jK3 p l e s m b below meth c (D, cA, s.heap.size) (D, cA, s.heap.size + 281) _ _) (l := l) (gX := (D, cA, s.heap.size)) (gM := (D, cA, s.heap.size + 281)) (b0 := b) (L := L) (xs := xs) ⟨p, e, s, m, below, meth, c, _, _, rfl, hx, hb, hml, hown, htg, hlocks, hr, hKX, rfl, rfl, hEg _ _ rfl (Nat.le_refl _), hEg _ _ rfl (Nat.le_add_right _ _), hX, hbl, rfl, rfl, ?_, ?_, hL⟩ N jX0 jY0 1 htrue rfl ls4 H4 locs4 ?_ hHX4 hHY hS4 ?_ ?_ hok2 hok4
  · rw [jn_X1, jn_X1]; omega
  · rw [jn_X1, jn_X1]; omega
  · exact lv_sub hl4 [3, 2, 1, 0] rfl
  · intro v hv
    simp only [List.mem_cons, List.not_mem_nil, or_false] at hv
    rcases hv with rfl | rfl | rfl | rfl
    · trivial
    · trivial
    · trivial
    · exact ⟨by decide, by decide⟩
  · intro v hv; cases hv
