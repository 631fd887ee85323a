theorem dX7_ringsOfWells_0 : decode cX7_ringsOfWells 0 = .ok (.iconst 0, 1) := by decide +kernel
theorem dX7_ringsOfWells_1 : decode cX7_ringsOfWells 1 = .ok (.istore_n 1, 1) := by decide +kernel
theorem dX7_ringsOfWells_2 : decode cX7_ringsOfWells 2 = .ok (.aload_n 0, 1) := by decide +kernel
theorem dX7_ringsOfWells_3 : decode cX7_ringsOfWells 3 = .ok (.invokevirtual 46, 3) := by decide +kernel
theorem dX7_ringsOfWells_6 : decode cX7_ringsOfWells 6 = .ok (.istore_n 2, 1) := by decide +kernel
theorem dX7_ringsOfWells_7 : decode cX7_ringsOfWells 7 = .ok (.iconst 0, 1) := by decide +kernel
theorem dX7_ringsOfWells_8 : decode cX7_ringsOfWells 8 = .ok (.istore_n 3, 1) := by decide +kernel
theorem dX7_ringsOfWells_9 : decode cX7_ringsOfWells 9 = .ok (.iload_n 3, 1) := by decide +kernel
theorem dX7_ringsOfWells_10 : decode cX7_ringsOfWells 10 = .ok (.aload_n 0, 1) := by decide +kernel
theorem dX7_ringsOfWells_11 : decode cX7_ringsOfWells 11 = .ok (.getfield 27, 3) := by decide +kernel
theorem dX7_ringsOfWells_14 : decode cX7_ringsOfWells 14 = .ok (.if_icmp .ge 60, 3) := by decide +kernel
theorem dX7_ringsOfWells_17 : decode cX7_ringsOfWells 17 = .ok (.iload_n 2, 1) := by decide +kernel
theorem dX7_ringsOfWells_18 : decode cX7_ringsOfWells 18 = .ok (.iload_n 3, 1) := by decide +kernel
theorem dX7_ringsOfWells_19 : decode cX7_ringsOfWells 19 = .ok (.ishr, 1) := by decide +kernel
theorem dX7_ringsOfWells_20 : decode cX7_ringsOfWells 20 = .ok (.iconst 1, 1) := by decide +kernel
theorem dX7_ringsOfWells_21 : decode cX7_ringsOfWells 21 = .ok (.iand, 1) := by decide +kernel
theorem dX7_ringsOfWells_22 : decode cX7_ringsOfWells 22 = .ok (.ifCond .eq 6, 3) := by decide +kernel
theorem dX7_ringsOfWells_25 : decode cX7_ringsOfWells 25 = .ok (.goto 43, 3) := by decide +kernel
theorem dX7_ringsOfWells_28 : decode cX7_ringsOfWells 28 = .ok (.iinc 1 1, 3) := by decide +kernel
theorem dX7_ringsOfWells_31 : decode cX7_ringsOfWells 31 = .ok (.iload_n 3, 1) := by decide +kernel
theorem dX7_ringsOfWells_32 : decode cX7_ringsOfWells 32 = .ok (.istore 4, 2) := by decide +kernel
theorem dX7_ringsOfWells_34 : decode cX7_ringsOfWells 34 = .ok (.iconst 0, 1) := by decide +kernel
theorem dX7_ringsOfWells_35 : decode cX7_ringsOfWells 35 = .ok (.istore 5, 2) := by decide +kernel
theorem dX7_ringsOfWells_37 : decode cX7_ringsOfWells 37 = .ok (.iload 5, 2) := by decide +kernel
theorem dX7_ringsOfWells_39 : decode cX7_ringsOfWells 39 = .ok (.aload_n 0, 1) := by decide +kernel
theorem dX7_ringsOfWells_40 : decode cX7_ringsOfWells 40 = .ok (.getfield 27, 3) := by decide +kernel
theorem dX7_ringsOfWells_43 : decode cX7_ringsOfWells 43 = .ok (.if_icmp .ge 25, 3) := by decide +kernel
theorem dX7_ringsOfWells_46 : decode cX7_ringsOfWells 46 = .ok (.iload_n 2, 1) := by decide +kernel
theorem dX7_ringsOfWells_47 : decode cX7_ringsOfWells 47 = .ok (.iconst 1, 1) := by decide +kernel
theorem dX7_ringsOfWells_48 : decode cX7_ringsOfWells 48 = .ok (.iload 4, 2) := by decide +kernel
theorem dX7_ringsOfWells_50 : decode cX7_ringsOfWells 50 = .ok (.ishl, 1) := by decide +kernel
theorem dX7_ringsOfWells_51 : decode cX7_ringsOfWells 51 = .ok (.ior, 1) := by decide +kernel
theorem dX7_ringsOfWells_52 : decode cX7_ringsOfWells 52 = .ok (.istore_n 2, 1) := by decide +kernel
theorem dX7_ringsOfWells_53 : decode cX7_ringsOfWells 53 = .ok (.aload_n 0, 1) := by decide +kernel
theorem dX7_ringsOfWells_54 : decode cX7_ringsOfWells 54 = .ok (.getfield 21, 3) := by decide +kernel
theorem dX7_ringsOfWells_57 : decode cX7_ringsOfWells 57 = .ok (.iload 4, 2) := by decide +kernel
theorem dX7_ringsOfWells_59 : decode cX7_ringsOfWells 59 = .ok (.iaload, 1) := by decide +kernel
theorem dX7_ringsOfWells_60 : decode cX7_ringsOfWells 60 = .ok (.istore 4, 2) := by decide +kernel
theorem dX7_ringsOfWells_62 : decode cX7_ringsOfWells 62 = .ok (.iinc 5 1, 3) := by decide +kernel
theorem dX7_ringsOfWells_65 : decode cX7_ringsOfWells 65 = .ok (.goto (-28), 3) := by decide +kernel
theorem dX7_ringsOfWells_68 : decode cX7_ringsOfWells 68 = .ok (.iinc 3 1, 3) := by decide +kernel
theorem dX7_ringsOfWells_71 : decode cX7_ringsOfWells 71 = .ok (.goto (-62), 3) := by decide +kernel
theorem dX7_ringsOfWells_74 : decode cX7_ringsOfWells 74 = .ok (.iload_n 1, 1) := by decide +kernel
theorem dX7_ringsOfWells_75 : decode cX7_ringsOfWells 75 = .ok (.ireturn, 1) := by decide +kernel
def St_ringsOfWells_L37 (N : Nat) (q : Int) (M : jMem) (x2 : Int) (x4 : Int) (h9 : (Int × Int × Int) → Option Int) (h37 : (Int × Int × Int) → Option Int) : Int × Int × Int → Option Int
  | (x5, x6, x7) => (if x7 < (M q 0) then jlt ((jor x5 ((jshl 1 x6)))) fun v8 => jchk (0 ≤ x6 ∧ x6 < 7) <| jlt ((M ((q + 4)) x6)) fun v10 => h37 (v8, v10, (w32 (x7 + 1))) else h9 ((w32 (x2 + 1)), x5, (w32 (x4 + 1))))
def St_ringsOfWells_L9 (N : Nat) (q : Int) (M : jMem) (h9 : (Int × Int × Int) → Option Int) : Int × Int × Int → Option Int
  | (x2, x3, x4) => (if x4 < (M q 0) then (if (jand ((jshr x3 x4)) 1) = 0 then jfix N (St_ringsOfWells_L37 N q M x2 x4 h9) (x3, x4, 0) else h9 (x2, x3, (w32 (x4 + 1)))) else some x2)
def St_ringsOfWells (N : Nat) (q : Int) (M : jMem) : Option Int := (St_homeBits N q M).bind fun r1 => jfix N (St_ringsOfWells_L9 N q M) (0, r1, 0)
theorem c_St_ringsOfWells {l : Launch} {g : jG} (N : Nat) (q : Int) (M : jMem) (hq : jk jTX q 7) : ∀ o, St_ringsOfWells N q M = some o → jCt l g jTX yX7_ringsOfWells cX7_ringsOfWells 6 (some .int) 0 3 [(2, q)] M (o, M) := by
  refine jMet (own := RX7) (em := (fun r => (r, M))) (L := [(0, 2, q)]) (by decide +kernel) rfl (Nat.le_of_ble_eq_true rfl) rfl (fun K hR => ?_)
  unfold St_ringsOfWells
  refine z_iconst (pc := 0) hR dX7_ringsOfWells_0 rfl ?_
  refine z_istore_n (pc := 1) hR (lv' := [(1, 0, 0), (0, 2, q)]) dX7_ringsOfWells_1 rfl (by decide) rfl ?_
  refine z_aload_n (pc := 2) hR 1 dX7_ringsOfWells_2 rfl rfl ?_
  refine z_callvp (pc := 3) hR (As := []) (st := []) jm_X7_homeBits jl_RX7_46 hq (by decide) rfl (by decide) (c_St_homeBits N q M hq) rfl (by decide) (by decide) rfl (Nat.le_of_ble_eq_true rfl) dX7_ringsOfWells_3 (fun r1 => ?_)
  refine z_istore_n (pc := 6) hR (lv' := [(2, 0, r1), (1, 0, 0), (0, 2, q)]) dX7_ringsOfWells_6 rfl (by decide) rfl ?_
  refine z_iconst (pc := 7) hR dX7_ringsOfWells_7 rfl ?_
  refine z_istore_n (pc := 8) hR (lv' := [(3, 0, 0), (2, 0, r1), (1, 0, 0), (0, 2, q)]) dX7_ringsOfWells_8 rfl (by decide) rfl ?_
  refine z_pick (pc := 9) (lv' := [(0, 2, q), (1, 0, 0), (2, 0, r1), (3, 0, 0)]) hR [3, 2, 1, 0] rfl ?_
  refine z_fix (σ := Int × Int × Int) (lv := fun s => [(0, 2, q), (1, 0, s.1), (2, 0, s.2.1), (3, 0, s.2.2)]) (st := fun _ => []) (M := fun _ => M) (fun h9 hh9 => ?_) N (0, r1, 0)
  rintro ⟨x2, x3, x4⟩
  show jZ K (fun r => (r, M)) 9 [(0, 2, q), (1, 0, x2), (2, 0, x3), (3, 0, x4)] [] M _
  unfold St_ringsOfWells_L9
  refine z_iload_n (pc := 9) hR 3 dX7_ringsOfWells_9 rfl rfl ?_
  refine z_aload_n (pc := 10) hR 0 dX7_ringsOfWells_10 rfl rfl ?_
  refine z_geti (pc := 11) hR (j := 0) jf_RX7_27 hq (by decide) rfl rfl dX7_ringsOfWells_11 ?_
  refine z_icmpge (pc := 14) (tgt := 74) hR dX7_ringsOfWells_14 (by decide) ?_ ?_
  · refine z_iload_n (pc := 74) hR 1 dX7_ringsOfWells_74 rfl rfl ?_
    exact z_ireturn (pc := 75) hR rfl rfl dX7_ringsOfWells_75 rfl
  · refine z_iload_n (pc := 17) hR 2 dX7_ringsOfWells_17 rfl rfl ?_
    refine z_iload_n (pc := 18) hR 3 dX7_ringsOfWells_18 rfl rfl ?_
    refine z_ishr (pc := 19) hR dX7_ringsOfWells_19 ?_
    refine z_iconst (pc := 20) hR dX7_ringsOfWells_20 rfl ?_
    refine z_iand (pc := 21) hR dX7_ringsOfWells_21 ?_
    refine z_ifeq (pc := 22) (tgt := 28) hR dX7_ringsOfWells_22 (by decide) ?_ ?_
    · refine z_iinc (pc := 28) hR (j := 1) (lv' := [(1, 0, (w32 (x2 + 1))), (0, 2, q), (2, 0, x3), (3, 0, x4)]) dX7_ringsOfWells_28 rfl (by decide) rfl ?_
      refine z_iload_n (pc := 31) hR 3 dX7_ringsOfWells_31 rfl rfl ?_
      refine z_istore (pc := 32) hR (lv' := [(4, 0, x4), (1, 0, (w32 (x2 + 1))), (0, 2, q), (2, 0, x3), (3, 0, x4)]) dX7_ringsOfWells_32 (by decide) rfl ?_
      refine z_iconst (pc := 34) hR dX7_ringsOfWells_34 rfl ?_
      refine z_istore (pc := 35) hR (lv' := [(5, 0, 0), (4, 0, x4), (1, 0, (w32 (x2 + 1))), (0, 2, q), (2, 0, x3), (3, 0, x4)]) dX7_ringsOfWells_35 (by decide) rfl ?_
      refine z_pick (pc := 37) (lv' := [(0, 2, q), (1, 0, (w32 (x2 + 1))), (2, 0, x3), (3, 0, x4), (4, 0, x4), (5, 0, 0)]) hR [3, 2, 4, 5, 1, 0] rfl ?_
      refine z_fix (σ := Int × Int × Int) (lv := fun s => [(0, 2, q), (1, 0, (w32 (x2 + 1))), (2, 0, s.1), (3, 0, x4), (4, 0, s.2.1), (5, 0, s.2.2)]) (st := fun _ => []) (M := fun _ => M) (fun h37 hh37 => ?_) N (x3, x4, 0)
      rintro ⟨x5, x6, x7⟩
      show jZ K (fun r => (r, M)) 37 [(0, 2, q), (1, 0, (w32 (x2 + 1))), (2, 0, x5), (3, 0, x4), (4, 0, x6), (5, 0, x7)] [] M _
      unfold St_ringsOfWells_L37
      refine z_iload (pc := 37) hR 5 dX7_ringsOfWells_37 rfl ?_
      refine z_aload_n (pc := 39) hR 0 dX7_ringsOfWells_39 rfl rfl ?_
      refine z_geti (pc := 40) hR (j := 0) jf_RX7_27 hq (by decide) rfl rfl dX7_ringsOfWells_40 ?_
      refine z_icmpge (pc := 43) (tgt := 68) hR dX7_ringsOfWells_43 (by decide) ?_ ?_
      · refine z_iinc (pc := 68) hR (j := 3) (lv' := [(3, 0, (w32 (x4 + 1))), (0, 2, q), (1, 0, (w32 (x2 + 1))), (2, 0, x5), (4, 0, x6), (5, 0, x7)]) dX7_ringsOfWells_68 rfl (by decide) rfl ?_
        refine z_goto (pc := 71) (tgt := 9) hR dX7_ringsOfWells_71 (by decide) ?_
        refine z_pick (pc := 9) (lv' := [(0, 2, q), (1, 0, (w32 (x2 + 1))), (2, 0, x5), (3, 0, (w32 (x4 + 1)))]) hR [1, 2, 3, 0] rfl ?_
        exact hh9 ((w32 (x2 + 1)), x5, (w32 (x4 + 1)))
      · refine z_iload_n (pc := 46) hR 2 dX7_ringsOfWells_46 rfl rfl ?_
        refine z_iconst (pc := 47) hR dX7_ringsOfWells_47 rfl ?_
        refine z_iload (pc := 48) hR 4 dX7_ringsOfWells_48 rfl ?_
        refine z_ishl (pc := 50) hR dX7_ringsOfWells_50 ?_
        refine z_ior (pc := 51) hR dX7_ringsOfWells_51 ?_
        refine z_let1 (fun v8 => ?_)
        refine z_istore_n (pc := 52) hR (lv' := [(2, 0, v8), (0, 2, q), (1, 0, (w32 (x2 + 1))), (3, 0, x4), (4, 0, x6), (5, 0, x7)]) dX7_ringsOfWells_52 rfl (by decide) rfl ?_
        refine z_aload_n (pc := 53) hR 1 dX7_ringsOfWells_53 rfl rfl ?_
        refine z_getr (pc := 54) hR (c0 := 4) (r := (q + 4)) jf_RX7_21 hq (by decide) rfl rfl dX7_ringsOfWells_54 ?_
        refine z_iload (pc := 57) hR 4 dX7_ringsOfWells_57 rfl ?_
        refine z_chk (fun hc9 => ?_)
        refine z_iald (pc := 59) hR (n := 7) (kf_7_has hq) hc9.1 hc9.2 dX7_ringsOfWells_59 ?_
        refine z_let1 (fun v10 => ?_)
        refine z_istore (pc := 60) hR (lv' := [(4, 0, v10), (2, 0, v8), (0, 2, q), (1, 0, (w32 (x2 + 1))), (3, 0, x4), (5, 0, x7)]) dX7_ringsOfWells_60 (by decide) rfl ?_
        refine z_iinc (pc := 62) hR (j := 5) (lv' := [(5, 0, (w32 (x7 + 1))), (4, 0, v10), (2, 0, v8), (0, 2, q), (1, 0, (w32 (x2 + 1))), (3, 0, x4)]) dX7_ringsOfWells_62 rfl (by decide) rfl ?_
        refine z_goto (pc := 65) (tgt := 37) hR dX7_ringsOfWells_65 (by decide) ?_
        refine z_pick (pc := 37) (lv' := [(0, 2, q), (1, 0, (w32 (x2 + 1))), (2, 0, v8), (3, 0, x4), (4, 0, v10), (5, 0, (w32 (x7 + 1)))]) hR [3, 4, 2, 5, 1, 0] rfl ?_
        exact hh37 (v8, v10, (w32 (x7 + 1)))
    · refine z_goto (pc := 25) (tgt := 68) hR dX7_ringsOfWells_25 (by decide) ?_
      refine z_iinc (pc := 68) hR (j := 3) (lv' := [(3, 0, (w32 (x4 + 1))), (0, 2, q), (1, 0, x2), (2, 0, x3)]) dX7_ringsOfWells_68 rfl (by decide) rfl ?_
      refine z_goto (pc := 71) (tgt := 9) hR dX7_ringsOfWells_71 (by decide) ?_
      refine z_pick (pc := 9) (lv' := [(0, 2, q), (1, 0, x2), (2, 0, x3), (3, 0, (w32 (x4 + 1)))]) hR [1, 2, 3, 0] rfl ?_
      exact hh9 (x2, x3, (w32 (x4 + 1)))
theorem dX11_rings_0 : decode cX11_rings 0 = .ok (.iload_n 1, 1) := by decide +kernel
theorem dX11_rings_1 : decode cX11_rings 1 = .ok (.iconst 0, 1) := by decide +kernel
theorem dX11_rings_2 : decode cX11_rings 2 = .ok (.iconst 1, 1) := by decide +kernel
theorem dX11_rings_3 : decode cX11_rings 3 = .ok (.invokestatic 137, 3) := by decide +kernel
theorem dX11_rings_6 : decode cX11_rings 6 = .ok (.ifCond .eq 10, 3) := by decide +kernel
theorem dX11_rings_9 : decode cX11_rings 9 = .ok (.aload_n 0, 1) := by decide +kernel
theorem dX11_rings_10 : decode cX11_rings 10 = .ok (.invokevirtual 177, 3) := by decide +kernel
theorem dX11_rings_13 : decode cX11_rings 13 = .ok (.ifCond .ne 5, 3) := by decide +kernel
theorem dX11_rings_16 : decode cX11_rings 16 = .ok (.iconst (-1), 1) := by decide +kernel
theorem dX11_rings_17 : decode cX11_rings 17 = .ok (.ireturn, 1) := by decide +kernel
theorem dX11_rings_18 : decode cX11_rings 18 = .ok (.aload_n 0, 1) := by decide +kernel
theorem dX11_rings_19 : decode cX11_rings 19 = .ok (.getfield 43, 3) := by decide +kernel
theorem dX11_rings_22 : decode cX11_rings 22 = .ok (.getfield 102, 3) := by decide +kernel
theorem dX11_rings_25 : decode cX11_rings 25 = .ok (.invokevirtual 271, 3) := by decide +kernel
theorem dX11_rings_28 : decode cX11_rings 28 = .ok (.istore_n 2, 1) := by decide +kernel
theorem dX11_rings_29 : decode cX11_rings 29 = .ok (.iload_n 1, 1) := by decide +kernel
theorem dX11_rings_30 : decode cX11_rings 30 = .ok (.ifCond .ne 5, 3) := by decide +kernel
theorem dX11_rings_33 : decode cX11_rings 33 = .ok (.iload_n 2, 1) := by decide +kernel
theorem dX11_rings_34 : decode cX11_rings 34 = .ok (.ireturn, 1) := by decide +kernel
theorem dX11_rings_35 : decode cX11_rings 35 = .ok (.aload_n 0, 1) := by decide +kernel
theorem dX11_rings_36 : decode cX11_rings 36 = .ok (.getfield 43, 3) := by decide +kernel
theorem dX11_rings_39 : decode cX11_rings 39 = .ok (.getfield 95, 3) := by decide +kernel
theorem dX11_rings_42 : decode cX11_rings 42 = .ok (.getfield 123, 3) := by decide +kernel
theorem dX11_rings_45 : decode cX11_rings 45 = .ok (.aload_n 0, 1) := by decide +kernel
theorem dX11_rings_46 : decode cX11_rings 46 = .ok (.getfield 43, 3) := by decide +kernel
theorem dX11_rings_49 : decode cX11_rings 49 = .ok (.getfield 102, 3) := by decide +kernel
theorem dX11_rings_52 : decode cX11_rings 52 = .ok (.invokevirtual 231, 3) := by decide +kernel
theorem dX11_rings_55 : decode cX11_rings 55 = .ok (.isub, 1) := by decide +kernel
theorem dX11_rings_56 : decode cX11_rings 56 = .ok (.iload_n 2, 1) := by decide +kernel
theorem dX11_rings_57 : decode cX11_rings 57 = .ok (.isub, 1) := by decide +kernel
theorem dX11_rings_58 : decode cX11_rings 58 = .ok (.ireturn, 1) := by decide +kernel
def x_rings (N : Nat) (a1 : Int) (M : jMem) : Option Int := (x_isWithin N a1 0 1 M).bind fun r1 => (if r1 = 0 then some ((-1)) else (x_hasParish N M).bind fun r2 => (if r2 = 0 then some ((-1)) else (St_ringsOfWells N 21 M).bind fun r3 => (if a1 = 0 then some r3 else (St_homes N 21 M).bind fun r4 => some ((w32 (((w32 (((M 15 0)) - r4))) - r3))))))
theorem c_x_rings {l : Launch} {g : jG} (N : Nat) (a1 : Int) (M : jMem)  : ∀ o, x_rings N a1 M = some o → jCt l g jTX yX11_rings cX11_rings 3 (some .int) 0 5 [(2, 0), (0, a1)] M (o, M) := by
  refine jMet (own := RX11) (em := (fun r => (r, M))) (L := [(0, 2, 0), (1, 0, a1)]) (by decide +kernel) rfl (Nat.le_of_ble_eq_true rfl) rfl (fun K hR => ?_)
  unfold x_rings
  refine z_iload_n (pc := 0) hR 1 dX11_rings_0 rfl rfl ?_
  refine z_iconst (pc := 1) hR dX11_rings_1 rfl ?_
  refine z_iconst (pc := 2) hR dX11_rings_2 rfl ?_
  refine z_callsp (pc := 3) hR (As := [(0, a1), (0, 0), (0, 1)]) (st := []) jm_X11_isWithin jl_RX11_137 (by decide) (c_x_isWithin N a1 0 1 M) rfl (by decide) (by decide) rfl (Nat.le_of_ble_eq_true rfl) dX11_rings_3 (fun r1 => ?_)
  refine z_ifeq (pc := 6) (tgt := 16) hR dX11_rings_6 (by decide) ?_ ?_
  · refine z_iconst (pc := 16) hR dX11_rings_16 rfl ?_
    exact z_ireturn (pc := 17) hR rfl rfl dX11_rings_17 rfl
  · refine z_aload_n (pc := 9) hR 0 dX11_rings_9 rfl rfl ?_
    refine z_callvp (pc := 10) hR (As := []) (st := []) jm_X11_hasParish jl_RX11_177 kxo_0 (by decide) rfl (by decide) (c_x_hasParish N M) rfl (by decide) (by decide) rfl (Nat.le_of_ble_eq_true rfl) dX11_rings_10 (fun r2 => ?_)
    refine z_ifne (pc := 13) (tgt := 18) hR dX11_rings_13 (by decide) ?_ ?_
    · refine z_aload_n (pc := 18) hR 0 dX11_rings_18 rfl rfl ?_
      refine z_getr (pc := 19) hR (c0 := 14) (r := 14) jf_RX11_43 kxo_0 (by decide) rfl rfl dX11_rings_19 ?_
      refine z_getr (pc := 22) hR (c0 := 7) (r := 21) jf_RX11_102 kxo_14 (by decide) rfl rfl dX11_rings_22 ?_
      refine z_callvp (pc := 25) hR (As := []) (st := []) jm_X7_ringsOfWells jl_RX11_271 kxo_21 (by decide) rfl (by decide) (c_St_ringsOfWells N 21 M kxo_21) rfl (by decide) (by decide) rfl (Nat.le_of_ble_eq_true rfl) dX11_rings_25 (fun r3 => ?_)
      refine z_istore_n (pc := 28) hR (lv' := [(2, 0, r3), (0, 2, 0), (1, 0, a1)]) dX11_rings_28 rfl (by decide) rfl ?_
      refine z_iload_n (pc := 29) hR 2 dX11_rings_29 rfl rfl ?_
      refine z_ifne (pc := 30) (tgt := 35) hR dX11_rings_30 (by decide) ?_ ?_
      · refine z_aload_n (pc := 35) hR 1 dX11_rings_35 rfl rfl ?_
        refine z_getr (pc := 36) hR (c0 := 14) (r := 14) jf_RX11_43 kxo_0 (by decide) rfl rfl dX11_rings_36 ?_
        refine z_getr (pc := 39) hR (c0 := 1) (r := 15) jf_RX11_95 kxo_14 (by decide) rfl rfl dX11_rings_39 ?_
        refine z_geti (pc := 42) hR (j := 0) jf_RX11_123 kxo_15 (by decide) rfl rfl dX11_rings_42 ?_
        refine z_aload_n (pc := 45) hR 1 dX11_rings_45 rfl rfl ?_
        refine z_getr (pc := 46) hR (c0 := 14) (r := 14) jf_RX11_43 kxo_0 (by decide) rfl rfl dX11_rings_46 ?_
        refine z_getr (pc := 49) hR (c0 := 7) (r := 21) jf_RX11_102 kxo_14 (by decide) rfl rfl dX11_rings_49 ?_
        refine z_callvp (pc := 52) hR (As := []) (st := [(0, (M 15 0))]) jm_X7_homes jl_RX11_231 kxo_21 (by decide) rfl (by decide) (c_St_homes N 21 M kxo_21) rfl (by decide) (by decide) rfl (Nat.le_of_ble_eq_true rfl) dX11_rings_52 (fun r4 => ?_)
        refine z_isub (pc := 55) hR dX11_rings_55 ?_
        refine z_iload_n (pc := 56) hR 0 dX11_rings_56 rfl rfl ?_
        refine z_isub (pc := 57) hR dX11_rings_57 ?_
        exact z_ireturn (pc := 58) hR rfl rfl dX11_rings_58 rfl
      · refine z_iload_n (pc := 33) hR 0 dX11_rings_33 rfl rfl ?_
        exact z_ireturn (pc := 34) hR rfl rfl dX11_rings_34 rfl
    · refine z_iconst (pc := 16) hR dX11_rings_16 rfl ?_
      exact z_ireturn (pc := 17) hR rfl rfl dX11_rings_17 rfl
theorem dX1_goOn_0 : decode cX1_goOn 0 = .ok (.iconst 0, 1) := by decide +kernel
theorem dX1_goOn_1 : decode cX1_goOn 1 = .ok (.istore 4, 2) := by decide +kernel
theorem dX1_goOn_3 : decode cX1_goOn 3 = .ok (.iload 4, 2) := by decide +kernel
theorem dX1_goOn_5 : decode cX1_goOn 5 = .ok (.iload_n 3, 1) := by decide +kernel
theorem dX1_goOn_6 : decode cX1_goOn 6 = .ok (.if_icmp .ge 27, 3) := by decide +kernel
theorem dX1_goOn_9 : decode cX1_goOn 9 = .ok (.aload_n 0, 1) := by decide +kernel
theorem dX1_goOn_10 : decode cX1_goOn 10 = .ok (.getfield 14, 3) := by decide +kernel
theorem dX1_goOn_13 : decode cX1_goOn 13 = .ok (.aload_n 1, 1) := by decide +kernel
theorem dX1_goOn_14 : decode cX1_goOn 14 = .ok (.aload_n 0, 1) := by decide +kernel
theorem dX1_goOn_15 : decode cX1_goOn 15 = .ok (.getfield 21, 3) := by decide +kernel
theorem dX1_goOn_18 : decode cX1_goOn 18 = .ok (.aload_n 1, 1) := by decide +kernel
theorem dX1_goOn_19 : decode cX1_goOn 19 = .ok (.getfield 38, 3) := by decide +kernel
theorem dX1_goOn_22 : decode cX1_goOn 22 = .ok (.aload_n 2, 1) := by decide +kernel
theorem dX1_goOn_23 : decode cX1_goOn 23 = .ok (.invokevirtual 41, 3) := by decide +kernel
theorem dX1_goOn_26 : decode cX1_goOn 26 = .ok (.pop, 1) := by decide +kernel
theorem dX1_goOn_27 : decode cX1_goOn 27 = .ok (.iinc 4 1, 3) := by decide +kernel
theorem dX1_goOn_30 : decode cX1_goOn 30 = .ok (.goto (-27), 3) := by decide +kernel
theorem dX1_goOn_33 : decode cX1_goOn 33 = .ok (.return_, 1) := by decide +kernel
def Fo_goOn_L3 (N : Nat) (a2 : Int) (a3 : Int) (h3 : (Int × jMem) → Option (Int × jMem)) : Int × jMem → Option (Int × jMem)
  | (x1, M2) => (if x1 < a3 then jb1 (Ye_pass N 158 161 18 a2 M2) fun r3 M4 => h3 ((w32 (x1 + 1)), M4) else some (0, M2))
def Fo_goOn (N : Nat) (a2 a3 : Int) (M : jMem) : Option (Int × jMem) := jfix N (Fo_goOn_L3 N a2 a3) (0, M)
theorem c_Fo_goOn {l : Launch} {g : jG} (N : Nat) (a2 a3 : Int) (M : jMem) (ha2 : a2 < 0 ∨ jk jTX a2 5) : ∀ o, Fo_goOn N a2 a3 M = some o → jCt l g jTX yX1_goOn cX1_goOn 5 none 3 11 [(2, 157), (2, 15), (2, a2), (0, a3)] M o := by
  refine jMet (own := RX1) (em := id) (L := [(0, 2, 157), (1, 2, 15), (2, 2, a2), (3, 0, a3)]) (by decide +kernel) rfl (Nat.le_of_ble_eq_true rfl) rfl (fun K hR => ?_)
  unfold Fo_goOn
  refine z_iconst (pc := 0) hR dX1_goOn_0 rfl ?_
  refine z_istore (pc := 1) hR (lv' := [(4, 0, 0), (0, 2, 157), (1, 2, 15), (2, 2, a2), (3, 0, a3)]) dX1_goOn_1 (by decide) rfl ?_
  refine z_pick (pc := 3) (lv' := [(0, 2, 157), (1, 2, 15), (2, 2, a2), (3, 0, a3), (4, 0, 0)]) hR [1, 2, 3, 4, 0] rfl ?_
  refine z_fix (σ := Int × jMem) (lv := fun s => [(0, 2, 157), (1, 2, 15), (2, 2, a2), (3, 0, a3), (4, 0, s.1)]) (st := fun _ => []) (M := fun s => s.2) (fun h3 hh3 => ?_) N (0, M)
  rintro ⟨x1, M2⟩
  show jZ K id 3 [(0, 2, 157), (1, 2, 15), (2, 2, a2), (3, 0, a3), (4, 0, x1)] [] M2 _
  unfold Fo_goOn_L3
  refine z_iload (pc := 3) hR 4 dX1_goOn_3 rfl ?_
  refine z_iload_n (pc := 5) hR 3 dX1_goOn_5 rfl rfl ?_
  refine z_icmpge (pc := 6) (tgt := 33) hR dX1_goOn_6 (by decide) ?_ ?_
  · exact z_return (x := 0) (pc := 33) hR rfl rfl dX1_goOn_33 rfl
  · refine z_aload_n (pc := 9) hR 0 dX1_goOn_9 rfl rfl ?_
    refine z_getr (pc := 10) hR (c0 := 1) (r := 158) jf_RX1_14 kxo_157 (by decide) rfl rfl dX1_goOn_10 ?_
    refine z_aload_n (pc := 13) hR 1 dX1_goOn_13 rfl rfl ?_
    refine z_aload_n (pc := 14) hR 0 dX1_goOn_14 rfl rfl ?_
    refine z_getr (pc := 15) hR (c0 := 4) (r := 161) jf_RX1_21 kxo_157 (by decide) rfl rfl dX1_goOn_15 ?_
    refine z_aload_n (pc := 18) hR 1 dX1_goOn_18 rfl rfl ?_
    refine z_getr (pc := 19) hR (c0 := 3) (r := 18) jf_RX1_38 kxo_15 (by decide) rfl rfl dX1_goOn_19 ?_
    refine z_aload_n (pc := 22) hR 2 dX1_goOn_22 rfl rfl ?_
    refine z_callv1 (pc := 23) hR (As := [(2, 15), (2, 161), (2, 18), (2, a2)]) (st := []) jm_X10_pass jl_RX1_41 kxo_158 (by decide) rfl (by decide) (c_Ye_pass N 158 161 18 a2 M2 kxo_158 kxo_161 kxa_18 ha2) rfl (by decide) (by decide) rfl (Nat.le_of_ble_eq_true rfl) dX1_goOn_23 (fun r3 M4 => ?_)
    refine z_pop (pc := 26) hR dX1_goOn_26 (by decide) ?_
    refine z_iinc (pc := 27) hR (j := 4) (lv' := [(4, 0, (w32 (x1 + 1))), (0, 2, 157), (1, 2, 15), (2, 2, a2), (3, 0, a3)]) dX1_goOn_27 rfl (by decide) rfl ?_
    refine z_goto (pc := 30) (tgt := 3) hR dX1_goOn_30 (by decide) ?_
    refine z_pick (pc := 3) (lv' := [(0, 2, 157), (1, 2, 15), (2, 2, a2), (3, 0, a3), (4, 0, (w32 (x1 + 1)))]) hR [1, 2, 3, 4, 0] rfl ?_
    exact hh3 ((w32 (x1 + 1)), M4)
theorem dX1_after_0 : decode cX1_after 0 = .ok (.aload_n 0, 1) := by decide +kernel
theorem dX1_after_1 : decode cX1_after 1 = .ok (.getfield 21, 3) := by decide +kernel
theorem dX1_after_4 : decode cX1_after 4 = .ok (.aload_n 1, 1) := by decide +kernel
theorem dX1_after_5 : decode cX1_after 5 = .ok (.getfield 45, 3) := by decide +kernel
theorem dX1_after_8 : decode cX1_after 8 = .ok (.invokevirtual 50, 3) := by decide +kernel
theorem dX1_after_11 : decode cX1_after 11 = .ok (.aload_n 0, 1) := by decide +kernel
theorem dX1_after_12 : decode cX1_after 12 = .ok (.aload_n 1, 1) := by decide +kernel
theorem dX1_after_13 : decode cX1_after 13 = .ok (.getfield 54, 3) := by decide +kernel
theorem dX1_after_16 : decode cX1_after 16 = .ok (.aload_n 2, 1) := by decide +kernel
theorem dX1_after_17 : decode cX1_after 17 = .ok (.iload_n 3, 1) := by decide +kernel
theorem dX1_after_18 : decode cX1_after 18 = .ok (.invokevirtual 58, 3) := by decide +kernel
theorem dX1_after_21 : decode cX1_after 21 = .ok (.aload_n 0, 1) := by decide +kernel
theorem dX1_after_22 : decode cX1_after 22 = .ok (.getfield 21, 3) := by decide +kernel
theorem dX1_after_25 : decode cX1_after 25 = .ok (.areturn, 1) := by decide +kernel
def Fo_after (N : Nat) (a2 a3 : Int) (M : jMem) : Option (Int × jMem) := jbv (St_copyFrom N 161 21 M) fun M1 => jbv (Fo_goOn N a2 a3 M1) fun M2 => some (161, M2)
theorem c_Fo_after {l : Launch} {g : jG} (N : Nat) (a2 a3 : Int) (M : jMem) (ha2 : a2 < 0 ∨ jk jTX a2 5) : ∀ o, Fo_after N a2 a3 M = some o → jCt l g jTX yX1_after cX1_after 4 (some (.object "WellSwap$State")) 2 13 [(2, 157), (2, 14), (2, a2), (0, a3)] M o := by
  refine jMet (own := RX1) (em := id) (L := [(0, 2, 157), (1, 2, 14), (2, 2, a2), (3, 0, a3)]) (by decide +kernel) rfl (Nat.le_of_ble_eq_true rfl) rfl (fun K hR => ?_)
  unfold Fo_after
  refine z_aload_n (pc := 0) hR 0 dX1_after_0 rfl rfl ?_
  refine z_getr (pc := 1) hR (c0 := 4) (r := 161) jf_RX1_21 kxo_157 (by decide) rfl rfl dX1_after_1 ?_
  refine z_aload_n (pc := 4) hR 1 dX1_after_4 rfl rfl ?_
  refine z_getr (pc := 5) hR (c0 := 7) (r := 21) jf_RX1_45 kxo_14 (by decide) rfl rfl dX1_after_5 ?_
  refine z_callv0 (pc := 8) (rk' := 3) hR (As := [(2, 21)]) (st := []) jm_X7_copyFrom jl_RX1_50 kxo_161 (by decide) rfl (c_St_copyFrom N 161 21 M kxo_161 kxo_21) rfl (by decide) (by decide) rfl (Nat.le_of_ble_eq_true rfl) dX1_after_8 (fun M1 => ?_)
  refine z_aload_n (pc := 11) hR 0 dX1_after_11 rfl rfl ?_
  refine z_aload_n (pc := 12) hR 1 dX1_after_12 rfl rfl ?_
  refine z_getr (pc := 13) hR (c0 := 1) (r := 15) jf_RX1_54 kxo_14 (by decide) rfl rfl dX1_after_13 ?_
  refine z_aload_n (pc := 16) hR 2 dX1_after_16 rfl rfl ?_
  refine z_iload_n (pc := 17) hR 3 dX1_after_17 rfl rfl ?_
  refine z_callv0 (pc := 18) (rk' := 3) hR (As := [(2, 15), (2, a2), (0, a3)]) (st := []) jm_X1_goOn jl_RX1_58 kxo_157 (by decide) rfl (c_Fo_goOn N a2 a3 M1 ha2) rfl (by decide) (by decide) rfl (Nat.le_of_ble_eq_true rfl) dX1_after_18 (fun M2 => ?_)
  refine z_aload_n (pc := 21) hR 0 dX1_after_21 rfl rfl ?_
  refine z_getr (pc := 22) hR (c0 := 4) (r := 161) jf_RX1_21 kxo_157 (by decide) rfl rfl dX1_after_22 ?_
  exact z_areturn (pc := 25) hR rfl rfl dX1_after_25 rfl
theorem dX11_ahead_0 : decode cX11_ahead 0 = .ok (.iload_n 2, 1) := by decide +kernel
theorem dX11_ahead_1 : decode cX11_ahead 1 = .ok (.iconst 0, 1) := by decide +kernel
theorem dX11_ahead_2 : decode cX11_ahead 2 = .ok (.bipush 100, 2) := by decide +kernel
theorem dX11_ahead_4 : decode cX11_ahead 4 = .ok (.invokestatic 137, 3) := by decide +kernel
theorem dX11_ahead_7 : decode cX11_ahead 7 = .ok (.ifCond .eq 19, 3) := by decide +kernel
theorem dX11_ahead_10 : decode cX11_ahead 10 = .ok (.iload_n 3, 1) := by decide +kernel
theorem dX11_ahead_11 : decode cX11_ahead 11 = .ok (.iconst 0, 1) := by decide +kernel
theorem dX11_ahead_12 : decode cX11_ahead 12 = .ok (.iconst 3, 1) := by decide +kernel
theorem dX11_ahead_13 : decode cX11_ahead 13 = .ok (.invokestatic 137, 3) := by decide +kernel
theorem dX11_ahead_16 : decode cX11_ahead 16 = .ok (.ifCond .eq 10, 3) := by decide +kernel
theorem dX11_ahead_19 : decode cX11_ahead 19 = .ok (.aload_n 0, 1) := by decide +kernel
theorem dX11_ahead_20 : decode cX11_ahead 20 = .ok (.invokevirtual 177, 3) := by decide +kernel
theorem dX11_ahead_23 : decode cX11_ahead 23 = .ok (.ifCond .ne 5, 3) := by decide +kernel
theorem dX11_ahead_26 : decode cX11_ahead 26 = .ok (.iconst (-1), 1) := by decide +kernel
theorem dX11_ahead_27 : decode cX11_ahead 27 = .ok (.ireturn, 1) := by decide +kernel
theorem dX11_ahead_28 : decode cX11_ahead 28 = .ok (.iload_n 3, 1) := by decide +kernel
theorem dX11_ahead_29 : decode cX11_ahead 29 = .ok (.iconst 1, 1) := by decide +kernel
theorem dX11_ahead_30 : decode cX11_ahead 30 = .ok (.if_icmp .eq 8, 3) := by decide +kernel
theorem dX11_ahead_33 : decode cX11_ahead 33 = .ok (.iload_n 3, 1) := by decide +kernel
theorem dX11_ahead_34 : decode cX11_ahead 34 = .ok (.iconst 2, 1) := by decide +kernel
theorem dX11_ahead_35 : decode cX11_ahead 35 = .ok (.if_icmp .ne 7, 3) := by decide +kernel
theorem dX11_ahead_38 : decode cX11_ahead 38 = .ok (.iconst 1, 1) := by decide +kernel
theorem dX11_ahead_39 : decode cX11_ahead 39 = .ok (.goto 4, 3) := by decide +kernel
theorem dX11_ahead_42 : decode cX11_ahead 42 = .ok (.iconst 0, 1) := by decide +kernel
theorem dX11_ahead_43 : decode cX11_ahead 43 = .ok (.istore 4, 2) := by decide +kernel
theorem dX11_ahead_45 : decode cX11_ahead 45 = .ok (.iload 4, 2) := by decide +kernel
theorem dX11_ahead_47 : decode cX11_ahead 47 = .ok (.ifCond .eq 13, 3) := by decide +kernel
theorem dX11_ahead_50 : decode cX11_ahead 50 = .ok (.aload_n 0, 1) := by decide +kernel
theorem dX11_ahead_51 : decode cX11_ahead 51 = .ok (.iload_n 1, 1) := by decide +kernel
theorem dX11_ahead_52 : decode cX11_ahead 52 = .ok (.invokevirtual 144, 3) := by decide +kernel
theorem dX11_ahead_55 : decode cX11_ahead 55 = .ok (.ifCond .ne 5, 3) := by decide +kernel
theorem dX11_ahead_58 : decode cX11_ahead 58 = .ok (.iconst (-1), 1) := by decide +kernel
theorem dX11_ahead_59 : decode cX11_ahead 59 = .ok (.ireturn, 1) := by decide +kernel
theorem dX11_ahead_60 : decode cX11_ahead 60 = .ok (.aload_n 0, 1) := by decide +kernel
theorem dX11_ahead_61 : decode cX11_ahead 61 = .ok (.getfield 68, 3) := by decide +kernel
theorem dX11_ahead_64 : decode cX11_ahead 64 = .ok (.aload_n 0, 1) := by decide +kernel
theorem dX11_ahead_65 : decode cX11_ahead 65 = .ok (.getfield 43, 3) := by decide +kernel
theorem dX11_ahead_68 : decode cX11_ahead 68 = .ok (.aload_n 0, 1) := by decide +kernel
theorem dX11_ahead_69 : decode cX11_ahead 69 = .ok (.invokevirtual 215, 3) := by decide +kernel
theorem dX11_ahead_72 : decode cX11_ahead 72 = .ok (.iload_n 2, 1) := by decide +kernel
theorem dX11_ahead_73 : decode cX11_ahead 73 = .ok (.invokevirtual 274, 3) := by decide +kernel
theorem dX11_ahead_76 : decode cX11_ahead 76 = .ok (.astore 5, 2) := by decide +kernel
theorem dX11_ahead_78 : decode cX11_ahead 78 = .ok (.iload_n 3, 1) := by decide +kernel
theorem dX11_ahead_79 : decode cX11_ahead 79 = .ok (.tableswitch 47 0 2 #[25, 31, 39], 25) := by decide +kernel
theorem dX11_ahead_104 : decode cX11_ahead 104 = .ok (.aload 5, 2) := by decide +kernel
theorem dX11_ahead_106 : decode cX11_ahead 106 = .ok (.invokevirtual 181, 3) := by decide +kernel
theorem dX11_ahead_109 : decode cX11_ahead 109 = .ok (.ireturn, 1) := by decide +kernel
theorem dX11_ahead_110 : decode cX11_ahead 110 = .ok (.aload 5, 2) := by decide +kernel
theorem dX11_ahead_112 : decode cX11_ahead 112 = .ok (.getfield 155, 3) := by decide +kernel
theorem dX11_ahead_115 : decode cX11_ahead 115 = .ok (.iload_n 1, 1) := by decide +kernel
theorem dX11_ahead_116 : decode cX11_ahead 116 = .ok (.iaload, 1) := by decide +kernel
theorem dX11_ahead_117 : decode cX11_ahead 117 = .ok (.ireturn, 1) := by decide +kernel
theorem dX11_ahead_118 : decode cX11_ahead 118 = .ok (.aload 5, 2) := by decide +kernel
theorem dX11_ahead_120 : decode cX11_ahead 120 = .ok (.getfield 152, 3) := by decide +kernel
theorem dX11_ahead_123 : decode cX11_ahead 123 = .ok (.iload_n 1, 1) := by decide +kernel
theorem dX11_ahead_124 : decode cX11_ahead 124 = .ok (.iaload, 1) := by decide +kernel
theorem dX11_ahead_125 : decode cX11_ahead 125 = .ok (.ireturn, 1) := by decide +kernel
theorem dX11_ahead_126 : decode cX11_ahead 126 = .ok (.aload 5, 2) := by decide +kernel
theorem dX11_ahead_128 : decode cX11_ahead 128 = .ok (.invokevirtual 197, 3) := by decide +kernel
theorem dX11_ahead_131 : decode cX11_ahead 131 = .ok (.ireturn, 1) := by decide +kernel
def x_ahead (N : Nat) (a1 a2 a3 : Int) (M : jMem) : Option (Int × jMem) := (x_isWithin N a2 0 100 M).bind fun r1 => (if r1 = 0 then some ((-1), M) else (x_isWithin N a3 0 3 M).bind fun r2 => (if r2 = 0 then some ((-1), M) else (x_hasParish N M).bind fun r3 => (if r3 = 0 then some ((-1), M) else jlt (fun (u4 : Int) => jlt (fun (_ : Unit) => (x_ruleInForce N M).bind fun r5 => jchk (jnb jTX r5 5 = true) <| jb1 (Fo_after N r5 a2 M) fun r7 M8 => jchk (jkb jTX r7 7 = true) <| (if a3 = 0 then (St_lieNumber N r7 M8).bind fun r11 => some (r11, M8) else (if a3 = 1 then jchk (0 ≤ a1 ∧ a1 < 7) <| some ((M8 ((r7 + 3)) a1), M8) else (if a3 = 2 then jchk (0 ≤ a1 ∧ a1 < 7) <| some ((M8 ((r7 + 2)) a1), M8) else (St_heirsOfAll N r7 M8).bind fun r16 => some (r16, M8))))) fun j60 => (if u4 = 0 then j60 () else (x_isWell N a1 M).bind fun r17 => (if r17 = 0 then some ((-1), M) else j60 ()))) fun j43 => (if a3 = 1 then j43 1 else (if a3 = 2 then j43 1 else j43 0)))))
theorem c_x_ahead {l : Launch} {g : jG} (N : Nat) (a1 a2 a3 : Int) (M : jMem)  : ∀ o, x_ahead N a1 a2 a3 M = some o → jCt l g jTX yX11_ahead cX11_ahead 6 (some .int) 0 15 [(2, 0), (0, a1), (0, a2), (0, a3)] M o := by
  refine jMet (own := RX11) (em := id) (L := [(0, 2, 0), (1, 0, a1), (2, 0, a2), (3, 0, a3)]) (by decide +kernel) rfl (Nat.le_of_ble_eq_true rfl) rfl (fun K hR => ?_)
  unfold x_ahead
  refine z_iload_n (pc := 0) hR 2 dX11_ahead_0 rfl rfl ?_
  refine z_iconst (pc := 1) hR dX11_ahead_1 rfl ?_
  refine z_bipush (pc := 2) hR dX11_ahead_2 rfl ?_
  refine z_callsp (pc := 4) hR (As := [(0, a2), (0, 0), (0, 100)]) (st := []) jm_X11_isWithin jl_RX11_137 (by decide) (c_x_isWithin N a2 0 100 M) rfl (by decide) (by decide) rfl (Nat.le_of_ble_eq_true rfl) dX11_ahead_4 (fun r1 => ?_)
  refine z_ifeq (pc := 7) (tgt := 26) hR dX11_ahead_7 (by decide) ?_ ?_
  · refine z_iconst (pc := 26) hR dX11_ahead_26 rfl ?_
    exact z_ireturn (pc := 27) hR rfl rfl dX11_ahead_27 rfl
  · refine z_iload_n (pc := 10) hR 3 dX11_ahead_10 rfl rfl ?_
    refine z_iconst (pc := 11) hR dX11_ahead_11 rfl ?_
    refine z_iconst (pc := 12) hR dX11_ahead_12 rfl ?_
    refine z_callsp (pc := 13) hR (As := [(0, a3), (0, 0), (0, 3)]) (st := []) jm_X11_isWithin jl_RX11_137 (by decide) (c_x_isWithin N a3 0 3 M) rfl (by decide) (by decide) rfl (Nat.le_of_ble_eq_true rfl) dX11_ahead_13 (fun r2 => ?_)
    refine z_ifeq (pc := 16) (tgt := 26) hR dX11_ahead_16 (by decide) ?_ ?_
    · refine z_iconst (pc := 26) hR dX11_ahead_26 rfl ?_
      exact z_ireturn (pc := 27) hR rfl rfl dX11_ahead_27 rfl
    · refine z_aload_n (pc := 19) hR 0 dX11_ahead_19 rfl rfl ?_
      refine z_callvp (pc := 20) hR (As := []) (st := []) jm_X11_hasParish jl_RX11_177 kxo_0 (by decide) rfl (by decide) (c_x_hasParish N M) rfl (by decide) (by decide) rfl (Nat.le_of_ble_eq_true rfl) dX11_ahead_20 (fun r3 => ?_)
      refine z_ifne (pc := 23) (tgt := 28) hR dX11_ahead_23 (by decide) ?_ ?_
      · refine z_iload_n (pc := 28) hR 3 dX11_ahead_28 rfl rfl ?_
        refine z_iconst (pc := 29) hR dX11_ahead_29 rfl ?_
        refine z_join (P := fun j => ∀ (u4 : Int), jZ K id 43 [(0, 2, 0), (1, 0, a1), (2, 0, a2), (3, 0, a3)] [(0, u4)] M (j u4)) (fun u4 => ?_) (fun j43 hj43 => ?_)
        · refine z_istore (pc := 43) hR (lv' := [(4, 0, u4), (0, 2, 0), (1, 0, a1), (2, 0, a2), (3, 0, a3)]) dX11_ahead_43 (by decide) rfl ?_
          refine z_iload (pc := 45) hR 0 dX11_ahead_45 rfl ?_
          refine z_join (P := fun j => ∀ (_ : Unit), jZ K id 60 [(0, 2, 0), (1, 0, a1), (2, 0, a2), (3, 0, a3)] [] M (j ())) (fun _ => ?_) (fun j60 hj60 => ?_)
          · refine z_aload_n (pc := 60) hR 0 dX11_ahead_60 rfl rfl ?_
            refine z_getr (pc := 61) hR (c0 := 157) (r := 157) jf_RX11_68 kxo_0 (by decide) rfl rfl dX11_ahead_61 ?_
            refine z_aload_n (pc := 64) hR 0 dX11_ahead_64 rfl rfl ?_
            refine z_getr (pc := 65) hR (c0 := 14) (r := 14) jf_RX11_43 kxo_0 (by decide) rfl rfl dX11_ahead_65 ?_
            refine z_aload_n (pc := 68) hR 0 dX11_ahead_68 rfl rfl ?_
            refine z_callvp (pc := 69) hR (As := []) (st := [(2, 14), (2, 157)]) jm_X11_ruleInForce jl_RX11_215 kxo_0 (by decide) rfl (by decide) (c_x_ruleInForce N M) rfl (by decide) (by decide) rfl (Nat.le_of_ble_eq_true rfl) dX11_ahead_69 (fun r5 => ?_)
            refine z_chk (fun hc6 => ?_)
            refine z_iload_n (pc := 72) hR 2 dX11_ahead_72 rfl rfl ?_
            refine z_callv1 (pc := 73) hR (As := [(2, 14), (2, r5), (0, a2)]) (st := []) jm_X1_after jl_RX11_274 kxo_157 (by decide) rfl (by decide) (c_Fo_after N r5 a2 M (jnb_ok hc6)) rfl (by decide) (by decide) rfl (Nat.le_of_ble_eq_true rfl) dX11_ahead_73 (fun r7 M8 => ?_)
            refine z_chk (fun hc9 => ?_)
            refine z_astore (pc := 76) hR (lv' := [(5, 2, r7), (0, 2, 0), (1, 0, a1), (2, 0, a2), (3, 0, a3)]) dX11_ahead_76 (by decide) rfl ?_
            refine z_iload_n (pc := 78) hR 4 dX11_ahead_78 rfl rfl ?_
            refine z_tsw (pc := 79) (tgt := 104) (j := 0) (y := 0) hR dX11_ahead_79 rfl rfl (by decide) (by decide) ?_ (fun hs10 => ?_)
            · refine z_aload (pc := 104) hR 0 dX11_ahead_104 rfl ?_
              refine z_callvp (pc := 106) hR (As := []) (st := []) jm_X7_lieNumber jl_RX11_181 (jkb_ok hc9) (by decide) rfl (by decide) (c_St_lieNumber N r7 M8 (jkb_ok hc9)) rfl (by decide) (by decide) rfl (Nat.le_of_ble_eq_true rfl) dX11_ahead_106 (fun r11 => ?_)
              exact z_ireturn (pc := 109) hR rfl rfl dX11_ahead_109 rfl
            refine z_tsw (pc := 79) (tgt := 110) (j := 1) (y := 1) hR dX11_ahead_79 rfl rfl (by decide) (by decide) ?_ (fun hs12 => ?_)
            · refine z_aload (pc := 110) hR 0 dX11_ahead_110 rfl ?_
              refine z_getr (pc := 112) hR (c0 := 3) (r := (r7 + 3)) jf_RX11_155 (jkb_ok hc9) (by decide) rfl rfl dX11_ahead_112 ?_
              refine z_iload_n (pc := 115) hR 2 dX11_ahead_115 rfl rfl ?_
              refine z_chk (fun hc13 => ?_)
              refine z_iald (pc := 116) hR (n := 7) (kf_7_water (jkb_ok hc9)) hc13.1 hc13.2 dX11_ahead_116 ?_
              exact z_ireturn (pc := 117) hR rfl rfl dX11_ahead_117 rfl
            refine z_tsw (pc := 79) (tgt := 118) (j := 2) (y := 2) hR dX11_ahead_79 rfl rfl (by decide) (by decide) ?_ (fun hs14 => ?_)
            · refine z_aload (pc := 118) hR 0 dX11_ahead_118 rfl ?_
              refine z_getr (pc := 120) hR (c0 := 2) (r := (r7 + 2)) jf_RX11_152 (jkb_ok hc9) (by decide) rfl rfl dX11_ahead_120 ?_
              refine z_iload_n (pc := 123) hR 2 dX11_ahead_123 rfl rfl ?_
              refine z_chk (fun hc15 => ?_)
              refine z_iald (pc := 124) hR (n := 7) (kf_7_taste (jkb_ok hc9)) hc15.1 hc15.2 dX11_ahead_124 ?_
              exact z_ireturn (pc := 125) hR rfl rfl dX11_ahead_125 rfl
            refine z_tswd (pc := 79) (tgt := 126) hR dX11_ahead_79 (by omega) (by decide) ?_
            refine z_aload (pc := 126) hR 0 dX11_ahead_126 rfl ?_
            refine z_callvp (pc := 128) hR (As := []) (st := []) jm_X7_heirsOfAll jl_RX11_197 (jkb_ok hc9) (by decide) rfl (by decide) (c_St_heirsOfAll N r7 M8 (jkb_ok hc9)) rfl (by decide) (by decide) rfl (Nat.le_of_ble_eq_true rfl) dX11_ahead_128 (fun r16 => ?_)
            exact z_ireturn (pc := 131) hR rfl rfl dX11_ahead_131 rfl
          refine z_ifeq (pc := 47) (tgt := 60) hR dX11_ahead_47 (by decide) ?_ ?_
          · refine z_pick (pc := 60) (lv' := [(0, 2, 0), (1, 0, a1), (2, 0, a2), (3, 0, a3)]) hR [1, 2, 3, 4] rfl ?_
            exact hj60 ()
          · refine z_aload_n (pc := 50) hR 1 dX11_ahead_50 rfl rfl ?_
            refine z_iload_n (pc := 51) hR 2 dX11_ahead_51 rfl rfl ?_
            refine z_callvp (pc := 52) hR (As := [(0, a1)]) (st := []) jm_X11_isWell jl_RX11_144 kxo_0 (by decide) rfl (by decide) (c_x_isWell N a1 M) rfl (by decide) (by decide) rfl (Nat.le_of_ble_eq_true rfl) dX11_ahead_52 (fun r17 => ?_)
            refine z_ifne (pc := 55) (tgt := 60) hR dX11_ahead_55 (by decide) ?_ ?_
            · refine z_pick (pc := 60) (lv' := [(0, 2, 0), (1, 0, a1), (2, 0, a2), (3, 0, a3)]) hR [1, 2, 3, 4] rfl ?_
              exact hj60 ()
            · refine z_iconst (pc := 58) hR dX11_ahead_58 rfl ?_
              exact z_ireturn (pc := 59) hR rfl rfl dX11_ahead_59 rfl
        refine z_icmpeq (pc := 30) (tgt := 38) hR dX11_ahead_30 (by decide) ?_ ?_
        · refine z_iconst (pc := 38) hR dX11_ahead_38 rfl ?_
          refine z_goto (pc := 39) (tgt := 43) hR dX11_ahead_39 (by decide) ?_
          exact hj43 1
        · refine z_iload_n (pc := 33) hR 3 dX11_ahead_33 rfl rfl ?_
          refine z_iconst (pc := 34) hR dX11_ahead_34 rfl ?_
          refine z_icmpne (pc := 35) (tgt := 42) hR dX11_ahead_35 (by decide) ?_ ?_
          · refine z_iconst (pc := 42) hR dX11_ahead_42 rfl ?_
            exact hj43 0
          · refine z_iconst (pc := 38) hR dX11_ahead_38 rfl ?_
            refine z_goto (pc := 39) (tgt := 43) hR dX11_ahead_39 (by decide) ?_
            exact hj43 1
      · refine z_iconst (pc := 26) hR dX11_ahead_26 rfl ?_
        exact z_ireturn (pc := 27) hR rfl rfl dX11_ahead_27 rfl
theorem dX1_yearDug_0 : decode cX1_yearDug 0 = .ok (.aload_n 0, 1) := by decide +kernel
theorem dX1_yearDug_1 : decode cX1_yearDug 1 = .ok (.getfield 21, 3) := by decide +kernel
theorem dX1_yearDug_4 : decode cX1_yearDug 4 = .ok (.aload_n 1, 1) := by decide +kernel
theorem dX1_yearDug_5 : decode cX1_yearDug 5 = .ok (.getfield 45, 3) := by decide +kernel
theorem dX1_yearDug_8 : decode cX1_yearDug 8 = .ok (.invokevirtual 50, 3) := by decide +kernel
theorem dX1_yearDug_11 : decode cX1_yearDug 11 = .ok (.iconst 0, 1) := by decide +kernel
theorem dX1_yearDug_12 : decode cX1_yearDug 12 = .ok (.istore 4, 2) := by decide +kernel
theorem dX1_yearDug_14 : decode cX1_yearDug 14 = .ok (.iload 4, 2) := by decide +kernel
theorem dX1_yearDug_16 : decode cX1_yearDug 16 = .ok (.sipush 200, 3) := by decide +kernel
theorem dX1_yearDug_19 : decode cX1_yearDug 19 = .ok (.if_icmp .ge 43, 3) := by decide +kernel
theorem dX1_yearDug_22 : decode cX1_yearDug 22 = .ok (.aload_n 0, 1) := by decide +kernel
theorem dX1_yearDug_23 : decode cX1_yearDug 23 = .ok (.aload_n 1, 1) := by decide +kernel
theorem dX1_yearDug_24 : decode cX1_yearDug 24 = .ok (.getfield 54, 3) := by decide +kernel
theorem dX1_yearDug_27 : decode cX1_yearDug 27 = .ok (.aload_n 2, 1) := by decide +kernel
theorem dX1_yearDug_28 : decode cX1_yearDug 28 = .ok (.iconst 1, 1) := by decide +kernel
theorem dX1_yearDug_29 : decode cX1_yearDug 29 = .ok (.invokevirtual 58, 3) := by decide +kernel
theorem dX1_yearDug_32 : decode cX1_yearDug 32 = .ok (.aload_n 0, 1) := by decide +kernel
theorem dX1_yearDug_33 : decode cX1_yearDug 33 = .ok (.getfield 14, 3) := by decide +kernel
theorem dX1_yearDug_36 : decode cX1_yearDug 36 = .ok (.getfield 62, 3) := by decide +kernel
theorem dX1_yearDug_39 : decode cX1_yearDug 39 = .ok (.iload_n 3, 1) := by decide +kernel
theorem dX1_yearDug_40 : decode cX1_yearDug 40 = .ok (.ishr, 1) := by decide +kernel
theorem dX1_yearDug_41 : decode cX1_yearDug 41 = .ok (.iconst 1, 1) := by decide +kernel
theorem dX1_yearDug_42 : decode cX1_yearDug 42 = .ok (.iand, 1) := by decide +kernel
theorem dX1_yearDug_43 : decode cX1_yearDug 43 = .ok (.ifCond .eq 13, 3) := by decide +kernel
theorem dX1_yearDug_46 : decode cX1_yearDug 46 = .ok (.aload_n 0, 1) := by decide +kernel
theorem dX1_yearDug_47 : decode cX1_yearDug 47 = .ok (.getfield 21, 3) := by decide +kernel
theorem dX1_yearDug_50 : decode cX1_yearDug 50 = .ok (.getfield 66, 3) := by decide +kernel
theorem dX1_yearDug_53 : decode cX1_yearDug 53 = .ok (.iconst 1, 1) := by decide +kernel
theorem dX1_yearDug_54 : decode cX1_yearDug 54 = .ok (.isub, 1) := by decide +kernel
theorem dX1_yearDug_55 : decode cX1_yearDug 55 = .ok (.ireturn, 1) := by decide +kernel
theorem dX1_yearDug_56 : decode cX1_yearDug 56 = .ok (.iinc 4 1, 3) := by decide +kernel
theorem dX1_yearDug_59 : decode cX1_yearDug 59 = .ok (.goto (-45), 3) := by decide +kernel
theorem dX1_yearDug_62 : decode cX1_yearDug 62 = .ok (.bipush (-2), 2) := by decide +kernel
theorem dX1_yearDug_64 : decode cX1_yearDug 64 = .ok (.ireturn, 1) := by decide +kernel
def Fo_yearDug_L14 (N : Nat) (a2 : Int) (a3 : Int) (h14 : (Int × jMem) → Option (Int × jMem)) : Int × jMem → Option (Int × jMem)
  | (x2, M3) => (if x2 < 200 then jbv (Fo_goOn N a2 1 M3) fun M4 => (if (jand ((jshr ((M4 158 1)) a3)) 1) = 0 then h14 ((w32 (x2 + 1)), M4) else some ((w32 (((M4 161 1)) - 1)), M4)) else some ((-2), M3))
def Fo_yearDug (N : Nat) (a2 a3 : Int) (M : jMem) : Option (Int × jMem) := jbv (St_copyFrom N 161 21 M) fun M1 => jfix N (Fo_yearDug_L14 N a2 a3) (0, M1)
theorem c_Fo_yearDug {l : Launch} {g : jG} (N : Nat) (a2 a3 : Int) (M : jMem) (ha2 : a2 < 0 ∨ jk jTX a2 5) : ∀ o, Fo_yearDug N a2 a3 M = some o → jCt l g jTX yX1_yearDug cX1_yearDug 5 (some .int) 0 13 [(2, 157), (2, 14), (2, a2), (0, a3)] M o := by
  refine jMet (own := RX1) (em := id) (L := [(0, 2, 157), (1, 2, 14), (2, 2, a2), (3, 0, a3)]) (by decide +kernel) rfl (Nat.le_of_ble_eq_true rfl) rfl (fun K hR => ?_)
  unfold Fo_yearDug
  refine z_aload_n (pc := 0) hR 0 dX1_yearDug_0 rfl rfl ?_
  refine z_getr (pc := 1) hR (c0 := 4) (r := 161) jf_RX1_21 kxo_157 (by decide) rfl rfl dX1_yearDug_1 ?_
  refine z_aload_n (pc := 4) hR 1 dX1_yearDug_4 rfl rfl ?_
  refine z_getr (pc := 5) hR (c0 := 7) (r := 21) jf_RX1_45 kxo_14 (by decide) rfl rfl dX1_yearDug_5 ?_
  refine z_callv0 (pc := 8) (rk' := 3) hR (As := [(2, 21)]) (st := []) jm_X7_copyFrom jl_RX1_50 kxo_161 (by decide) rfl (c_St_copyFrom N 161 21 M kxo_161 kxo_21) rfl (by decide) (by decide) rfl (Nat.le_of_ble_eq_true rfl) dX1_yearDug_8 (fun M1 => ?_)
  refine z_iconst (pc := 11) hR dX1_yearDug_11 rfl ?_
  refine z_istore (pc := 12) hR (lv' := [(4, 0, 0), (0, 2, 157), (1, 2, 14), (2, 2, a2), (3, 0, a3)]) dX1_yearDug_12 (by decide) rfl ?_
  refine z_pick (pc := 14) (lv' := [(0, 2, 157), (1, 2, 14), (2, 2, a2), (3, 0, a3), (4, 0, 0)]) hR [1, 2, 3, 4, 0] rfl ?_
  refine z_fix (σ := Int × jMem) (lv := fun s => [(0, 2, 157), (1, 2, 14), (2, 2, a2), (3, 0, a3), (4, 0, s.1)]) (st := fun _ => []) (M := fun s => s.2) (fun h14 hh14 => ?_) N (0, M1)
  rintro ⟨x2, M3⟩
  show jZ K id 14 [(0, 2, 157), (1, 2, 14), (2, 2, a2), (3, 0, a3), (4, 0, x2)] [] M3 _
  unfold Fo_yearDug_L14
  refine z_iload (pc := 14) hR 4 dX1_yearDug_14 rfl ?_
  refine z_sipush (pc := 16) hR dX1_yearDug_16 rfl ?_
  refine z_icmpge (pc := 19) (tgt := 62) hR dX1_yearDug_19 (by decide) ?_ ?_
  · refine z_bipush (pc := 62) hR dX1_yearDug_62 rfl ?_
    exact z_ireturn (pc := 64) hR rfl rfl dX1_yearDug_64 rfl
  · refine z_aload_n (pc := 22) hR 0 dX1_yearDug_22 rfl rfl ?_
    refine z_aload_n (pc := 23) hR 1 dX1_yearDug_23 rfl rfl ?_
    refine z_getr (pc := 24) hR (c0 := 1) (r := 15) jf_RX1_54 kxo_14 (by decide) rfl rfl dX1_yearDug_24 ?_
    refine z_aload_n (pc := 27) hR 2 dX1_yearDug_27 rfl rfl ?_
    refine z_iconst (pc := 28) hR dX1_yearDug_28 rfl ?_
    refine z_callv0 (pc := 29) (rk' := 3) hR (As := [(2, 15), (2, a2), (0, 1)]) (st := []) jm_X1_goOn jl_RX1_58 kxo_157 (by decide) rfl (c_Fo_goOn N a2 1 M3 ha2) rfl (by decide) (by decide) rfl (Nat.le_of_ble_eq_true rfl) dX1_yearDug_29 (fun M4 => ?_)
    refine z_aload_n (pc := 32) hR 0 dX1_yearDug_32 rfl rfl ?_
    refine z_getr (pc := 33) hR (c0 := 1) (r := 158) jf_RX1_14 kxo_157 (by decide) rfl rfl dX1_yearDug_33 ?_
    refine z_geti (pc := 36) hR (j := 1) jf_RX1_62 kxo_158 (by decide) rfl rfl dX1_yearDug_36 ?_
    refine z_iload_n (pc := 39) hR 3 dX1_yearDug_39 rfl rfl ?_
    refine z_ishr (pc := 40) hR dX1_yearDug_40 ?_
    refine z_iconst (pc := 41) hR dX1_yearDug_41 rfl ?_
    refine z_iand (pc := 42) hR dX1_yearDug_42 ?_
    refine z_ifeq (pc := 43) (tgt := 56) hR dX1_yearDug_43 (by decide) ?_ ?_
    · refine z_iinc (pc := 56) hR (j := 4) (lv' := [(4, 0, (w32 (x2 + 1))), (0, 2, 157), (1, 2, 14), (2, 2, a2), (3, 0, a3)]) dX1_yearDug_56 rfl (by decide) rfl ?_
      refine z_goto (pc := 59) (tgt := 14) hR dX1_yearDug_59 (by decide) ?_
      refine z_pick (pc := 14) (lv' := [(0, 2, 157), (1, 2, 14), (2, 2, a2), (3, 0, a3), (4, 0, (w32 (x2 + 1)))]) hR [1, 2, 3, 4, 0] rfl ?_
      exact hh14 ((w32 (x2 + 1)), M4)
    · refine z_aload_n (pc := 46) hR 0 dX1_yearDug_46 rfl rfl ?_
      refine z_getr (pc := 47) hR (c0 := 4) (r := 161) jf_RX1_21 kxo_157 (by decide) rfl rfl dX1_yearDug_47 ?_
      refine z_geti (pc := 50) hR (j := 1) jf_RX1_66 kxo_161 (by decide) rfl rfl dX1_yearDug_50 ?_
      refine z_iconst (pc := 53) hR dX1_yearDug_53 rfl ?_
      refine z_isub (pc := 54) hR dX1_yearDug_54 ?_
      exact z_ireturn (pc := 55) hR rfl rfl dX1_yearDug_55 rfl
theorem dX11_dry_0 : decode cX11_dry 0 = .ok (.aload_n 0, 1) := by decide +kernel
theorem dX11_dry_1 : decode cX11_dry 1 = .ok (.iload_n 1, 1) := by decide +kernel
theorem dX11_dry_2 : decode cX11_dry 2 = .ok (.invokevirtual 144, 3) := by decide +kernel
theorem dX11_dry_5 : decode cX11_dry 5 = .ok (.ifCond .eq 22, 3) := by decide +kernel
theorem dX11_dry_8 : decode cX11_dry 8 = .ok (.aload_n 0, 1) := by decide +kernel
theorem dX11_dry_9 : decode cX11_dry 9 = .ok (.getfield 68, 3) := by decide +kernel
theorem dX11_dry_12 : decode cX11_dry 12 = .ok (.aload_n 0, 1) := by decide +kernel
theorem dX11_dry_13 : decode cX11_dry 13 = .ok (.getfield 43, 3) := by decide +kernel
theorem dX11_dry_16 : decode cX11_dry 16 = .ok (.aload_n 0, 1) := by decide +kernel
theorem dX11_dry_17 : decode cX11_dry 17 = .ok (.invokevirtual 215, 3) := by decide +kernel
theorem dX11_dry_20 : decode cX11_dry 20 = .ok (.iload_n 1, 1) := by decide +kernel
theorem dX11_dry_21 : decode cX11_dry 21 = .ok (.invokevirtual 278, 3) := by decide +kernel
theorem dX11_dry_24 : decode cX11_dry 24 = .ok (.goto 4, 3) := by decide +kernel
theorem dX11_dry_27 : decode cX11_dry 27 = .ok (.iconst (-1), 1) := by decide +kernel
theorem dX11_dry_28 : decode cX11_dry 28 = .ok (.ireturn, 1) := by decide +kernel
def x_dry (N : Nat) (a1 : Int) (M : jMem) : Option (Int × jMem) := (x_isWell N a1 M).bind fun r1 => (if r1 = 0 then some ((-1), M) else (x_ruleInForce N M).bind fun r2 => jchk (jnb jTX r2 5 = true) <| jb1 (Fo_yearDug N r2 a1 M) fun r4 M5 => some (r4, M5))
theorem c_x_dry {l : Launch} {g : jG} (N : Nat) (a1 : Int) (M : jMem)  : ∀ o, x_dry N a1 M = some o → jCt l g jTX yX11_dry cX11_dry 2 (some .int) 0 15 [(2, 0), (0, a1)] M o := by
  refine jMet (own := RX11) (em := id) (L := [(0, 2, 0), (1, 0, a1)]) (by decide +kernel) rfl (Nat.le_of_ble_eq_true rfl) rfl (fun K hR => ?_)
  unfold x_dry
  refine z_aload_n (pc := 0) hR 0 dX11_dry_0 rfl rfl ?_
  refine z_iload_n (pc := 1) hR 1 dX11_dry_1 rfl rfl ?_
  refine z_callvp (pc := 2) hR (As := [(0, a1)]) (st := []) jm_X11_isWell jl_RX11_144 kxo_0 (by decide) rfl (by decide) (c_x_isWell N a1 M) rfl (by decide) (by decide) rfl (Nat.le_of_ble_eq_true rfl) dX11_dry_2 (fun r1 => ?_)
  refine z_ifeq (pc := 5) (tgt := 27) hR dX11_dry_5 (by decide) ?_ ?_
  · refine z_iconst (pc := 27) hR dX11_dry_27 rfl ?_
    exact z_ireturn (pc := 28) hR rfl rfl dX11_dry_28 rfl
  · refine z_aload_n (pc := 8) hR 0 dX11_dry_8 rfl rfl ?_
    refine z_getr (pc := 9) hR (c0 := 157) (r := 157) jf_RX11_68 kxo_0 (by decide) rfl rfl dX11_dry_9 ?_
    refine z_aload_n (pc := 12) hR 0 dX11_dry_12 rfl rfl ?_
    refine z_getr (pc := 13) hR (c0 := 14) (r := 14) jf_RX11_43 kxo_0 (by decide) rfl rfl dX11_dry_13 ?_
    refine z_aload_n (pc := 16) hR 0 dX11_dry_16 rfl rfl ?_
    refine z_callvp (pc := 17) hR (As := []) (st := [(2, 14), (2, 157)]) jm_X11_ruleInForce jl_RX11_215 kxo_0 (by decide) rfl (by decide) (c_x_ruleInForce N M) rfl (by decide) (by decide) rfl (Nat.le_of_ble_eq_true rfl) dX11_dry_17 (fun r2 => ?_)
    refine z_chk (fun hc3 => ?_)
    refine z_iload_n (pc := 20) hR 1 dX11_dry_20 rfl rfl ?_
    refine z_callv1 (pc := 21) hR (As := [(2, 14), (2, r2), (0, a1)]) (st := []) jm_X1_yearDug jl_RX11_278 kxo_157 (by decide) rfl (by decide) (c_Fo_yearDug N r2 a1 M (jnb_ok hc3)) rfl (by decide) (by decide) rfl (Nat.le_of_ble_eq_true rfl) dX11_dry_21 (fun r4 M5 => ?_)
    refine z_goto (pc := 24) (tgt := 28) hR dX11_dry_24 (by decide) ?_
    exact z_ireturn (pc := 28) hR rfl rfl dX11_dry_28 rfl
theorem dX1_yearAllAreHome_0 : decode cX1_yearAllAreHome 0 = .ok (.aload_n 0, 1) := by decide +kernel
theorem dX1_yearAllAreHome_1 : decode cX1_yearAllAreHome 1 = .ok (.getfield 21, 3) := by decide +kernel
theorem dX1_yearAllAreHome_4 : decode cX1_yearAllAreHome 4 = .ok (.aload_n 1, 1) := by decide +kernel
theorem dX1_yearAllAreHome_5 : decode cX1_yearAllAreHome 5 = .ok (.getfield 45, 3) := by decide +kernel
theorem dX1_yearAllAreHome_8 : decode cX1_yearAllAreHome 8 = .ok (.invokevirtual 50, 3) := by decide +kernel
theorem dX1_yearAllAreHome_11 : decode cX1_yearAllAreHome 11 = .ok (.iconst 0, 1) := by decide +kernel
theorem dX1_yearAllAreHome_12 : decode cX1_yearAllAreHome 12 = .ok (.istore_n 3, 1) := by decide +kernel
theorem dX1_yearAllAreHome_13 : decode cX1_yearAllAreHome 13 = .ok (.iload_n 3, 1) := by decide +kernel
theorem dX1_yearAllAreHome_14 : decode cX1_yearAllAreHome 14 = .ok (.sipush 200, 3) := by decide +kernel
theorem dX1_yearAllAreHome_17 : decode cX1_yearAllAreHome 17 = .ok (.if_icmp .ge 46, 3) := by decide +kernel
theorem dX1_yearAllAreHome_20 : decode cX1_yearAllAreHome 20 = .ok (.aload_n 0, 1) := by decide +kernel
theorem dX1_yearAllAreHome_21 : decode cX1_yearAllAreHome 21 = .ok (.aload_n 1, 1) := by decide +kernel
theorem dX1_yearAllAreHome_22 : decode cX1_yearAllAreHome 22 = .ok (.getfield 54, 3) := by decide +kernel
theorem dX1_yearAllAreHome_25 : decode cX1_yearAllAreHome 25 = .ok (.aload_n 2, 1) := by decide +kernel
theorem dX1_yearAllAreHome_26 : decode cX1_yearAllAreHome 26 = .ok (.iconst 1, 1) := by decide +kernel
theorem dX1_yearAllAreHome_27 : decode cX1_yearAllAreHome 27 = .ok (.invokevirtual 58, 3) := by decide +kernel
theorem dX1_yearAllAreHome_30 : decode cX1_yearAllAreHome 30 = .ok (.aload_n 0, 1) := by decide +kernel
theorem dX1_yearAllAreHome_31 : decode cX1_yearAllAreHome 31 = .ok (.getfield 21, 3) := by decide +kernel
theorem dX1_yearAllAreHome_34 : decode cX1_yearAllAreHome 34 = .ok (.invokevirtual 69, 3) := by decide +kernel
theorem dX1_yearAllAreHome_37 : decode cX1_yearAllAreHome 37 = .ok (.aload_n 0, 1) := by decide +kernel
theorem dX1_yearAllAreHome_38 : decode cX1_yearAllAreHome 38 = .ok (.getfield 21, 3) := by decide +kernel
theorem dX1_yearAllAreHome_41 : decode cX1_yearAllAreHome 41 = .ok (.getfield 73, 3) := by decide +kernel
theorem dX1_yearAllAreHome_44 : decode cX1_yearAllAreHome 44 = .ok (.if_icmp .ne 13, 3) := by decide +kernel
theorem dX1_yearAllAreHome_47 : decode cX1_yearAllAreHome 47 = .ok (.aload_n 0, 1) := by decide +kernel
theorem dX1_yearAllAreHome_48 : decode cX1_yearAllAreHome 48 = .ok (.getfield 21, 3) := by decide +kernel
theorem dX1_yearAllAreHome_51 : decode cX1_yearAllAreHome 51 = .ok (.getfield 66, 3) := by decide +kernel
theorem dX1_yearAllAreHome_54 : decode cX1_yearAllAreHome 54 = .ok (.iconst 1, 1) := by decide +kernel
theorem dX1_yearAllAreHome_55 : decode cX1_yearAllAreHome 55 = .ok (.isub, 1) := by decide +kernel
theorem dX1_yearAllAreHome_56 : decode cX1_yearAllAreHome 56 = .ok (.ireturn, 1) := by decide +kernel
theorem dX1_yearAllAreHome_57 : decode cX1_yearAllAreHome 57 = .ok (.iinc 3 1, 3) := by decide +kernel
theorem dX1_yearAllAreHome_60 : decode cX1_yearAllAreHome 60 = .ok (.goto (-47), 3) := by decide +kernel
theorem dX1_yearAllAreHome_63 : decode cX1_yearAllAreHome 63 = .ok (.bipush (-2), 2) := by decide +kernel
theorem dX1_yearAllAreHome_65 : decode cX1_yearAllAreHome 65 = .ok (.ireturn, 1) := by decide +kernel
def Fo_yearAllAreHome_L13 (N : Nat) (a2 : Int) (h13 : (Int × jMem) → Option (Int × jMem)) : Int × jMem → Option (Int × jMem)
  | (x2, M3) => (if x2 < 200 then jbv (Fo_goOn N a2 1 M3) fun M4 => (St_homes N 161 M4).bind fun r5 => (if r5 = (M4 161 0) then some ((w32 (((M4 161 1)) - 1)), M4) else h13 ((w32 (x2 + 1)), M4)) else some ((-2), M3))
def Fo_yearAllAreHome (N : Nat) (a2 : Int) (M : jMem) : Option (Int × jMem) := jbv (St_copyFrom N 161 21 M) fun M1 => jfix N (Fo_yearAllAreHome_L13 N a2) (0, M1)
theorem c_Fo_yearAllAreHome {l : Launch} {g : jG} (N : Nat) (a2 : Int) (M : jMem) (ha2 : a2 < 0 ∨ jk jTX a2 5) : ∀ o, Fo_yearAllAreHome N a2 M = some o → jCt l g jTX yX1_yearAllAreHome cX1_yearAllAreHome 4 (some .int) 0 13 [(2, 157), (2, 14), (2, a2)] M o := by
  refine jMet (own := RX1) (em := id) (L := [(0, 2, 157), (1, 2, 14), (2, 2, a2)]) (by decide +kernel) rfl (Nat.le_of_ble_eq_true rfl) rfl (fun K hR => ?_)
  unfold Fo_yearAllAreHome
  refine z_aload_n (pc := 0) hR 0 dX1_yearAllAreHome_0 rfl rfl ?_
  refine z_getr (pc := 1) hR (c0 := 4) (r := 161) jf_RX1_21 kxo_157 (by decide) rfl rfl dX1_yearAllAreHome_1 ?_
  refine z_aload_n (pc := 4) hR 1 dX1_yearAllAreHome_4 rfl rfl ?_
  refine z_getr (pc := 5) hR (c0 := 7) (r := 21) jf_RX1_45 kxo_14 (by decide) rfl rfl dX1_yearAllAreHome_5 ?_
  refine z_callv0 (pc := 8) (rk' := 3) hR (As := [(2, 21)]) (st := []) jm_X7_copyFrom jl_RX1_50 kxo_161 (by decide) rfl (c_St_copyFrom N 161 21 M kxo_161 kxo_21) rfl (by decide) (by decide) rfl (Nat.le_of_ble_eq_true rfl) dX1_yearAllAreHome_8 (fun M1 => ?_)
  refine z_iconst (pc := 11) hR dX1_yearAllAreHome_11 rfl ?_
  refine z_istore_n (pc := 12) hR (lv' := [(3, 0, 0), (0, 2, 157), (1, 2, 14), (2, 2, a2)]) dX1_yearAllAreHome_12 rfl (by decide) rfl ?_
  refine z_pick (pc := 13) (lv' := [(0, 2, 157), (1, 2, 14), (2, 2, a2), (3, 0, 0)]) hR [1, 2, 3, 0] rfl ?_
  refine z_fix (σ := Int × jMem) (lv := fun s => [(0, 2, 157), (1, 2, 14), (2, 2, a2), (3, 0, s.1)]) (st := fun _ => []) (M := fun s => s.2) (fun h13 hh13 => ?_) N (0, M1)
  rintro ⟨x2, M3⟩
  show jZ K id 13 [(0, 2, 157), (1, 2, 14), (2, 2, a2), (3, 0, x2)] [] M3 _
  unfold Fo_yearAllAreHome_L13
  refine z_iload_n (pc := 13) hR 3 dX1_yearAllAreHome_13 rfl rfl ?_
  refine z_sipush (pc := 14) hR dX1_yearAllAreHome_14 rfl ?_
  refine z_icmpge (pc := 17) (tgt := 63) hR dX1_yearAllAreHome_17 (by decide) ?_ ?_
  · refine z_bipush (pc := 63) hR dX1_yearAllAreHome_63 rfl ?_
    exact z_ireturn (pc := 65) hR rfl rfl dX1_yearAllAreHome_65 rfl
  · refine z_aload_n (pc := 20) hR 0 dX1_yearAllAreHome_20 rfl rfl ?_
    refine z_aload_n (pc := 21) hR 1 dX1_yearAllAreHome_21 rfl rfl ?_
    refine z_getr (pc := 22) hR (c0 := 1) (r := 15) jf_RX1_54 kxo_14 (by decide) rfl rfl dX1_yearAllAreHome_22 ?_
    refine z_aload_n (pc := 25) hR 2 dX1_yearAllAreHome_25 rfl rfl ?_
    refine z_iconst (pc := 26) hR dX1_yearAllAreHome_26 rfl ?_
    refine z_callv0 (pc := 27) (rk' := 3) hR (As := [(2, 15), (2, a2), (0, 1)]) (st := []) jm_X1_goOn jl_RX1_58 kxo_157 (by decide) rfl (c_Fo_goOn N a2 1 M3 ha2) rfl (by decide) (by decide) rfl (Nat.le_of_ble_eq_true rfl) dX1_yearAllAreHome_27 (fun M4 => ?_)
    refine z_aload_n (pc := 30) hR 0 dX1_yearAllAreHome_30 rfl rfl ?_
    refine z_getr (pc := 31) hR (c0 := 4) (r := 161) jf_RX1_21 kxo_157 (by decide) rfl rfl dX1_yearAllAreHome_31 ?_
    refine z_callvp (pc := 34) hR (As := []) (st := []) jm_X7_homes jl_RX1_69 kxo_161 (by decide) rfl (by decide) (c_St_homes N 161 M4 kxo_161) rfl (by decide) (by decide) rfl (Nat.le_of_ble_eq_true rfl) dX1_yearAllAreHome_34 (fun r5 => ?_)
    refine z_aload_n (pc := 37) hR 0 dX1_yearAllAreHome_37 rfl rfl ?_
    refine z_getr (pc := 38) hR (c0 := 4) (r := 161) jf_RX1_21 kxo_157 (by decide) rfl rfl dX1_yearAllAreHome_38 ?_
    refine z_geti (pc := 41) hR (j := 0) jf_RX1_73 kxo_161 (by decide) rfl rfl dX1_yearAllAreHome_41 ?_
    refine z_icmpne (pc := 44) (tgt := 57) hR dX1_yearAllAreHome_44 (by decide) ?_ ?_
    · refine z_iinc (pc := 57) hR (j := 3) (lv' := [(3, 0, (w32 (x2 + 1))), (0, 2, 157), (1, 2, 14), (2, 2, a2)]) dX1_yearAllAreHome_57 rfl (by decide) rfl ?_
      refine z_goto (pc := 60) (tgt := 13) hR dX1_yearAllAreHome_60 (by decide) ?_
      refine z_pick (pc := 13) (lv' := [(0, 2, 157), (1, 2, 14), (2, 2, a2), (3, 0, (w32 (x2 + 1)))]) hR [1, 2, 3, 0] rfl ?_
      exact hh13 ((w32 (x2 + 1)), M4)
    · refine z_aload_n (pc := 47) hR 0 dX1_yearAllAreHome_47 rfl rfl ?_
      refine z_getr (pc := 48) hR (c0 := 4) (r := 161) jf_RX1_21 kxo_157 (by decide) rfl rfl dX1_yearAllAreHome_48 ?_
      refine z_geti (pc := 51) hR (j := 1) jf_RX1_66 kxo_161 (by decide) rfl rfl dX1_yearAllAreHome_51 ?_
      refine z_iconst (pc := 54) hR dX1_yearAllAreHome_54 rfl ?_
      refine z_isub (pc := 55) hR dX1_yearAllAreHome_55 ?_
      exact z_ireturn (pc := 56) hR rfl rfl dX1_yearAllAreHome_56 rfl
theorem dX11_home_0 : decode cX11_home 0 = .ok (.aload_n 0, 1) := by decide +kernel
theorem dX11_home_1 : decode cX11_home 1 = .ok (.invokevirtual 177, 3) := by decide +kernel
theorem dX11_home_4 : decode cX11_home 4 = .ok (.ifCond .eq 21, 3) := by decide +kernel
theorem dX11_home_7 : decode cX11_home 7 = .ok (.aload_n 0, 1) := by decide +kernel
theorem dX11_home_8 : decode cX11_home 8 = .ok (.getfield 68, 3) := by decide +kernel
theorem dX11_home_11 : decode cX11_home 11 = .ok (.aload_n 0, 1) := by decide +kernel
theorem dX11_home_12 : decode cX11_home 12 = .ok (.getfield 43, 3) := by decide +kernel
theorem dX11_home_15 : decode cX11_home 15 = .ok (.aload_n 0, 1) := by decide +kernel
theorem dX11_home_16 : decode cX11_home 16 = .ok (.invokevirtual 215, 3) := by decide +kernel
theorem dX11_home_19 : decode cX11_home 19 = .ok (.invokevirtual 282, 3) := by decide +kernel
theorem dX11_home_22 : decode cX11_home 22 = .ok (.goto 4, 3) := by decide +kernel
theorem dX11_home_25 : decode cX11_home 25 = .ok (.iconst (-1), 1) := by decide +kernel
theorem dX11_home_26 : decode cX11_home 26 = .ok (.ireturn, 1) := by decide +kernel
def x_home (N : Nat) (M : jMem) : Option (Int × jMem) := (x_hasParish N M).bind fun r1 => (if r1 = 0 then some ((-1), M) else (x_ruleInForce N M).bind fun r2 => jchk (jnb jTX r2 5 = true) <| jb1 (Fo_yearAllAreHome N r2 M) fun r4 M5 => some (r4, M5))
theorem c_x_home {l : Launch} {g : jG} (N : Nat) (M : jMem)  : ∀ o, x_home N  M = some o → jCt l g jTX yX11_home cX11_home 1 (some .int) 0 15 [(2, 0)] M o := by
  refine jMet (own := RX11) (em := id) (L := [(0, 2, 0)]) (by decide +kernel) rfl (Nat.le_of_ble_eq_true rfl) rfl (fun K hR => ?_)
  unfold x_home
  refine z_aload_n (pc := 0) hR 0 dX11_home_0 rfl rfl ?_
  refine z_callvp (pc := 1) hR (As := []) (st := []) jm_X11_hasParish jl_RX11_177 kxo_0 (by decide) rfl (by decide) (c_x_hasParish N M) rfl (by decide) (by decide) rfl (Nat.le_of_ble_eq_true rfl) dX11_home_1 (fun r1 => ?_)
  refine z_ifeq (pc := 4) (tgt := 25) hR dX11_home_4 (by decide) ?_ ?_
  · refine z_iconst (pc := 25) hR dX11_home_25 rfl ?_
    exact z_ireturn (pc := 26) hR rfl rfl dX11_home_26 rfl
  · refine z_aload_n (pc := 7) hR 0 dX11_home_7 rfl rfl ?_
    refine z_getr (pc := 8) hR (c0 := 157) (r := 157) jf_RX11_68 kxo_0 (by decide) rfl rfl dX11_home_8 ?_
    refine z_aload_n (pc := 11) hR 0 dX11_home_11 rfl rfl ?_
    refine z_getr (pc := 12) hR (c0 := 14) (r := 14) jf_RX11_43 kxo_0 (by decide) rfl rfl dX11_home_12 ?_
    refine z_aload_n (pc := 15) hR 0 dX11_home_15 rfl rfl ?_
    refine z_callvp (pc := 16) hR (As := []) (st := [(2, 14), (2, 157)]) jm_X11_ruleInForce jl_RX11_215 kxo_0 (by decide) rfl (by decide) (c_x_ruleInForce N M) rfl (by decide) (by decide) rfl (Nat.le_of_ble_eq_true rfl) dX11_home_16 (fun r2 => ?_)
    refine z_chk (fun hc3 => ?_)
    refine z_callv1 (pc := 19) hR (As := [(2, 14), (2, r2)]) (st := []) jm_X1_yearAllAreHome jl_RX11_282 kxo_157 (by decide) rfl (by decide) (c_Fo_yearAllAreHome N r2 M (jnb_ok hc3)) rfl (by decide) (by decide) rfl (Nat.le_of_ble_eq_true rfl) dX11_home_19 (fun r4 M5 => ?_)
    refine z_goto (pc := 22) (tgt := 26) hR dX11_home_22 (by decide) ?_
    exact z_ireturn (pc := 26) hR rfl rfl dX11_home_26 rfl
theorem dX1_bestHeir_0 : decode cX1_bestHeir 0 = .ok (.iconst (-1), 1) := by decide +kernel
theorem dX1_bestHeir_1 : decode cX1_bestHeir 1 = .ok (.istore 4, 2) := by decide +kernel
theorem dX1_bestHeir_3 : decode cX1_bestHeir 3 = .ok (.aload_n 0, 1) := by decide +kernel
theorem dX1_bestHeir_4 : decode cX1_bestHeir 4 = .ok (.iconst (-1), 1) := by decide +kernel
theorem dX1_bestHeir_5 : decode cX1_bestHeir 5 = .ok (.putfield 76, 3) := by decide +kernel
theorem dX1_bestHeir_8 : decode cX1_bestHeir 8 = .ok (.iconst (-1), 1) := by decide +kernel
theorem dX1_bestHeir_9 : decode cX1_bestHeir 9 = .ok (.istore 5, 2) := by decide +kernel
theorem dX1_bestHeir_11 : decode cX1_bestHeir 11 = .ok (.iload 5, 2) := by decide +kernel
theorem dX1_bestHeir_13 : decode cX1_bestHeir 13 = .ok (.aload_n 1, 1) := by decide +kernel
theorem dX1_bestHeir_14 : decode cX1_bestHeir 14 = .ok (.getfield 54, 3) := by decide +kernel
theorem dX1_bestHeir_17 : decode cX1_bestHeir 17 = .ok (.getfield 79, 3) := by decide +kernel
theorem dX1_bestHeir_20 : decode cX1_bestHeir 20 = .ok (.if_icmp .ge 72, 3) := by decide +kernel
theorem dX1_bestHeir_23 : decode cX1_bestHeir 23 = .ok (.aload_n 0, 1) := by decide +kernel
theorem dX1_bestHeir_24 : decode cX1_bestHeir 24 = .ok (.getfield 21, 3) := by decide +kernel
theorem dX1_bestHeir_27 : decode cX1_bestHeir 27 = .ok (.aload_n 1, 1) := by decide +kernel
theorem dX1_bestHeir_28 : decode cX1_bestHeir 28 = .ok (.getfield 45, 3) := by decide +kernel
theorem dX1_bestHeir_31 : decode cX1_bestHeir 31 = .ok (.invokevirtual 50, 3) := by decide +kernel
theorem dX1_bestHeir_34 : decode cX1_bestHeir 34 = .ok (.iload 5, 2) := by decide +kernel
theorem dX1_bestHeir_36 : decode cX1_bestHeir 36 = .ok (.ifCond .lt 12, 3) := by decide +kernel
theorem dX1_bestHeir_39 : decode cX1_bestHeir 39 = .ok (.aload_n 0, 1) := by decide +kernel
theorem dX1_bestHeir_40 : decode cX1_bestHeir 40 = .ok (.getfield 21, 3) := by decide +kernel
theorem dX1_bestHeir_43 : decode cX1_bestHeir 43 = .ok (.iload 5, 2) := by decide +kernel
theorem dX1_bestHeir_45 : decode cX1_bestHeir 45 = .ok (.invokevirtual 80, 3) := by decide +kernel
theorem dX1_bestHeir_48 : decode cX1_bestHeir 48 = .ok (.aload_n 0, 1) := by decide +kernel
theorem dX1_bestHeir_49 : decode cX1_bestHeir 49 = .ok (.aload_n 1, 1) := by decide +kernel
theorem dX1_bestHeir_50 : decode cX1_bestHeir 50 = .ok (.getfield 54, 3) := by decide +kernel
theorem dX1_bestHeir_53 : decode cX1_bestHeir 53 = .ok (.aload_n 2, 1) := by decide +kernel
theorem dX1_bestHeir_54 : decode cX1_bestHeir 54 = .ok (.iload_n 3, 1) := by decide +kernel
theorem dX1_bestHeir_55 : decode cX1_bestHeir 55 = .ok (.invokevirtual 58, 3) := by decide +kernel
theorem dX1_bestHeir_58 : decode cX1_bestHeir 58 = .ok (.aload_n 0, 1) := by decide +kernel
theorem dX1_bestHeir_59 : decode cX1_bestHeir 59 = .ok (.getfield 21, 3) := by decide +kernel
theorem dX1_bestHeir_62 : decode cX1_bestHeir 62 = .ok (.invokevirtual 69, 3) := by decide +kernel
theorem dX1_bestHeir_65 : decode cX1_bestHeir 65 = .ok (.istore 6, 2) := by decide +kernel
theorem dX1_bestHeir_67 : decode cX1_bestHeir 67 = .ok (.iload 6, 2) := by decide +kernel
theorem dX1_bestHeir_69 : decode cX1_bestHeir 69 = .ok (.aload_n 0, 1) := by decide +kernel
theorem dX1_bestHeir_70 : decode cX1_bestHeir 70 = .ok (.getfield 76, 3) := by decide +kernel
theorem dX1_bestHeir_73 : decode cX1_bestHeir 73 = .ok (.if_icmp .le 13, 3) := by decide +kernel
theorem dX1_bestHeir_76 : decode cX1_bestHeir 76 = .ok (.aload_n 0, 1) := by decide +kernel
theorem dX1_bestHeir_77 : decode cX1_bestHeir 77 = .ok (.iload 6, 2) := by decide +kernel
theorem dX1_bestHeir_79 : decode cX1_bestHeir 79 = .ok (.putfield 76, 3) := by decide +kernel
theorem dX1_bestHeir_82 : decode cX1_bestHeir 82 = .ok (.iload 5, 2) := by decide +kernel
theorem dX1_bestHeir_84 : decode cX1_bestHeir 84 = .ok (.istore 4, 2) := by decide +kernel
theorem dX1_bestHeir_86 : decode cX1_bestHeir 86 = .ok (.iinc 5 1, 3) := by decide +kernel
theorem dX1_bestHeir_89 : decode cX1_bestHeir 89 = .ok (.goto (-78), 3) := by decide +kernel
theorem dX1_bestHeir_92 : decode cX1_bestHeir 92 = .ok (.iload 4, 2) := by decide +kernel
theorem dX1_bestHeir_94 : decode cX1_bestHeir 94 = .ok (.ireturn, 1) := by decide +kernel
def Fo_bestHeir_L11 (N : Nat) (a2 : Int) (a3 : Int) (h11 : (Int × Int × jMem) → Option (Int × jMem)) : Int × Int × jMem → Option (Int × jMem)
  | (x2, x3, M4) => (if x3 < (M4 15 0) then jbv (St_copyFrom N 161 21 M4) fun M5 => jlt (fun (M6 : jMem) => jbv (Fo_goOn N a2 a3 M6) fun M7 => (St_homes N 161 M7).bind fun r8 => (if (M7 157 6) < r8 then jlt (up M7 157 6 r8) fun M9 => h11 (x3, (w32 (x3 + 1)), M9) else h11 (x2, (w32 (x3 + 1)), M7))) fun j48 => (if x3 < 0 then j48 M5 else jbv (St_addHeir N 161 x3 M5) fun M10 => j48 M10) else some (x2, M4))
def Fo_bestHeir (N : Nat) (a2 a3 : Int) (M : jMem) : Option (Int × jMem) := jlt (up M 157 6 ((-1))) fun M1 => jfix N (Fo_bestHeir_L11 N a2 a3) ((-1), (-1), M1)
theorem c_Fo_bestHeir {l : Launch} {g : jG} (N : Nat) (a2 a3 : Int) (M : jMem) (ha2 : a2 < 0 ∨ jk jTX a2 5) : ∀ o, Fo_bestHeir N a2 a3 M = some o → jCt l g jTX yX1_bestHeir cX1_bestHeir 7 (some .int) 0 13 [(2, 157), (2, 14), (2, a2), (0, a3)] M o := by
  refine jMet (own := RX1) (em := id) (L := [(0, 2, 157), (1, 2, 14), (2, 2, a2), (3, 0, a3)]) (by decide +kernel) rfl (Nat.le_of_ble_eq_true rfl) rfl (fun K hR => ?_)
  unfold Fo_bestHeir
  refine z_iconst (pc := 0) hR dX1_bestHeir_0 rfl ?_
  refine z_istore (pc := 1) hR (lv' := [(4, 0, (-1)), (0, 2, 157), (1, 2, 14), (2, 2, a2), (3, 0, a3)]) dX1_bestHeir_1 (by decide) rfl ?_
  refine z_aload_n (pc := 3) hR 1 dX1_bestHeir_3 rfl rfl ?_
  refine z_iconst (pc := 4) hR dX1_bestHeir_4 rfl ?_
  refine z_puti (pc := 5) hR (j := 6) jp_RX1_76 kxo_157 (by decide) rfl rfl rfl rfl dX1_bestHeir_5 (fun M1 => ?_)
  refine z_iconst (pc := 8) hR dX1_bestHeir_8 rfl ?_
  refine z_istore (pc := 9) hR (lv' := [(5, 0, (-1)), (4, 0, (-1)), (0, 2, 157), (1, 2, 14), (2, 2, a2), (3, 0, a3)]) dX1_bestHeir_9 (by decide) rfl ?_
  refine z_pick (pc := 11) (lv' := [(0, 2, 157), (1, 2, 14), (2, 2, a2), (3, 0, a3), (4, 0, (-1)), (5, 0, (-1))]) hR [2, 3, 4, 5, 1, 0] rfl ?_
  refine z_fix (σ := Int × Int × jMem) (lv := fun s => [(0, 2, 157), (1, 2, 14), (2, 2, a2), (3, 0, a3), (4, 0, s.1), (5, 0, s.2.1)]) (st := fun _ => []) (M := fun s => s.2.2) (fun h11 hh11 => ?_) N ((-1), (-1), M1)
  rintro ⟨x2, x3, M4⟩
  show jZ K id 11 [(0, 2, 157), (1, 2, 14), (2, 2, a2), (3, 0, a3), (4, 0, x2), (5, 0, x3)] [] M4 _
  unfold Fo_bestHeir_L11
  refine z_iload (pc := 11) hR 5 dX1_bestHeir_11 rfl ?_
  refine z_aload_n (pc := 13) hR 1 dX1_bestHeir_13 rfl rfl ?_
  refine z_getr (pc := 14) hR (c0 := 1) (r := 15) jf_RX1_54 kxo_14 (by decide) rfl rfl dX1_bestHeir_14 ?_
  refine z_geti (pc := 17) hR (j := 0) jf_RX1_79 kxo_15 (by decide) rfl rfl dX1_bestHeir_17 ?_
  refine z_icmpge (pc := 20) (tgt := 92) hR dX1_bestHeir_20 (by decide) ?_ ?_
  · refine z_iload (pc := 92) hR 4 dX1_bestHeir_92 rfl ?_
    exact z_ireturn (pc := 94) hR rfl rfl dX1_bestHeir_94 rfl
  · refine z_aload_n (pc := 23) hR 0 dX1_bestHeir_23 rfl rfl ?_
    refine z_getr (pc := 24) hR (c0 := 4) (r := 161) jf_RX1_21 kxo_157 (by decide) rfl rfl dX1_bestHeir_24 ?_
    refine z_aload_n (pc := 27) hR 1 dX1_bestHeir_27 rfl rfl ?_
    refine z_getr (pc := 28) hR (c0 := 7) (r := 21) jf_RX1_45 kxo_14 (by decide) rfl rfl dX1_bestHeir_28 ?_
    refine z_callv0 (pc := 31) (rk' := 3) hR (As := [(2, 21)]) (st := []) jm_X7_copyFrom jl_RX1_50 kxo_161 (by decide) rfl (c_St_copyFrom N 161 21 M4 kxo_161 kxo_21) rfl (by decide) (by decide) rfl (Nat.le_of_ble_eq_true rfl) dX1_bestHeir_31 (fun M5 => ?_)
    refine z_iload (pc := 34) hR 5 dX1_bestHeir_34 rfl ?_
    refine z_join (P := fun j => ∀ (M6 : jMem), jZ K id 48 [(0, 2, 157), (1, 2, 14), (2, 2, a2), (3, 0, a3), (4, 0, x2), (5, 0, x3)] [] M6 (j M6)) (fun M6 => ?_) (fun j48 hj48 => ?_)
    · refine z_aload_n (pc := 48) hR 0 dX1_bestHeir_48 rfl rfl ?_
      refine z_aload_n (pc := 49) hR 1 dX1_bestHeir_49 rfl rfl ?_
      refine z_getr (pc := 50) hR (c0 := 1) (r := 15) jf_RX1_54 kxo_14 (by decide) rfl rfl dX1_bestHeir_50 ?_
      refine z_aload_n (pc := 53) hR 2 dX1_bestHeir_53 rfl rfl ?_
      refine z_iload_n (pc := 54) hR 3 dX1_bestHeir_54 rfl rfl ?_
      refine z_callv0 (pc := 55) (rk' := 3) hR (As := [(2, 15), (2, a2), (0, a3)]) (st := []) jm_X1_goOn jl_RX1_58 kxo_157 (by decide) rfl (c_Fo_goOn N a2 a3 M6 ha2) rfl (by decide) (by decide) rfl (Nat.le_of_ble_eq_true rfl) dX1_bestHeir_55 (fun M7 => ?_)
      refine z_aload_n (pc := 58) hR 0 dX1_bestHeir_58 rfl rfl ?_
      refine z_getr (pc := 59) hR (c0 := 4) (r := 161) jf_RX1_21 kxo_157 (by decide) rfl rfl dX1_bestHeir_59 ?_
      refine z_callvp (pc := 62) hR (As := []) (st := []) jm_X7_homes jl_RX1_69 kxo_161 (by decide) rfl (by decide) (c_St_homes N 161 M7 kxo_161) rfl (by decide) (by decide) rfl (Nat.le_of_ble_eq_true rfl) dX1_bestHeir_62 (fun r8 => ?_)
      refine z_istore (pc := 65) hR (lv' := [(6, 0, r8), (0, 2, 157), (1, 2, 14), (2, 2, a2), (3, 0, a3), (4, 0, x2), (5, 0, x3)]) dX1_bestHeir_65 (by decide) rfl ?_
      refine z_iload (pc := 67) hR 0 dX1_bestHeir_67 rfl ?_
      refine z_aload_n (pc := 69) hR 1 dX1_bestHeir_69 rfl rfl ?_
      refine z_geti (pc := 70) hR (j := 6) jf_RX1_76 kxo_157 (by decide) rfl rfl dX1_bestHeir_70 ?_
      refine z_icmple (pc := 73) (tgt := 86) hR dX1_bestHeir_73 (by decide) ?_ ?_
      · refine z_iinc (pc := 86) hR (j := 6) (lv' := [(5, 0, (w32 (x3 + 1))), (6, 0, r8), (0, 2, 157), (1, 2, 14), (2, 2, a2), (3, 0, a3), (4, 0, x2)]) dX1_bestHeir_86 rfl (by decide) rfl ?_
        refine z_goto (pc := 89) (tgt := 11) hR dX1_bestHeir_89 (by decide) ?_
        refine z_pick (pc := 11) (lv' := [(0, 2, 157), (1, 2, 14), (2, 2, a2), (3, 0, a3), (4, 0, x2), (5, 0, (w32 (x3 + 1)))]) hR [2, 3, 4, 5, 6, 0] rfl ?_
        exact hh11 (x2, (w32 (x3 + 1)), M7)
      · refine z_aload_n (pc := 76) hR 1 dX1_bestHeir_76 rfl rfl ?_
        refine z_iload (pc := 77) hR 0 dX1_bestHeir_77 rfl ?_
        refine z_puti (pc := 79) hR (j := 6) jp_RX1_76 kxo_157 (by decide) rfl rfl rfl rfl dX1_bestHeir_79 (fun M9 => ?_)
        refine z_iload (pc := 82) hR 6 dX1_bestHeir_82 rfl ?_
        refine z_istore (pc := 84) hR (lv' := [(4, 0, x3), (6, 0, r8), (0, 2, 157), (1, 2, 14), (2, 2, a2), (3, 0, a3), (5, 0, x3)]) dX1_bestHeir_84 (by decide) rfl ?_
        refine z_iinc (pc := 86) hR (j := 6) (lv' := [(5, 0, (w32 (x3 + 1))), (4, 0, x3), (6, 0, r8), (0, 2, 157), (1, 2, 14), (2, 2, a2), (3, 0, a3)]) dX1_bestHeir_86 rfl (by decide) rfl ?_
        refine z_goto (pc := 89) (tgt := 11) hR dX1_bestHeir_89 (by decide) ?_
        refine z_pick (pc := 11) (lv' := [(0, 2, 157), (1, 2, 14), (2, 2, a2), (3, 0, a3), (4, 0, x3), (5, 0, (w32 (x3 + 1)))]) hR [3, 4, 5, 6, 1, 0] rfl ?_
        exact hh11 (x3, (w32 (x3 + 1)), M9)
    refine z_iflt (pc := 36) (tgt := 48) hR dX1_bestHeir_36 (by decide) ?_ ?_
    · exact hj48 M5
    · refine z_aload_n (pc := 39) hR 0 dX1_bestHeir_39 rfl rfl ?_
      refine z_getr (pc := 40) hR (c0 := 4) (r := 161) jf_RX1_21 kxo_157 (by decide) rfl rfl dX1_bestHeir_40 ?_
      refine z_iload (pc := 43) hR 5 dX1_bestHeir_43 rfl ?_
      refine z_callv0 (pc := 45) (rk' := 3) hR (As := [(0, x3)]) (st := []) jm_X7_addHeir jl_RX1_80 kxo_161 (by decide) rfl (c_St_addHeir N 161 x3 M5 kxo_161) rfl (by decide) (by decide) rfl (Nat.le_of_ble_eq_true rfl) dX1_bestHeir_45 (fun M10 => ?_)
      exact hj48 M10
theorem dX11_heir_0 : decode cX11_heir 0 = .ok (.iload_n 1, 1) := by decide +kernel
theorem dX11_heir_1 : decode cX11_heir 1 = .ok (.iconst 1, 1) := by decide +kernel
theorem dX11_heir_2 : decode cX11_heir 2 = .ok (.bipush 40, 2) := by decide +kernel
theorem dX11_heir_4 : decode cX11_heir 4 = .ok (.invokestatic 137, 3) := by decide +kernel
theorem dX11_heir_7 : decode cX11_heir 7 = .ok (.ifCond .eq 19, 3) := by decide +kernel
theorem dX11_heir_10 : decode cX11_heir 10 = .ok (.iload_n 2, 1) := by decide +kernel
theorem dX11_heir_11 : decode cX11_heir 11 = .ok (.iconst 0, 1) := by decide +kernel
theorem dX11_heir_12 : decode cX11_heir 12 = .ok (.iconst 1, 1) := by decide +kernel
theorem dX11_heir_13 : decode cX11_heir 13 = .ok (.invokestatic 137, 3) := by decide +kernel
theorem dX11_heir_16 : decode cX11_heir 16 = .ok (.ifCond .eq 10, 3) := by decide +kernel
theorem dX11_heir_19 : decode cX11_heir 19 = .ok (.aload_n 0, 1) := by decide +kernel
theorem dX11_heir_20 : decode cX11_heir 20 = .ok (.invokevirtual 177, 3) := by decide +kernel
theorem dX11_heir_23 : decode cX11_heir 23 = .ok (.ifCond .ne 6, 3) := by decide +kernel
theorem dX11_heir_26 : decode cX11_heir 26 = .ok (.bipush (-2), 2) := by decide +kernel
theorem dX11_heir_28 : decode cX11_heir 28 = .ok (.ireturn, 1) := by decide +kernel
theorem dX11_heir_29 : decode cX11_heir 29 = .ok (.aload_n 0, 1) := by decide +kernel
theorem dX11_heir_30 : decode cX11_heir 30 = .ok (.getfield 68, 3) := by decide +kernel
theorem dX11_heir_33 : decode cX11_heir 33 = .ok (.aload_n 0, 1) := by decide +kernel
theorem dX11_heir_34 : decode cX11_heir 34 = .ok (.getfield 43, 3) := by decide +kernel
theorem dX11_heir_37 : decode cX11_heir 37 = .ok (.aload_n 0, 1) := by decide +kernel
theorem dX11_heir_38 : decode cX11_heir 38 = .ok (.invokevirtual 215, 3) := by decide +kernel
theorem dX11_heir_41 : decode cX11_heir 41 = .ok (.iload_n 1, 1) := by decide +kernel
theorem dX11_heir_42 : decode cX11_heir 42 = .ok (.invokevirtual 286, 3) := by decide +kernel
theorem dX11_heir_45 : decode cX11_heir 45 = .ok (.istore_n 3, 1) := by decide +kernel
theorem dX11_heir_46 : decode cX11_heir 46 = .ok (.iload_n 2, 1) := by decide +kernel
theorem dX11_heir_47 : decode cX11_heir 47 = .ok (.ifCond .ne 7, 3) := by decide +kernel
theorem dX11_heir_50 : decode cX11_heir 50 = .ok (.iload_n 3, 1) := by decide +kernel
theorem dX11_heir_51 : decode cX11_heir 51 = .ok (.goto 10, 3) := by decide +kernel
theorem dX11_heir_54 : decode cX11_heir 54 = .ok (.aload_n 0, 1) := by decide +kernel
theorem dX11_heir_55 : decode cX11_heir 55 = .ok (.getfield 68, 3) := by decide +kernel
theorem dX11_heir_58 : decode cX11_heir 58 = .ok (.getfield 289, 3) := by decide +kernel
theorem dX11_heir_61 : decode cX11_heir 61 = .ok (.ireturn, 1) := by decide +kernel
def x_heir (N : Nat) (a1 a2 : Int) (M : jMem) : Option (Int × jMem) := (x_isWithin N a1 1 40 M).bind fun r1 => (if r1 = 0 then some ((-2), M) else (x_isWithin N a2 0 1 M).bind fun r2 => (if r2 = 0 then some ((-2), M) else (x_hasParish N M).bind fun r3 => (if r3 = 0 then some ((-2), M) else (x_ruleInForce N M).bind fun r4 => jchk (jnb jTX r4 5 = true) <| jb1 (Fo_bestHeir N r4 a1 M) fun r6 M7 => (if a2 = 0 then some (r6, M7) else some ((M7 157 6), M7)))))
theorem c_x_heir {l : Launch} {g : jG} (N : Nat) (a1 a2 : Int) (M : jMem)  : ∀ o, x_heir N a1 a2 M = some o → jCt l g jTX yX11_heir cX11_heir 4 (some .int) 0 15 [(2, 0), (0, a1), (0, a2)] M o := by
  refine jMet (own := RX11) (em := id) (L := [(0, 2, 0), (1, 0, a1), (2, 0, a2)]) (by decide +kernel) rfl (Nat.le_of_ble_eq_true rfl) rfl (fun K hR => ?_)
  unfold x_heir
  refine z_iload_n (pc := 0) hR 1 dX11_heir_0 rfl rfl ?_
  refine z_iconst (pc := 1) hR dX11_heir_1 rfl ?_
  refine z_bipush (pc := 2) hR dX11_heir_2 rfl ?_
  refine z_callsp (pc := 4) hR (As := [(0, a1), (0, 1), (0, 40)]) (st := []) jm_X11_isWithin jl_RX11_137 (by decide) (c_x_isWithin N a1 1 40 M) rfl (by decide) (by decide) rfl (Nat.le_of_ble_eq_true rfl) dX11_heir_4 (fun r1 => ?_)
  refine z_ifeq (pc := 7) (tgt := 26) hR dX11_heir_7 (by decide) ?_ ?_
  · refine z_bipush (pc := 26) hR dX11_heir_26 rfl ?_
    exact z_ireturn (pc := 28) hR rfl rfl dX11_heir_28 rfl
  · refine z_iload_n (pc := 10) hR 2 dX11_heir_10 rfl rfl ?_
    refine z_iconst (pc := 11) hR dX11_heir_11 rfl ?_
    refine z_iconst (pc := 12) hR dX11_heir_12 rfl ?_
    refine z_callsp (pc := 13) hR (As := [(0, a2), (0, 0), (0, 1)]) (st := []) jm_X11_isWithin jl_RX11_137 (by decide) (c_x_isWithin N a2 0 1 M) rfl (by decide) (by decide) rfl (Nat.le_of_ble_eq_true rfl) dX11_heir_13 (fun r2 => ?_)
    refine z_ifeq (pc := 16) (tgt := 26) hR dX11_heir_16 (by decide) ?_ ?_
    · refine z_bipush (pc := 26) hR dX11_heir_26 rfl ?_
      exact z_ireturn (pc := 28) hR rfl rfl dX11_heir_28 rfl
    · refine z_aload_n (pc := 19) hR 0 dX11_heir_19 rfl rfl ?_
      refine z_callvp (pc := 20) hR (As := []) (st := []) jm_X11_hasParish jl_RX11_177 kxo_0 (by decide) rfl (by decide) (c_x_hasParish N M) rfl (by decide) (by decide) rfl (Nat.le_of_ble_eq_true rfl) dX11_heir_20 (fun r3 => ?_)
      refine z_ifne (pc := 23) (tgt := 29) hR dX11_heir_23 (by decide) ?_ ?_
      · refine z_aload_n (pc := 29) hR 0 dX11_heir_29 rfl rfl ?_
        refine z_getr (pc := 30) hR (c0 := 157) (r := 157) jf_RX11_68 kxo_0 (by decide) rfl rfl dX11_heir_30 ?_
        refine z_aload_n (pc := 33) hR 0 dX11_heir_33 rfl rfl ?_
        refine z_getr (pc := 34) hR (c0 := 14) (r := 14) jf_RX11_43 kxo_0 (by decide) rfl rfl dX11_heir_34 ?_
        refine z_aload_n (pc := 37) hR 0 dX11_heir_37 rfl rfl ?_
        refine z_callvp (pc := 38) hR (As := []) (st := [(2, 14), (2, 157)]) jm_X11_ruleInForce jl_RX11_215 kxo_0 (by decide) rfl (by decide) (c_x_ruleInForce N M) rfl (by decide) (by decide) rfl (Nat.le_of_ble_eq_true rfl) dX11_heir_38 (fun r4 => ?_)
        refine z_chk (fun hc5 => ?_)
        refine z_iload_n (pc := 41) hR 1 dX11_heir_41 rfl rfl ?_
        refine z_callv1 (pc := 42) hR (As := [(2, 14), (2, r4), (0, a1)]) (st := []) jm_X1_bestHeir jl_RX11_286 kxo_157 (by decide) rfl (by decide) (c_Fo_bestHeir N r4 a1 M (jnb_ok hc5)) rfl (by decide) (by decide) rfl (Nat.le_of_ble_eq_true rfl) dX11_heir_42 (fun r6 M7 => ?_)
        refine z_istore_n (pc := 45) hR (lv' := [(3, 0, r6), (0, 2, 0), (1, 0, a1), (2, 0, a2)]) dX11_heir_45 rfl (by decide) rfl ?_
        refine z_iload_n (pc := 46) hR 3 dX11_heir_46 rfl rfl ?_
        refine z_ifne (pc := 47) (tgt := 54) hR dX11_heir_47 (by decide) ?_ ?_
        · refine z_aload_n (pc := 54) hR 1 dX11_heir_54 rfl rfl ?_
          refine z_getr (pc := 55) hR (c0 := 157) (r := 157) jf_RX11_68 kxo_0 (by decide) rfl rfl dX11_heir_55 ?_
          refine z_geti (pc := 58) hR (j := 6) jf_RX11_289 kxo_157 (by decide) rfl rfl dX11_heir_58 ?_
          exact z_ireturn (pc := 61) hR rfl rfl dX11_heir_61 rfl
        · refine z_iload_n (pc := 50) hR 0 dX11_heir_50 rfl rfl ?_
          refine z_goto (pc := 51) (tgt := 61) hR dX11_heir_51 (by decide) ?_
          exact z_ireturn (pc := 61) hR rfl rfl dX11_heir_61 rfl
      · refine z_bipush (pc := 26) hR dX11_heir_26 rfl ?_
        exact z_ireturn (pc := 28) hR rfl rfl dX11_heir_28 rfl
theorem dX1_gainOf_0 : decode cX1_gainOf 0 = .ok (.aload_n 0, 1) := by decide +kernel
theorem dX1_gainOf_1 : decode cX1_gainOf 1 = .ok (.getfield 21, 3) := by decide +kernel
theorem dX1_gainOf_4 : decode cX1_gainOf 4 = .ok (.getfield 104, 3) := by decide +kernel
theorem dX1_gainOf_7 : decode cX1_gainOf 7 = .ok (.aload_n 0, 1) := by decide +kernel
theorem dX1_gainOf_8 : decode cX1_gainOf 8 = .ok (.getfield 21, 3) := by decide +kernel
theorem dX1_gainOf_11 : decode cX1_gainOf 11 = .ok (.getfield 124, 3) := by decide +kernel
theorem dX1_gainOf_14 : decode cX1_gainOf 14 = .ok (.iload_n 1, 1) := by decide +kernel
theorem dX1_gainOf_15 : decode cX1_gainOf 15 = .ok (.iaload, 1) := by decide +kernel
theorem dX1_gainOf_16 : decode cX1_gainOf 16 = .ok (.iaload, 1) := by decide +kernel
theorem dX1_gainOf_17 : decode cX1_gainOf 17 = .ok (.ifCond .ne 7, 3) := by decide +kernel
theorem dX1_gainOf_20 : decode cX1_gainOf 20 = .ok (.iconst 1, 1) := by decide +kernel
theorem dX1_gainOf_21 : decode cX1_gainOf 21 = .ok (.goto 4, 3) := by decide +kernel
theorem dX1_gainOf_24 : decode cX1_gainOf 24 = .ok (.iconst 0, 1) := by decide +kernel
theorem dX1_gainOf_25 : decode cX1_gainOf 25 = .ok (.istore_n 2, 1) := by decide +kernel
theorem dX1_gainOf_26 : decode cX1_gainOf 26 = .ok (.iload_n 2, 1) := by decide +kernel
theorem dX1_gainOf_27 : decode cX1_gainOf 27 = .ok (.ifCond .eq 17, 3) := by decide +kernel
theorem dX1_gainOf_30 : decode cX1_gainOf 30 = .ok (.aload_n 0, 1) := by decide +kernel
theorem dX1_gainOf_31 : decode cX1_gainOf 31 = .ok (.getfield 14, 3) := by decide +kernel
theorem dX1_gainOf_34 : decode cX1_gainOf 34 = .ok (.getfield 127, 3) := by decide +kernel
theorem dX1_gainOf_37 : decode cX1_gainOf 37 = .ok (.iload_n 1, 1) := by decide +kernel
theorem dX1_gainOf_38 : decode cX1_gainOf 38 = .ok (.iaload, 1) := by decide +kernel
theorem dX1_gainOf_39 : decode cX1_gainOf 39 = .ok (.iconst 3, 1) := by decide +kernel
theorem dX1_gainOf_40 : decode cX1_gainOf 40 = .ok (.isub, 1) := by decide +kernel
theorem dX1_gainOf_41 : decode cX1_gainOf 41 = .ok (.goto 12, 3) := by decide +kernel
theorem dX1_gainOf_44 : decode cX1_gainOf 44 = .ok (.aload_n 0, 1) := by decide +kernel
theorem dX1_gainOf_45 : decode cX1_gainOf 45 = .ok (.getfield 14, 3) := by decide +kernel
theorem dX1_gainOf_48 : decode cX1_gainOf 48 = .ok (.getfield 127, 3) := by decide +kernel
theorem dX1_gainOf_51 : decode cX1_gainOf 51 = .ok (.iload_n 1, 1) := by decide +kernel
theorem dX1_gainOf_52 : decode cX1_gainOf 52 = .ok (.iaload, 1) := by decide +kernel
theorem dX1_gainOf_53 : decode cX1_gainOf 53 = .ok (.ireturn, 1) := by decide +kernel
def Fo_gainOf (N : Nat) (a1 : Int) (M : jMem) : Option Int := jchk (0 ≤ a1 ∧ a1 < 7) <| jchk (0 ≤ (M 165 a1) ∧ (M 165 a1) < 7) <| jlt (fun (u3 : Int) => (if u3 = 0 then jchk (0 ≤ a1 ∧ a1 < 7) <| some ((M 159 a1)) else jchk (0 ≤ a1 ∧ a1 < 7) <| some ((w32 (((M 159 a1)) - 3))))) fun j25 => (if (M 164 ((M 165 a1))) = 0 then j25 1 else j25 0)
theorem c_Fo_gainOf {l : Launch} {g : jG} (N : Nat) (a1 : Int) (M : jMem)  : ∀ o, Fo_gainOf N a1 M = some o → jCt l g jTX yX1_gainOf cX1_gainOf 3 (some .int) 0 1 [(2, 157), (0, a1)] M (o, M) := by
  refine jMet (own := RX1) (em := (fun r => (r, M))) (L := [(0, 2, 157), (1, 0, a1)]) (by decide +kernel) rfl (Nat.le_of_ble_eq_true rfl) rfl (fun K hR => ?_)
  unfold Fo_gainOf
  refine z_aload_n (pc := 0) hR 0 dX1_gainOf_0 rfl rfl ?_
  refine z_getr (pc := 1) hR (c0 := 4) (r := 161) jf_RX1_21 kxo_157 (by decide) rfl rfl dX1_gainOf_1 ?_
  refine z_getr (pc := 4) hR (c0 := 3) (r := 164) jf_RX1_104 kxo_161 (by decide) rfl rfl dX1_gainOf_4 ?_
  refine z_aload_n (pc := 7) hR 0 dX1_gainOf_7 rfl rfl ?_
  refine z_getr (pc := 8) hR (c0 := 4) (r := 161) jf_RX1_21 kxo_157 (by decide) rfl rfl dX1_gainOf_8 ?_
  refine z_getr (pc := 11) hR (c0 := 4) (r := 165) jf_RX1_124 kxo_161 (by decide) rfl rfl dX1_gainOf_11 ?_
  refine z_iload_n (pc := 14) hR 1 dX1_gainOf_14 rfl rfl ?_
  refine z_chk (fun hc1 => ?_)
  refine z_iald (pc := 15) hR (n := 7) kxa_165 hc1.1 hc1.2 dX1_gainOf_15 ?_
  refine z_chk (fun hc2 => ?_)
  refine z_iald (pc := 16) hR (n := 7) kxa_164 hc2.1 hc2.2 dX1_gainOf_16 ?_
  refine z_join (P := fun j => ∀ (u3 : Int), jZ K (fun r => (r, M)) 25 [(0, 2, 157), (1, 0, a1)] [(0, u3)] M (j u3)) (fun u3 => ?_) (fun j25 hj25 => ?_)
  · refine z_istore_n (pc := 25) hR (lv' := [(2, 0, u3), (0, 2, 157), (1, 0, a1)]) dX1_gainOf_25 rfl (by decide) rfl ?_
    refine z_iload_n (pc := 26) hR 0 dX1_gainOf_26 rfl rfl ?_
    refine z_ifeq (pc := 27) (tgt := 44) hR dX1_gainOf_27 (by decide) ?_ ?_
    · refine z_aload_n (pc := 44) hR 1 dX1_gainOf_44 rfl rfl ?_
      refine z_getr (pc := 45) hR (c0 := 1) (r := 158) jf_RX1_14 kxo_157 (by decide) rfl rfl dX1_gainOf_45 ?_
      refine z_getr (pc := 48) hR (c0 := 1) (r := 159) jf_RX1_127 kxo_158 (by decide) rfl rfl dX1_gainOf_48 ?_
      refine z_iload_n (pc := 51) hR 2 dX1_gainOf_51 rfl rfl ?_
      refine z_chk (fun hc4 => ?_)
      refine z_iald (pc := 52) hR (n := 7) kxa_159 hc4.1 hc4.2 dX1_gainOf_52 ?_
      exact z_ireturn (pc := 53) hR rfl rfl dX1_gainOf_53 rfl
    · refine z_aload_n (pc := 30) hR 1 dX1_gainOf_30 rfl rfl ?_
      refine z_getr (pc := 31) hR (c0 := 1) (r := 158) jf_RX1_14 kxo_157 (by decide) rfl rfl dX1_gainOf_31 ?_
      refine z_getr (pc := 34) hR (c0 := 1) (r := 159) jf_RX1_127 kxo_158 (by decide) rfl rfl dX1_gainOf_34 ?_
      refine z_iload_n (pc := 37) hR 2 dX1_gainOf_37 rfl rfl ?_
      refine z_chk (fun hc5 => ?_)
      refine z_iald (pc := 38) hR (n := 7) kxa_159 hc5.1 hc5.2 dX1_gainOf_38 ?_
      refine z_iconst (pc := 39) hR dX1_gainOf_39 rfl ?_
      refine z_isub (pc := 40) hR dX1_gainOf_40 ?_
      refine z_goto (pc := 41) (tgt := 53) hR dX1_gainOf_41 (by decide) ?_
      exact z_ireturn (pc := 53) hR rfl rfl dX1_gainOf_53 rfl
  refine z_ifne (pc := 17) (tgt := 24) hR dX1_gainOf_17 (by decide) ?_ ?_
  · refine z_iconst (pc := 24) hR dX1_gainOf_24 rfl ?_
    exact hj25 0
  · refine z_iconst (pc := 20) hR dX1_gainOf_20 rfl ?_
    refine z_goto (pc := 21) (tgt := 25) hR dX1_gainOf_21 (by decide) ?_
    exact hj25 1
theorem dX1_play_0 : decode cX1_play 0 = .ok (.aload_n 1, 1) := by decide +kernel
theorem dX1_play_1 : decode cX1_play 1 = .ok (.getfield 54, 3) := by decide +kernel
theorem dX1_play_4 : decode cX1_play 4 = .ok (.getfield 38, 3) := by decide +kernel
theorem dX1_play_7 : decode cX1_play 7 = .ok (.iconst 0, 1) := by decide +kernel
theorem dX1_play_8 : decode cX1_play 8 = .ok (.aload_n 0, 1) := by decide +kernel
theorem dX1_play_9 : decode cX1_play 9 = .ok (.getfield 25, 3) := by decide +kernel
theorem dX1_play_12 : decode cX1_play 12 = .ok (.iconst 0, 1) := by decide +kernel
theorem dX1_play_13 : decode cX1_play 13 = .ok (.bipush 7, 2) := by decide +kernel
theorem dX1_play_15 : decode cX1_play 15 = .ok (.invokestatic 114, 3) := by decide +kernel
theorem dX1_play_18 : decode cX1_play 18 = .ok (.iconst 0, 1) := by decide +kernel
theorem dX1_play_19 : decode cX1_play 19 = .ok (.istore 6, 2) := by decide +kernel
theorem dX1_play_21 : decode cX1_play 21 = .ok (.iload 6, 2) := by decide +kernel
theorem dX1_play_23 : decode cX1_play 23 = .ok (.bipush 36, 2) := by decide +kernel
theorem dX1_play_25 : decode cX1_play 25 = .ok (.if_icmp .ge 127, 3) := by decide +kernel
theorem dX1_play_28 : decode cX1_play 28 = .ok (.aload_n 0, 1) := by decide +kernel
theorem dX1_play_29 : decode cX1_play 29 = .ok (.getfield 25, 3) := by decide +kernel
theorem dX1_play_32 : decode cX1_play 32 = .ok (.iload_n 3, 1) := by decide +kernel
theorem dX1_play_33 : decode cX1_play 33 = .ok (.iload 6, 2) := by decide +kernel
theorem dX1_play_35 : decode cX1_play 35 = .ok (.bipush 6, 2) := by decide +kernel
theorem dX1_play_37 : decode cX1_play 37 = .ok (.idiv, 1) := by decide +kernel
theorem dX1_play_38 : decode cX1_play 38 = .ok (.iastore, 1) := by decide +kernel
theorem dX1_play_39 : decode cX1_play 39 = .ok (.aload_n 0, 1) := by decide +kernel
theorem dX1_play_40 : decode cX1_play 40 = .ok (.getfield 25, 3) := by decide +kernel
theorem dX1_play_43 : decode cX1_play 43 = .ok (.iload 4, 2) := by decide +kernel
theorem dX1_play_45 : decode cX1_play 45 = .ok (.iload 6, 2) := by decide +kernel
theorem dX1_play_47 : decode cX1_play 47 = .ok (.bipush 6, 2) := by decide +kernel
theorem dX1_play_49 : decode cX1_play 49 = .ok (.irem, 1) := by decide +kernel
theorem dX1_play_50 : decode cX1_play 50 = .ok (.iastore, 1) := by decide +kernel
theorem dX1_play_51 : decode cX1_play 51 = .ok (.aload_n 0, 1) := by decide +kernel
theorem dX1_play_52 : decode cX1_play 52 = .ok (.getfield 29, 3) := by decide +kernel
theorem dX1_play_55 : decode cX1_play 55 = .ok (.iload 6, 2) := by decide +kernel
theorem dX1_play_57 : decode cX1_play 57 = .ok (.iconst 0, 1) := by decide +kernel
theorem dX1_play_58 : decode cX1_play 58 = .ok (.iastore, 1) := by decide +kernel
theorem dX1_play_59 : decode cX1_play 59 = .ok (.aload_n 0, 1) := by decide +kernel
theorem dX1_play_60 : decode cX1_play 60 = .ok (.getfield 32, 3) := by decide +kernel
theorem dX1_play_63 : decode cX1_play 63 = .ok (.iload 6, 2) := by decide +kernel
theorem dX1_play_65 : decode cX1_play 65 = .ok (.iconst 0, 1) := by decide +kernel
theorem dX1_play_66 : decode cX1_play 66 = .ok (.iastore, 1) := by decide +kernel
theorem dX1_play_67 : decode cX1_play 67 = .ok (.aload_n 0, 1) := by decide +kernel
theorem dX1_play_68 : decode cX1_play 68 = .ok (.getfield 21, 3) := by decide +kernel
theorem dX1_play_71 : decode cX1_play 71 = .ok (.aload_n 1, 1) := by decide +kernel
theorem dX1_play_72 : decode cX1_play 72 = .ok (.getfield 45, 3) := by decide +kernel
theorem dX1_play_75 : decode cX1_play 75 = .ok (.invokevirtual 50, 3) := by decide +kernel
theorem dX1_play_78 : decode cX1_play 78 = .ok (.iconst 0, 1) := by decide +kernel
theorem dX1_play_79 : decode cX1_play 79 = .ok (.istore 7, 2) := by decide +kernel
theorem dX1_play_81 : decode cX1_play 81 = .ok (.iload 7, 2) := by decide +kernel
theorem dX1_play_83 : decode cX1_play 83 = .ok (.iload 5, 2) := by decide +kernel
theorem dX1_play_85 : decode cX1_play 85 = .ok (.if_icmp .ge 61, 3) := by decide +kernel
theorem dX1_play_88 : decode cX1_play 88 = .ok (.aload_n 0, 1) := by decide +kernel
theorem dX1_play_89 : decode cX1_play 89 = .ok (.getfield 14, 3) := by decide +kernel
theorem dX1_play_92 : decode cX1_play 92 = .ok (.aload_n 1, 1) := by decide +kernel
theorem dX1_play_93 : decode cX1_play 93 = .ok (.getfield 54, 3) := by decide +kernel
theorem dX1_play_96 : decode cX1_play 96 = .ok (.aload_n 0, 1) := by decide +kernel
theorem dX1_play_97 : decode cX1_play 97 = .ok (.getfield 21, 3) := by decide +kernel
theorem dX1_play_100 : decode cX1_play 100 = .ok (.aload_n 0, 1) := by decide +kernel
theorem dX1_play_101 : decode cX1_play 101 = .ok (.getfield 25, 3) := by decide +kernel
theorem dX1_play_104 : decode cX1_play 104 = .ok (.aload_n 2, 1) := by decide +kernel
theorem dX1_play_105 : decode cX1_play 105 = .ok (.invokevirtual 41, 3) := by decide +kernel
theorem dX1_play_108 : decode cX1_play 108 = .ok (.pop, 1) := by decide +kernel
theorem dX1_play_109 : decode cX1_play 109 = .ok (.aload_n 0, 1) := by decide +kernel
theorem dX1_play_110 : decode cX1_play 110 = .ok (.getfield 29, 3) := by decide +kernel
theorem dX1_play_113 : decode cX1_play 113 = .ok (.iload 6, 2) := by decide +kernel
theorem dX1_play_115 : decode cX1_play 115 = .ok (.dup2, 1) := by decide +kernel
theorem dX1_play_116 : decode cX1_play 116 = .ok (.iaload, 1) := by decide +kernel
theorem dX1_play_117 : decode cX1_play 117 = .ok (.aload_n 0, 1) := by decide +kernel
theorem dX1_play_118 : decode cX1_play 118 = .ok (.iload_n 3, 1) := by decide +kernel
theorem dX1_play_119 : decode cX1_play 119 = .ok (.invokevirtual 120, 3) := by decide +kernel
theorem dX1_play_122 : decode cX1_play 122 = .ok (.iadd, 1) := by decide +kernel
theorem dX1_play_123 : decode cX1_play 123 = .ok (.iastore, 1) := by decide +kernel
theorem dX1_play_124 : decode cX1_play 124 = .ok (.aload_n 0, 1) := by decide +kernel
theorem dX1_play_125 : decode cX1_play 125 = .ok (.getfield 32, 3) := by decide +kernel
theorem dX1_play_128 : decode cX1_play 128 = .ok (.iload 6, 2) := by decide +kernel
theorem dX1_play_130 : decode cX1_play 130 = .ok (.dup2, 1) := by decide +kernel
theorem dX1_play_131 : decode cX1_play 131 = .ok (.iaload, 1) := by decide +kernel
theorem dX1_play_132 : decode cX1_play 132 = .ok (.aload_n 0, 1) := by decide +kernel
theorem dX1_play_133 : decode cX1_play 133 = .ok (.iload 4, 2) := by decide +kernel
theorem dX1_play_135 : decode cX1_play 135 = .ok (.invokevirtual 120, 3) := by decide +kernel
theorem dX1_play_138 : decode cX1_play 138 = .ok (.iadd, 1) := by decide +kernel
theorem dX1_play_139 : decode cX1_play 139 = .ok (.iastore, 1) := by decide +kernel
theorem dX1_play_140 : decode cX1_play 140 = .ok (.iinc 7 1, 3) := by decide +kernel
theorem dX1_play_143 : decode cX1_play 143 = .ok (.goto (-62), 3) := by decide +kernel
theorem dX1_play_146 : decode cX1_play 146 = .ok (.iinc 6 1, 3) := by decide +kernel
theorem dX1_play_149 : decode cX1_play 149 = .ok (.goto (-128), 3) := by decide +kernel
theorem dX1_play_152 : decode cX1_play 152 = .ok (.return_, 1) := by decide +kernel
def Fo_play_L81 (N : Nat) (a2 : Int) (a3 : Int) (a4 : Int) (a5 : Int) (x2 : Int) (h21 : (Int × jMem) → Option (Int × jMem)) (h81 : (Int × jMem) → Option (Int × jMem)) : Int × jMem → Option (Int × jMem)
  | (x13, M14) => (if x13 < a5 then jb1 (Ye_pass N 158 161 167 a2 M14) fun r15 M16 => jchk (0 ≤ x2 ∧ x2 < 36) <| (Fo_gainOf N a3 M16).bind fun r18 => jchk (0 ≤ x2 ∧ x2 < 36) <| jlt (up M16 168 x2 ((w32 (((M16 168 x2)) + r18)))) fun M20 => jchk (0 ≤ x2 ∧ x2 < 36) <| (Fo_gainOf N a4 M20).bind fun r22 => jchk (0 ≤ x2 ∧ x2 < 36) <| jlt (up M20 169 x2 ((w32 (((M20 169 x2)) + r22)))) fun M24 => h81 ((w32 (x13 + 1)), M24) else h21 ((w32 (x2 + 1)), M14))
def Fo_play_L21 (N : Nat) (a2 : Int) (a3 : Int) (a4 : Int) (a5 : Int) (h21 : (Int × jMem) → Option (Int × jMem)) : Int × jMem → Option (Int × jMem)
  | (x2, M3) => (if x2 < 36 then jchk (0 ≤ a3 ∧ a3 < 7) <| jlt (up M3 167 a3 ((w32 (x2.tdiv 6)))) fun M5 => jchk (0 ≤ a4 ∧ a4 < 7) <| jlt (up M5 167 a4 ((x2.tmod 6))) fun M7 => jchk (0 ≤ x2 ∧ x2 < 36) <| jlt (up M7 168 x2 0) fun M9 => jchk (0 ≤ x2 ∧ x2 < 36) <| jlt (up M9 169 x2 0) fun M11 => jbv (St_copyFrom N 161 21 M11) fun M12 => jfix N (Fo_play_L81 N a2 a3 a4 a5 x2 h21) (0, M12) else some (0, M3))
def Fo_play (N : Nat) (a2 a3 a4 a5 : Int) (M : jMem) : Option (Int × jMem) := jlt (jcp M 18 167 7) fun M1 => jfix N (Fo_play_L21 N a2 a3 a4 a5) (0, M1)
theorem c_Fo_play {l : Launch} {g : jG} (N : Nat) (a2 a3 a4 a5 : Int) (M : jMem) (ha2 : a2 < 0 ∨ jk jTX a2 5) : ∀ o, Fo_play N a2 a3 a4 a5 M = some o → jCt l g jTX yX1_play cX1_play 8 none 3 11 [(2, 157), (2, 14), (2, a2), (0, a3), (0, a4), (0, a5)] M o := by
  refine jMet (own := RX1) (em := id) (L := [(0, 2, 157), (1, 2, 14), (2, 2, a2), (3, 0, a3), (4, 0, a4), (5, 0, a5)]) (by decide +kernel) rfl (Nat.le_of_ble_eq_true rfl) rfl (fun K hR => ?_)
  unfold Fo_play
  refine z_aload_n (pc := 0) hR 1 dX1_play_0 rfl rfl ?_
  refine z_getr (pc := 1) hR (c0 := 1) (r := 15) jf_RX1_54 kxo_14 (by decide) rfl rfl dX1_play_1 ?_
  refine z_getr (pc := 4) hR (c0 := 3) (r := 18) jf_RX1_38 kxo_15 (by decide) rfl rfl dX1_play_4 ?_
  refine z_iconst (pc := 7) hR dX1_play_7 rfl ?_
  refine z_aload_n (pc := 8) hR 0 dX1_play_8 rfl rfl ?_
  refine z_getr (pc := 9) hR (c0 := 10) (r := 167) jf_RX1_25 kxo_157 (by decide) rfl rfl dX1_play_9 ?_
  refine z_iconst (pc := 12) hR dX1_play_12 rfl ?_
  refine z_bipush (pc := 13) hR dX1_play_13 rfl ?_
  refine z_copy (pc := 15) hR (n := 7) jl_RX1_114 jw_cp_n jw_cp_s jw_System kxa_18 kxa_167 rfl (by decide) (by decide) (by decide) (by decide) dX1_play_15 (fun M1 => ?_)
  refine z_iconst (pc := 18) hR dX1_play_18 rfl ?_
  refine z_istore (pc := 19) hR (lv' := [(6, 0, 0), (0, 2, 157), (1, 2, 14), (2, 2, a2), (3, 0, a3), (4, 0, a4), (5, 0, a5)]) dX1_play_19 (by decide) rfl ?_
  refine z_pick (pc := 21) (lv' := [(0, 2, 157), (1, 2, 14), (2, 2, a2), (3, 0, a3), (4, 0, a4), (5, 0, a5), (6, 0, 0)]) hR [1, 2, 3, 4, 5, 6, 0] rfl ?_
  refine z_fix (σ := Int × jMem) (lv := fun s => [(0, 2, 157), (1, 2, 14), (2, 2, a2), (3, 0, a3), (4, 0, a4), (5, 0, a5), (6, 0, s.1)]) (st := fun _ => []) (M := fun s => s.2) (fun h21 hh21 => ?_) N (0, M1)
  rintro ⟨x2, M3⟩
  show jZ K id 21 [(0, 2, 157), (1, 2, 14), (2, 2, a2), (3, 0, a3), (4, 0, a4), (5, 0, a5), (6, 0, x2)] [] M3 _
  unfold Fo_play_L21
  refine z_iload (pc := 21) hR 6 dX1_play_21 rfl ?_
  refine z_bipush (pc := 23) hR dX1_play_23 rfl ?_
  refine z_icmpge (pc := 25) (tgt := 152) hR dX1_play_25 (by decide) ?_ ?_
  · exact z_return (x := 0) (pc := 152) hR rfl rfl dX1_play_152 rfl
  · refine z_aload_n (pc := 28) hR 0 dX1_play_28 rfl rfl ?_
    refine z_getr (pc := 29) hR (c0 := 10) (r := 167) jf_RX1_25 kxo_157 (by decide) rfl rfl dX1_play_29 ?_
    refine z_iload_n (pc := 32) hR 3 dX1_play_32 rfl rfl ?_
    refine z_iload (pc := 33) hR 6 dX1_play_33 rfl ?_
    refine z_bipush (pc := 35) hR dX1_play_35 rfl ?_
    refine z_idiv (pc := 37) hR dX1_play_37 (by decide) ?_
    refine z_chk (fun hc4 => ?_)
    refine z_iast (pc := 38) hR (n := 7) kxa_167 hc4.1 hc4.2 dX1_play_38 (fun M5 => ?_)
    refine z_aload_n (pc := 39) hR 0 dX1_play_39 rfl rfl ?_
    refine z_getr (pc := 40) hR (c0 := 10) (r := 167) jf_RX1_25 kxo_157 (by decide) rfl rfl dX1_play_40 ?_
    refine z_iload (pc := 43) hR 4 dX1_play_43 rfl ?_
    refine z_iload (pc := 45) hR 6 dX1_play_45 rfl ?_
    refine z_bipush (pc := 47) hR dX1_play_47 rfl ?_
    refine z_irem (pc := 49) hR dX1_play_49 (by decide) ?_
    refine z_chk (fun hc6 => ?_)
    refine z_iast (pc := 50) hR (n := 7) kxa_167 hc6.1 hc6.2 dX1_play_50 (fun M7 => ?_)
    refine z_aload_n (pc := 51) hR 0 dX1_play_51 rfl rfl ?_
    refine z_getr (pc := 52) hR (c0 := 11) (r := 168) jf_RX1_29 kxo_157 (by decide) rfl rfl dX1_play_52 ?_
    refine z_iload (pc := 55) hR 6 dX1_play_55 rfl ?_
    refine z_iconst (pc := 57) hR dX1_play_57 rfl ?_
    refine z_chk (fun hc8 => ?_)
    refine z_iast (pc := 58) hR (n := 36) kxa_168 hc8.1 hc8.2 dX1_play_58 (fun M9 => ?_)
    refine z_aload_n (pc := 59) hR 0 dX1_play_59 rfl rfl ?_
    refine z_getr (pc := 60) hR (c0 := 12) (r := 169) jf_RX1_32 kxo_157 (by decide) rfl rfl dX1_play_60 ?_
    refine z_iload (pc := 63) hR 6 dX1_play_63 rfl ?_
    refine z_iconst (pc := 65) hR dX1_play_65 rfl ?_
    refine z_chk (fun hc10 => ?_)
    refine z_iast (pc := 66) hR (n := 36) kxa_169 hc10.1 hc10.2 dX1_play_66 (fun M11 => ?_)
    refine z_aload_n (pc := 67) hR 0 dX1_play_67 rfl rfl ?_
    refine z_getr (pc := 68) hR (c0 := 4) (r := 161) jf_RX1_21 kxo_157 (by decide) rfl rfl dX1_play_68 ?_
    refine z_aload_n (pc := 71) hR 1 dX1_play_71 rfl rfl ?_
    refine z_getr (pc := 72) hR (c0 := 7) (r := 21) jf_RX1_45 kxo_14 (by decide) rfl rfl dX1_play_72 ?_
    refine z_callv0 (pc := 75) (rk' := 3) hR (As := [(2, 21)]) (st := []) jm_X7_copyFrom jl_RX1_50 kxo_161 (by decide) rfl (c_St_copyFrom N 161 21 M11 kxo_161 kxo_21) rfl (by decide) (by decide) rfl (Nat.le_of_ble_eq_true rfl) dX1_play_75 (fun M12 => ?_)
    refine z_iconst (pc := 78) hR dX1_play_78 rfl ?_
    refine z_istore (pc := 79) hR (lv' := [(7, 0, 0), (0, 2, 157), (1, 2, 14), (2, 2, a2), (3, 0, a3), (4, 0, a4), (5, 0, a5), (6, 0, x2)]) dX1_play_79 (by decide) rfl ?_
    refine z_pick (pc := 81) (lv' := [(0, 2, 157), (1, 2, 14), (2, 2, a2), (3, 0, a3), (4, 0, a4), (5, 0, a5), (6, 0, x2), (7, 0, 0)]) hR [1, 2, 3, 4, 5, 6, 7, 0] rfl ?_
    refine z_fix (σ := Int × jMem) (lv := fun s => [(0, 2, 157), (1, 2, 14), (2, 2, a2), (3, 0, a3), (4, 0, a4), (5, 0, a5), (6, 0, x2), (7, 0, s.1)]) (st := fun _ => []) (M := fun s => s.2) (fun h81 hh81 => ?_) N (0, M12)
    rintro ⟨x13, M14⟩
    show jZ K id 81 [(0, 2, 157), (1, 2, 14), (2, 2, a2), (3, 0, a3), (4, 0, a4), (5, 0, a5), (6, 0, x2), (7, 0, x13)] [] M14 _
    unfold Fo_play_L81
    refine z_iload (pc := 81) hR 7 dX1_play_81 rfl ?_
    refine z_iload (pc := 83) hR 5 dX1_play_83 rfl ?_
    refine z_icmpge (pc := 85) (tgt := 146) hR dX1_play_85 (by decide) ?_ ?_
    · refine z_iinc (pc := 146) hR (j := 6) (lv' := [(6, 0, (w32 (x2 + 1))), (0, 2, 157), (1, 2, 14), (2, 2, a2), (3, 0, a3), (4, 0, a4), (5, 0, a5), (7, 0, x13)]) dX1_play_146 rfl (by decide) rfl ?_
      refine z_goto (pc := 149) (tgt := 21) hR dX1_play_149 (by decide) ?_
      refine z_pick (pc := 21) (lv' := [(0, 2, 157), (1, 2, 14), (2, 2, a2), (3, 0, a3), (4, 0, a4), (5, 0, a5), (6, 0, (w32 (x2 + 1)))]) hR [1, 2, 3, 4, 5, 6, 0] rfl ?_
      exact hh21 ((w32 (x2 + 1)), M14)
    · refine z_aload_n (pc := 88) hR 0 dX1_play_88 rfl rfl ?_
      refine z_getr (pc := 89) hR (c0 := 1) (r := 158) jf_RX1_14 kxo_157 (by decide) rfl rfl dX1_play_89 ?_
      refine z_aload_n (pc := 92) hR 1 dX1_play_92 rfl rfl ?_
      refine z_getr (pc := 93) hR (c0 := 1) (r := 15) jf_RX1_54 kxo_14 (by decide) rfl rfl dX1_play_93 ?_
      refine z_aload_n (pc := 96) hR 0 dX1_play_96 rfl rfl ?_
      refine z_getr (pc := 97) hR (c0 := 4) (r := 161) jf_RX1_21 kxo_157 (by decide) rfl rfl dX1_play_97 ?_
      refine z_aload_n (pc := 100) hR 0 dX1_play_100 rfl rfl ?_
      refine z_getr (pc := 101) hR (c0 := 10) (r := 167) jf_RX1_25 kxo_157 (by decide) rfl rfl dX1_play_101 ?_
      refine z_aload_n (pc := 104) hR 2 dX1_play_104 rfl rfl ?_
      refine z_callv1 (pc := 105) hR (As := [(2, 15), (2, 161), (2, 167), (2, a2)]) (st := []) jm_X10_pass jl_RX1_41 kxo_158 (by decide) rfl (by decide) (c_Ye_pass N 158 161 167 a2 M14 kxo_158 kxo_161 kxa_167 ha2) rfl (by decide) (by decide) rfl (Nat.le_of_ble_eq_true rfl) dX1_play_105 (fun r15 M16 => ?_)
      refine z_pop (pc := 108) hR dX1_play_108 (by decide) ?_
      refine z_aload_n (pc := 109) hR 0 dX1_play_109 rfl rfl ?_
      refine z_getr (pc := 110) hR (c0 := 11) (r := 168) jf_RX1_29 kxo_157 (by decide) rfl rfl dX1_play_110 ?_
      refine z_iload (pc := 113) hR 6 dX1_play_113 rfl ?_
      refine z_dup2 (pc := 115) hR dX1_play_115 (by decide) (by decide) ?_
      refine z_chk (fun hc17 => ?_)
      refine z_iald (pc := 116) hR (n := 36) kxa_168 hc17.1 hc17.2 dX1_play_116 ?_
      refine z_aload_n (pc := 117) hR 0 dX1_play_117 rfl rfl ?_
      refine z_iload_n (pc := 118) hR 3 dX1_play_118 rfl rfl ?_
      refine z_callvp (pc := 119) hR (As := [(0, a3)]) (st := [(0, (M16 168 x2)), (0, x2), (2, 168)]) jm_X1_gainOf jl_RX1_120 kxo_157 (by decide) rfl (by decide) (c_Fo_gainOf N a3 M16) rfl (by decide) (by decide) rfl (Nat.le_of_ble_eq_true rfl) dX1_play_119 (fun r18 => ?_)
      refine z_iadd (pc := 122) hR dX1_play_122 ?_
      refine z_chk (fun hc19 => ?_)
      refine z_iast (pc := 123) hR (n := 36) kxa_168 hc19.1 hc19.2 dX1_play_123 (fun M20 => ?_)
      refine z_aload_n (pc := 124) hR 0 dX1_play_124 rfl rfl ?_
      refine z_getr (pc := 125) hR (c0 := 12) (r := 169) jf_RX1_32 kxo_157 (by decide) rfl rfl dX1_play_125 ?_
      refine z_iload (pc := 128) hR 6 dX1_play_128 rfl ?_
      refine z_dup2 (pc := 130) hR dX1_play_130 (by decide) (by decide) ?_
      refine z_chk (fun hc21 => ?_)
      refine z_iald (pc := 131) hR (n := 36) kxa_169 hc21.1 hc21.2 dX1_play_131 ?_
      refine z_aload_n (pc := 132) hR 0 dX1_play_132 rfl rfl ?_
      refine z_iload (pc := 133) hR 4 dX1_play_133 rfl ?_
      refine z_callvp (pc := 135) hR (As := [(0, a4)]) (st := [(0, (M20 169 x2)), (0, x2), (2, 169)]) jm_X1_gainOf jl_RX1_120 kxo_157 (by decide) rfl (by decide) (c_Fo_gainOf N a4 M20) rfl (by decide) (by decide) rfl (Nat.le_of_ble_eq_true rfl) dX1_play_135 (fun r22 => ?_)
      refine z_iadd (pc := 138) hR dX1_play_138 ?_
      refine z_chk (fun hc23 => ?_)
      refine z_iast (pc := 139) hR (n := 36) kxa_169 hc23.1 hc23.2 dX1_play_139 (fun M24 => ?_)
      refine z_iinc (pc := 140) hR (j := 7) (lv' := [(7, 0, (w32 (x13 + 1))), (0, 2, 157), (1, 2, 14), (2, 2, a2), (3, 0, a3), (4, 0, a4), (5, 0, a5), (6, 0, x2)]) dX1_play_140 rfl (by decide) rfl ?_
      refine z_goto (pc := 143) (tgt := 81) hR dX1_play_143 (by decide) ?_
      refine z_pick (pc := 81) (lv' := [(0, 2, 157), (1, 2, 14), (2, 2, a2), (3, 0, a3), (4, 0, a4), (5, 0, a5), (6, 0, x2), (7, 0, (w32 (x13 + 1)))]) hR [1, 2, 3, 4, 5, 6, 7, 0] rfl ?_
      exact hh81 ((w32 (x13 + 1)), M24)
theorem dX1_isRest_0 : decode cX1_isRest 0 = .ok (.iload_n 1, 1) := by decide +kernel
theorem dX1_isRest_1 : decode cX1_isRest 1 = .ok (.bipush 6, 2) := by decide +kernel
theorem dX1_isRest_3 : decode cX1_isRest 3 = .ok (.idiv, 1) := by decide +kernel
theorem dX1_isRest_4 : decode cX1_isRest 4 = .ok (.istore_n 2, 1) := by decide +kernel
theorem dX1_isRest_5 : decode cX1_isRest 5 = .ok (.iload_n 1, 1) := by decide +kernel
theorem dX1_isRest_6 : decode cX1_isRest 6 = .ok (.bipush 6, 2) := by decide +kernel
theorem dX1_isRest_8 : decode cX1_isRest 8 = .ok (.irem, 1) := by decide +kernel
theorem dX1_isRest_9 : decode cX1_isRest 9 = .ok (.istore_n 3, 1) := by decide +kernel
theorem dX1_isRest_10 : decode cX1_isRest 10 = .ok (.iconst 0, 1) := by decide +kernel
theorem dX1_isRest_11 : decode cX1_isRest 11 = .ok (.istore 4, 2) := by decide +kernel
theorem dX1_isRest_13 : decode cX1_isRest 13 = .ok (.iload 4, 2) := by decide +kernel
theorem dX1_isRest_15 : decode cX1_isRest 15 = .ok (.bipush 6, 2) := by decide +kernel
theorem dX1_isRest_17 : decode cX1_isRest 17 = .ok (.if_icmp .ge 55, 3) := by decide +kernel
theorem dX1_isRest_20 : decode cX1_isRest 20 = .ok (.aload_n 0, 1) := by decide +kernel
theorem dX1_isRest_21 : decode cX1_isRest 21 = .ok (.getfield 29, 3) := by decide +kernel
theorem dX1_isRest_24 : decode cX1_isRest 24 = .ok (.iload 4, 2) := by decide +kernel
theorem dX1_isRest_26 : decode cX1_isRest 26 = .ok (.bipush 6, 2) := by decide +kernel
theorem dX1_isRest_28 : decode cX1_isRest 28 = .ok (.imul, 1) := by decide +kernel
theorem dX1_isRest_29 : decode cX1_isRest 29 = .ok (.iload_n 3, 1) := by decide +kernel
theorem dX1_isRest_30 : decode cX1_isRest 30 = .ok (.iadd, 1) := by decide +kernel
theorem dX1_isRest_31 : decode cX1_isRest 31 = .ok (.iaload, 1) := by decide +kernel
theorem dX1_isRest_32 : decode cX1_isRest 32 = .ok (.aload_n 0, 1) := by decide +kernel
theorem dX1_isRest_33 : decode cX1_isRest 33 = .ok (.getfield 29, 3) := by decide +kernel
theorem dX1_isRest_36 : decode cX1_isRest 36 = .ok (.iload_n 1, 1) := by decide +kernel
theorem dX1_isRest_37 : decode cX1_isRest 37 = .ok (.iaload, 1) := by decide +kernel
theorem dX1_isRest_38 : decode cX1_isRest 38 = .ok (.if_icmp .le 5, 3) := by decide +kernel
theorem dX1_isRest_41 : decode cX1_isRest 41 = .ok (.iconst 0, 1) := by decide +kernel
theorem dX1_isRest_42 : decode cX1_isRest 42 = .ok (.ireturn, 1) := by decide +kernel
theorem dX1_isRest_43 : decode cX1_isRest 43 = .ok (.aload_n 0, 1) := by decide +kernel
theorem dX1_isRest_44 : decode cX1_isRest 44 = .ok (.getfield 32, 3) := by decide +kernel
theorem dX1_isRest_47 : decode cX1_isRest 47 = .ok (.iload_n 2, 1) := by decide +kernel
theorem dX1_isRest_48 : decode cX1_isRest 48 = .ok (.bipush 6, 2) := by decide +kernel
theorem dX1_isRest_50 : decode cX1_isRest 50 = .ok (.imul, 1) := by decide +kernel
theorem dX1_isRest_51 : decode cX1_isRest 51 = .ok (.iload 4, 2) := by decide +kernel
theorem dX1_isRest_53 : decode cX1_isRest 53 = .ok (.iadd, 1) := by decide +kernel
theorem dX1_isRest_54 : decode cX1_isRest 54 = .ok (.iaload, 1) := by decide +kernel
theorem dX1_isRest_55 : decode cX1_isRest 55 = .ok (.aload_n 0, 1) := by decide +kernel
theorem dX1_isRest_56 : decode cX1_isRest 56 = .ok (.getfield 32, 3) := by decide +kernel
theorem dX1_isRest_59 : decode cX1_isRest 59 = .ok (.iload_n 1, 1) := by decide +kernel
theorem dX1_isRest_60 : decode cX1_isRest 60 = .ok (.iaload, 1) := by decide +kernel
theorem dX1_isRest_61 : decode cX1_isRest 61 = .ok (.if_icmp .le 5, 3) := by decide +kernel
theorem dX1_isRest_64 : decode cX1_isRest 64 = .ok (.iconst 0, 1) := by decide +kernel
theorem dX1_isRest_65 : decode cX1_isRest 65 = .ok (.ireturn, 1) := by decide +kernel
theorem dX1_isRest_66 : decode cX1_isRest 66 = .ok (.iinc 4 1, 3) := by decide +kernel
theorem dX1_isRest_69 : decode cX1_isRest 69 = .ok (.goto (-56), 3) := by decide +kernel
theorem dX1_isRest_72 : decode cX1_isRest 72 = .ok (.iconst 1, 1) := by decide +kernel
theorem dX1_isRest_73 : decode cX1_isRest 73 = .ok (.ireturn, 1) := by decide +kernel
def Fo_isRest_L13 (N : Nat) (a1 : Int) (M : jMem) (v1 : Int) (v2 : Int) (h13 : Int → Option Int) : Int → Option Int
  | x3 => (if x3 < 6 then jchk (0 ≤ (w32 (((w32 (x3 * 6))) + v2)) ∧ (w32 (((w32 (x3 * 6))) + v2)) < 36) <| jchk (0 ≤ a1 ∧ a1 < 36) <| (if (M 168 a1) < (M 168 ((w32 (((w32 (x3 * 6))) + v2)))) then some 0 else jchk (0 ≤ (w32 (((w32 (v1 * 6))) + x3)) ∧ (w32 (((w32 (v1 * 6))) + x3)) < 36) <| jchk (0 ≤ a1 ∧ a1 < 36) <| (if (M 169 a1) < (M 169 ((w32 (((w32 (v1 * 6))) + x3)))) then some 0 else h13 ((w32 (x3 + 1))))) else some 1)
def Fo_isRest (N : Nat) (a1 : Int) (M : jMem) : Option Int := jlt ((w32 (a1.tdiv 6))) fun v1 => jlt ((a1.tmod 6)) fun v2 => jfix N (Fo_isRest_L13 N a1 M v1 v2) 0
theorem c_Fo_isRest {l : Launch} {g : jG} (N : Nat) (a1 : Int) (M : jMem)  : ∀ o, Fo_isRest N a1 M = some o → jCt l g jTX yX1_isRest cX1_isRest 5 (some .boolean) 0 1 [(2, 157), (0, a1)] M (o, M) := by
  refine jMet (own := RX1) (em := (fun r => (r, M))) (L := [(0, 2, 157), (1, 0, a1)]) (by decide +kernel) rfl (Nat.le_of_ble_eq_true rfl) rfl (fun K hR => ?_)
  unfold Fo_isRest
  refine z_iload_n (pc := 0) hR 1 dX1_isRest_0 rfl rfl ?_
  refine z_bipush (pc := 1) hR dX1_isRest_1 rfl ?_
  refine z_idiv (pc := 3) hR dX1_isRest_3 (by decide) ?_
  refine z_let1 (fun v1 => ?_)
  refine z_istore_n (pc := 4) hR (lv' := [(2, 0, v1), (0, 2, 157), (1, 0, a1)]) dX1_isRest_4 rfl (by decide) rfl ?_
  refine z_iload_n (pc := 5) hR 2 dX1_isRest_5 rfl rfl ?_
  refine z_bipush (pc := 6) hR dX1_isRest_6 rfl ?_
  refine z_irem (pc := 8) hR dX1_isRest_8 (by decide) ?_
  refine z_let1 (fun v2 => ?_)
  refine z_istore_n (pc := 9) hR (lv' := [(3, 0, v2), (2, 0, v1), (0, 2, 157), (1, 0, a1)]) dX1_isRest_9 rfl (by decide) rfl ?_
  refine z_iconst (pc := 10) hR dX1_isRest_10 rfl ?_
  refine z_istore (pc := 11) hR (lv' := [(4, 0, 0), (3, 0, v2), (2, 0, v1), (0, 2, 157), (1, 0, a1)]) dX1_isRest_11 (by decide) rfl ?_
  refine z_pick (pc := 13) (lv' := [(0, 2, 157), (1, 0, a1), (2, 0, v1), (3, 0, v2), (4, 0, 0)]) hR [3, 4, 2, 1, 0] rfl ?_
  refine z_fix (σ := Int) (lv := fun s => [(0, 2, 157), (1, 0, a1), (2, 0, v1), (3, 0, v2), (4, 0, s)]) (st := fun _ => []) (M := fun _ => M) (fun h13 hh13 => ?_) N 0
  intro x3
  show jZ K (fun r => (r, M)) 13 [(0, 2, 157), (1, 0, a1), (2, 0, v1), (3, 0, v2), (4, 0, x3)] [] M _
  unfold Fo_isRest_L13
  refine z_iload (pc := 13) hR 4 dX1_isRest_13 rfl ?_
  refine z_bipush (pc := 15) hR dX1_isRest_15 rfl ?_
  refine z_icmpge (pc := 17) (tgt := 72) hR dX1_isRest_17 (by decide) ?_ ?_
  · refine z_iconst (pc := 72) hR dX1_isRest_72 rfl ?_
    exact z_zreturn (pc := 73) hR rfl rfl (Or.inr rfl) dX1_isRest_73 rfl
  · refine z_aload_n (pc := 20) hR 0 dX1_isRest_20 rfl rfl ?_
    refine z_getr (pc := 21) hR (c0 := 11) (r := 168) jf_RX1_29 kxo_157 (by decide) rfl rfl dX1_isRest_21 ?_
    refine z_iload (pc := 24) hR 4 dX1_isRest_24 rfl ?_
    refine z_bipush (pc := 26) hR dX1_isRest_26 rfl ?_
    refine z_imul (pc := 28) hR dX1_isRest_28 ?_
    refine z_iload_n (pc := 29) hR 3 dX1_isRest_29 rfl rfl ?_
    refine z_iadd (pc := 30) hR dX1_isRest_30 ?_
    refine z_chk (fun hc4 => ?_)
    refine z_iald (pc := 31) hR (n := 36) kxa_168 hc4.1 hc4.2 dX1_isRest_31 ?_
    refine z_aload_n (pc := 32) hR 0 dX1_isRest_32 rfl rfl ?_
    refine z_getr (pc := 33) hR (c0 := 11) (r := 168) jf_RX1_29 kxo_157 (by decide) rfl rfl dX1_isRest_33 ?_
    refine z_iload_n (pc := 36) hR 1 dX1_isRest_36 rfl rfl ?_
    refine z_chk (fun hc5 => ?_)
    refine z_iald (pc := 37) hR (n := 36) kxa_168 hc5.1 hc5.2 dX1_isRest_37 ?_
    refine z_icmple (pc := 38) (tgt := 43) hR dX1_isRest_38 (by decide) ?_ ?_
    · refine z_aload_n (pc := 43) hR 0 dX1_isRest_43 rfl rfl ?_
      refine z_getr (pc := 44) hR (c0 := 12) (r := 169) jf_RX1_32 kxo_157 (by decide) rfl rfl dX1_isRest_44 ?_
      refine z_iload_n (pc := 47) hR 2 dX1_isRest_47 rfl rfl ?_
      refine z_bipush (pc := 48) hR dX1_isRest_48 rfl ?_
      refine z_imul (pc := 50) hR dX1_isRest_50 ?_
      refine z_iload (pc := 51) hR 4 dX1_isRest_51 rfl ?_
      refine z_iadd (pc := 53) hR dX1_isRest_53 ?_
      refine z_chk (fun hc6 => ?_)
      refine z_iald (pc := 54) hR (n := 36) kxa_169 hc6.1 hc6.2 dX1_isRest_54 ?_
      refine z_aload_n (pc := 55) hR 0 dX1_isRest_55 rfl rfl ?_
      refine z_getr (pc := 56) hR (c0 := 12) (r := 169) jf_RX1_32 kxo_157 (by decide) rfl rfl dX1_isRest_56 ?_
      refine z_iload_n (pc := 59) hR 1 dX1_isRest_59 rfl rfl ?_
      refine z_chk (fun hc7 => ?_)
      refine z_iald (pc := 60) hR (n := 36) kxa_169 hc7.1 hc7.2 dX1_isRest_60 ?_
      refine z_icmple (pc := 61) (tgt := 66) hR dX1_isRest_61 (by decide) ?_ ?_
      · refine z_iinc (pc := 66) hR (j := 4) (lv' := [(4, 0, (w32 (x3 + 1))), (0, 2, 157), (1, 0, a1), (2, 0, v1), (3, 0, v2)]) dX1_isRest_66 rfl (by decide) rfl ?_
        refine z_goto (pc := 69) (tgt := 13) hR dX1_isRest_69 (by decide) ?_
        refine z_pick (pc := 13) (lv' := [(0, 2, 157), (1, 0, a1), (2, 0, v1), (3, 0, v2), (4, 0, (w32 (x3 + 1)))]) hR [1, 2, 3, 4, 0] rfl ?_
        exact hh13 ((w32 (x3 + 1)))
      · refine z_iconst (pc := 64) hR dX1_isRest_64 rfl ?_
        exact z_zreturn (pc := 65) hR rfl rfl (Or.inl rfl) dX1_isRest_65 rfl
    · refine z_iconst (pc := 41) hR dX1_isRest_41 rfl ?_
      exact z_zreturn (pc := 42) hR rfl rfl (Or.inl rfl) dX1_isRest_42 rfl
theorem dX1_findRests_0 : decode cX1_findRests 0 = .ok (.bipush (-2), 2) := by decide +kernel
theorem dX1_findRests_2 : decode cX1_findRests 2 = .ok (.istore_n 1, 1) := by decide +kernel
theorem dX1_findRests_3 : decode cX1_findRests 3 = .ok (.aload_n 0, 1) := by decide +kernel
theorem dX1_findRests_4 : decode cX1_findRests 4 = .ok (.iconst 0, 1) := by decide +kernel
theorem dX1_findRests_5 : decode cX1_findRests 5 = .ok (.putfield 76, 3) := by decide +kernel
theorem dX1_findRests_8 : decode cX1_findRests 8 = .ok (.bipush 35, 2) := by decide +kernel
theorem dX1_findRests_10 : decode cX1_findRests 10 = .ok (.istore_n 2, 1) := by decide +kernel
theorem dX1_findRests_11 : decode cX1_findRests 11 = .ok (.iload_n 2, 1) := by decide +kernel
theorem dX1_findRests_12 : decode cX1_findRests 12 = .ok (.ifCond .lt 29, 3) := by decide +kernel
theorem dX1_findRests_15 : decode cX1_findRests 15 = .ok (.aload_n 0, 1) := by decide +kernel
theorem dX1_findRests_16 : decode cX1_findRests 16 = .ok (.iload_n 2, 1) := by decide +kernel
theorem dX1_findRests_17 : decode cX1_findRests 17 = .ok (.invokevirtual 130, 3) := by decide +kernel
theorem dX1_findRests_20 : decode cX1_findRests 20 = .ok (.ifCond .eq 15, 3) := by decide +kernel
theorem dX1_findRests_23 : decode cX1_findRests 23 = .ok (.iload_n 2, 1) := by decide +kernel
theorem dX1_findRests_24 : decode cX1_findRests 24 = .ok (.istore_n 1, 1) := by decide +kernel
theorem dX1_findRests_25 : decode cX1_findRests 25 = .ok (.aload_n 0, 1) := by decide +kernel
theorem dX1_findRests_26 : decode cX1_findRests 26 = .ok (.dup, 1) := by decide +kernel
theorem dX1_findRests_27 : decode cX1_findRests 27 = .ok (.getfield 76, 3) := by decide +kernel
theorem dX1_findRests_30 : decode cX1_findRests 30 = .ok (.iconst 1, 1) := by decide +kernel
theorem dX1_findRests_31 : decode cX1_findRests 31 = .ok (.iadd, 1) := by decide +kernel
theorem dX1_findRests_32 : decode cX1_findRests 32 = .ok (.putfield 76, 3) := by decide +kernel
theorem dX1_findRests_35 : decode cX1_findRests 35 = .ok (.iinc 2 (-1), 3) := by decide +kernel
theorem dX1_findRests_38 : decode cX1_findRests 38 = .ok (.goto (-27), 3) := by decide +kernel
theorem dX1_findRests_41 : decode cX1_findRests 41 = .ok (.iload_n 1, 1) := by decide +kernel
theorem dX1_findRests_42 : decode cX1_findRests 42 = .ok (.ireturn, 1) := by decide +kernel
def Fo_findRests_L11 (N : Nat)  (h11 : (Int × Int × jMem) → Option (Int × jMem)) : Int × Int × jMem → Option (Int × jMem)
  | (x2, x3, M4) => (if x3 < 0 then some (x2, M4) else (Fo_isRest N x3 M4).bind fun r5 => (if r5 = 0 then h11 (x2, (w32 (x3 + (-1))), M4) else jlt (up M4 157 6 ((w32 (((M4 157 6)) + 1)))) fun M6 => h11 (x3, (w32 (x3 + (-1))), M6)))
def Fo_findRests (N : Nat) (M : jMem) : Option (Int × jMem) := jlt (up M 157 6 0) fun M1 => jfix N (Fo_findRests_L11 N) ((-2), 35, M1)
theorem c_Fo_findRests {l : Launch} {g : jG} (N : Nat) (M : jMem)  : ∀ o, Fo_findRests N  M = some o → jCt l g jTX yX1_findRests cX1_findRests 3 (some .int) 0 3 [(2, 157)] M o := by
  refine jMet (own := RX1) (em := id) (L := [(0, 2, 157)]) (by decide +kernel) rfl (Nat.le_of_ble_eq_true rfl) rfl (fun K hR => ?_)
  unfold Fo_findRests
  refine z_bipush (pc := 0) hR dX1_findRests_0 rfl ?_
  refine z_istore_n (pc := 2) hR (lv' := [(1, 0, (-2)), (0, 2, 157)]) dX1_findRests_2 rfl (by decide) rfl ?_
  refine z_aload_n (pc := 3) hR 1 dX1_findRests_3 rfl rfl ?_
  refine z_iconst (pc := 4) hR dX1_findRests_4 rfl ?_
  refine z_puti (pc := 5) hR (j := 6) jp_RX1_76 kxo_157 (by decide) rfl rfl rfl rfl dX1_findRests_5 (fun M1 => ?_)
  refine z_bipush (pc := 8) hR dX1_findRests_8 rfl ?_
  refine z_istore_n (pc := 10) hR (lv' := [(2, 0, 35), (1, 0, (-2)), (0, 2, 157)]) dX1_findRests_10 rfl (by decide) rfl ?_
  refine z_pick (pc := 11) (lv' := [(0, 2, 157), (1, 0, (-2)), (2, 0, 35)]) hR [2, 1, 0] rfl ?_
  refine z_fix (σ := Int × Int × jMem) (lv := fun s => [(0, 2, 157), (1, 0, s.1), (2, 0, s.2.1)]) (st := fun _ => []) (M := fun s => s.2.2) (fun h11 hh11 => ?_) N ((-2), 35, M1)
  rintro ⟨x2, x3, M4⟩
  show jZ K id 11 [(0, 2, 157), (1, 0, x2), (2, 0, x3)] [] M4 _
  unfold Fo_findRests_L11
  refine z_iload_n (pc := 11) hR 2 dX1_findRests_11 rfl rfl ?_
  refine z_iflt (pc := 12) (tgt := 41) hR dX1_findRests_12 (by decide) ?_ ?_
  · refine z_iload_n (pc := 41) hR 1 dX1_findRests_41 rfl rfl ?_
    exact z_ireturn (pc := 42) hR rfl rfl dX1_findRests_42 rfl
  · refine z_aload_n (pc := 15) hR 0 dX1_findRests_15 rfl rfl ?_
    refine z_iload_n (pc := 16) hR 2 dX1_findRests_16 rfl rfl ?_
    refine z_callvp (pc := 17) hR (As := [(0, x3)]) (st := []) jm_X1_isRest jl_RX1_130 kxo_157 (by decide) rfl (by decide) (c_Fo_isRest N x3 M4) rfl (by decide) (by decide) rfl (Nat.le_of_ble_eq_true rfl) dX1_findRests_17 (fun r5 => ?_)
    refine z_ifeq (pc := 20) (tgt := 35) hR dX1_findRests_20 (by decide) ?_ ?_
    · refine z_iinc (pc := 35) hR (j := 2) (lv' := [(2, 0, (w32 (x3 + (-1)))), (0, 2, 157), (1, 0, x2)]) dX1_findRests_35 rfl (by decide) rfl ?_
      refine z_goto (pc := 38) (tgt := 11) hR dX1_findRests_38 (by decide) ?_
      refine z_pick (pc := 11) (lv' := [(0, 2, 157), (1, 0, x2), (2, 0, (w32 (x3 + (-1))))]) hR [1, 2, 0] rfl ?_
      exact hh11 (x2, (w32 (x3 + (-1))), M4)
    · refine z_iload_n (pc := 23) hR 2 dX1_findRests_23 rfl rfl ?_
      refine z_istore_n (pc := 24) hR (lv' := [(1, 0, x3), (0, 2, 157), (2, 0, x3)]) dX1_findRests_24 rfl (by decide) rfl ?_
      refine z_aload_n (pc := 25) hR 1 dX1_findRests_25 rfl rfl ?_
      refine z_dup (pc := 26) hR dX1_findRests_26 (by decide) ?_
      refine z_geti (pc := 27) hR (j := 6) jf_RX1_76 kxo_157 (by decide) rfl rfl dX1_findRests_27 ?_
      refine z_iconst (pc := 30) hR dX1_findRests_30 rfl ?_
      refine z_iadd (pc := 31) hR dX1_findRests_31 ?_
      refine z_puti (pc := 32) hR (j := 6) jp_RX1_76 kxo_157 (by decide) rfl rfl rfl rfl dX1_findRests_32 (fun M6 => ?_)
      refine z_iinc (pc := 35) hR (j := 2) (lv' := [(2, 0, (w32 (x3 + (-1)))), (1, 0, x3), (0, 2, 157)]) dX1_findRests_35 rfl (by decide) rfl ?_
      refine z_goto (pc := 38) (tgt := 11) hR dX1_findRests_38 (by decide) ?_
      refine z_pick (pc := 11) (lv' := [(0, 2, 157), (1, 0, x3), (2, 0, (w32 (x3 + (-1))))]) hR [2, 1, 0] rfl ?_
      exact hh11 (x3, (w32 (x3 + (-1))), M6)
theorem dX11_rests_0 : decode cX11_rests 0 = .ok (.aload_n 0, 1) := by decide +kernel
theorem dX11_rests_1 : decode cX11_rests 1 = .ok (.iload_n 1, 1) := by decide +kernel
theorem dX11_rests_2 : decode cX11_rests 2 = .ok (.invokevirtual 162, 3) := by decide +kernel
theorem dX11_rests_5 : decode cX11_rests 5 = .ok (.ifCond .eq 16, 3) := by decide +kernel
theorem dX11_rests_8 : decode cX11_rests 8 = .ok (.aload_n 0, 1) := by decide +kernel
theorem dX11_rests_9 : decode cX11_rests 9 = .ok (.iload_n 2, 1) := by decide +kernel
theorem dX11_rests_10 : decode cX11_rests 10 = .ok (.invokevirtual 162, 3) := by decide +kernel
theorem dX11_rests_13 : decode cX11_rests 13 = .ok (.ifCond .eq 8, 3) := by decide +kernel
theorem dX11_rests_16 : decode cX11_rests 16 = .ok (.iload_n 1, 1) := by decide +kernel
theorem dX11_rests_17 : decode cX11_rests 17 = .ok (.iload_n 2, 1) := by decide +kernel
theorem dX11_rests_18 : decode cX11_rests 18 = .ok (.if_icmp .ne 5, 3) := by decide +kernel
theorem dX11_rests_21 : decode cX11_rests 21 = .ok (.iconst (-1), 1) := by decide +kernel
theorem dX11_rests_22 : decode cX11_rests 22 = .ok (.ireturn, 1) := by decide +kernel
theorem dX11_rests_23 : decode cX11_rests 23 = .ok (.iload_n 3, 1) := by decide +kernel
theorem dX11_rests_24 : decode cX11_rests 24 = .ok (.iconst 1, 1) := by decide +kernel
theorem dX11_rests_25 : decode cX11_rests 25 = .ok (.bipush 20, 2) := by decide +kernel
theorem dX11_rests_27 : decode cX11_rests 27 = .ok (.invokestatic 137, 3) := by decide +kernel
theorem dX11_rests_30 : decode cX11_rests 30 = .ok (.ifCond .eq 13, 3) := by decide +kernel
theorem dX11_rests_33 : decode cX11_rests 33 = .ok (.iload 4, 2) := by decide +kernel
theorem dX11_rests_35 : decode cX11_rests 35 = .ok (.iconst 0, 1) := by decide +kernel
theorem dX11_rests_36 : decode cX11_rests 36 = .ok (.iconst 2, 1) := by decide +kernel
theorem dX11_rests_37 : decode cX11_rests 37 = .ok (.invokestatic 137, 3) := by decide +kernel
theorem dX11_rests_40 : decode cX11_rests 40 = .ok (.ifCond .ne 5, 3) := by decide +kernel
theorem dX11_rests_43 : decode cX11_rests 43 = .ok (.iconst (-1), 1) := by decide +kernel
theorem dX11_rests_44 : decode cX11_rests 44 = .ok (.ireturn, 1) := by decide +kernel
theorem dX11_rests_45 : decode cX11_rests 45 = .ok (.aload_n 0, 1) := by decide +kernel
theorem dX11_rests_46 : decode cX11_rests 46 = .ok (.getfield 68, 3) := by decide +kernel
theorem dX11_rests_49 : decode cX11_rests 49 = .ok (.aload_n 0, 1) := by decide +kernel
theorem dX11_rests_50 : decode cX11_rests 50 = .ok (.getfield 43, 3) := by decide +kernel
theorem dX11_rests_53 : decode cX11_rests 53 = .ok (.aload_n 0, 1) := by decide +kernel
theorem dX11_rests_54 : decode cX11_rests 54 = .ok (.invokevirtual 215, 3) := by decide +kernel
theorem dX11_rests_57 : decode cX11_rests 57 = .ok (.iload_n 1, 1) := by decide +kernel
theorem dX11_rests_58 : decode cX11_rests 58 = .ok (.iload_n 2, 1) := by decide +kernel
theorem dX11_rests_59 : decode cX11_rests 59 = .ok (.iload_n 3, 1) := by decide +kernel
theorem dX11_rests_60 : decode cX11_rests 60 = .ok (.invokevirtual 291, 3) := by decide +kernel
theorem dX11_rests_63 : decode cX11_rests 63 = .ok (.aload_n 0, 1) := by decide +kernel
theorem dX11_rests_64 : decode cX11_rests 64 = .ok (.getfield 68, 3) := by decide +kernel
theorem dX11_rests_67 : decode cX11_rests 67 = .ok (.invokevirtual 295, 3) := by decide +kernel
theorem dX11_rests_70 : decode cX11_rests 70 = .ok (.istore 5, 2) := by decide +kernel
theorem dX11_rests_72 : decode cX11_rests 72 = .ok (.iload 4, 2) := by decide +kernel
theorem dX11_rests_74 : decode cX11_rests 74 = .ok (.ifCond .ne 11, 3) := by decide +kernel
theorem dX11_rests_77 : decode cX11_rests 77 = .ok (.aload_n 0, 1) := by decide +kernel
theorem dX11_rests_78 : decode cX11_rests 78 = .ok (.getfield 68, 3) := by decide +kernel
theorem dX11_rests_81 : decode cX11_rests 81 = .ok (.getfield 289, 3) := by decide +kernel
theorem dX11_rests_84 : decode cX11_rests 84 = .ok (.ireturn, 1) := by decide +kernel
theorem dX11_rests_85 : decode cX11_rests 85 = .ok (.iload 5, 2) := by decide +kernel
theorem dX11_rests_87 : decode cX11_rests 87 = .ok (.ifCond .ge 6, 3) := by decide +kernel
theorem dX11_rests_90 : decode cX11_rests 90 = .ok (.bipush (-2), 2) := by decide +kernel
theorem dX11_rests_92 : decode cX11_rests 92 = .ok (.ireturn, 1) := by decide +kernel
theorem dX11_rests_93 : decode cX11_rests 93 = .ok (.iload 4, 2) := by decide +kernel
theorem dX11_rests_95 : decode cX11_rests 95 = .ok (.iconst 1, 1) := by decide +kernel
theorem dX11_rests_96 : decode cX11_rests 96 = .ok (.if_icmp .ne 11, 3) := by decide +kernel
theorem dX11_rests_99 : decode cX11_rests 99 = .ok (.iload 5, 2) := by decide +kernel
theorem dX11_rests_101 : decode cX11_rests 101 = .ok (.bipush 6, 2) := by decide +kernel
theorem dX11_rests_103 : decode cX11_rests 103 = .ok (.idiv, 1) := by decide +kernel
theorem dX11_rests_104 : decode cX11_rests 104 = .ok (.goto 8, 3) := by decide +kernel
theorem dX11_rests_107 : decode cX11_rests 107 = .ok (.iload 5, 2) := by decide +kernel
theorem dX11_rests_109 : decode cX11_rests 109 = .ok (.bipush 6, 2) := by decide +kernel
theorem dX11_rests_111 : decode cX11_rests 111 = .ok (.irem, 1) := by decide +kernel
theorem dX11_rests_112 : decode cX11_rests 112 = .ok (.ireturn, 1) := by decide +kernel
def x_rests (N : Nat) (a1 a2 a3 a4 : Int) (M : jMem) : Option (Int × jMem) := (x_isFarm N a1 M).bind fun r1 => (if r1 = 0 then some ((-1), M) else (x_isFarm N a2 M).bind fun r2 => (if r2 = 0 then some ((-1), M) else (if a1 = a2 then some ((-1), M) else (x_isWithin N a3 1 20 M).bind fun r3 => (if r3 = 0 then some ((-1), M) else (x_isWithin N a4 0 2 M).bind fun r4 => (if r4 = 0 then some ((-1), M) else (x_ruleInForce N M).bind fun r5 => jchk (jnb jTX r5 5 = true) <| jbv (Fo_play N r5 a1 a2 a3 M) fun M7 => jb1 (Fo_findRests N M7) fun r8 M9 => (if a4 = 0 then some ((M9 157 6), M9) else (if r8 < 0 then some ((-2), M9) else (if a4 = 1 then some ((w32 (r8.tdiv 6)), M9) else some ((r8.tmod 6), M9)))))))))
theorem c_x_rests {l : Launch} {g : jG} (N : Nat) (a1 a2 a3 a4 : Int) (M : jMem)  : ∀ o, x_rests N a1 a2 a3 a4 M = some o → jCt l g jTX yX11_rests cX11_rests 6 (some .int) 0 13 [(2, 0), (0, a1), (0, a2), (0, a3), (0, a4)] M o := by
  refine jMet (own := RX11) (em := id) (L := [(0, 2, 0), (1, 0, a1), (2, 0, a2), (3, 0, a3), (4, 0, a4)]) (by decide +kernel) rfl (Nat.le_of_ble_eq_true rfl) rfl (fun K hR => ?_)
  unfold x_rests
  refine z_aload_n (pc := 0) hR 0 dX11_rests_0 rfl rfl ?_
  refine z_iload_n (pc := 1) hR 1 dX11_rests_1 rfl rfl ?_
  refine z_callvp (pc := 2) hR (As := [(0, a1)]) (st := []) jm_X11_isFarm jl_RX11_162 kxo_0 (by decide) rfl (by decide) (c_x_isFarm N a1 M) rfl (by decide) (by decide) rfl (Nat.le_of_ble_eq_true rfl) dX11_rests_2 (fun r1 => ?_)
  refine z_ifeq (pc := 5) (tgt := 21) hR dX11_rests_5 (by decide) ?_ ?_
  · refine z_iconst (pc := 21) hR dX11_rests_21 rfl ?_
    exact z_ireturn (pc := 22) hR rfl rfl dX11_rests_22 rfl
  · refine z_aload_n (pc := 8) hR 0 dX11_rests_8 rfl rfl ?_
    refine z_iload_n (pc := 9) hR 2 dX11_rests_9 rfl rfl ?_
    refine z_callvp (pc := 10) hR (As := [(0, a2)]) (st := []) jm_X11_isFarm jl_RX11_162 kxo_0 (by decide) rfl (by decide) (c_x_isFarm N a2 M) rfl (by decide) (by decide) rfl (Nat.le_of_ble_eq_true rfl) dX11_rests_10 (fun r2 => ?_)
    refine z_ifeq (pc := 13) (tgt := 21) hR dX11_rests_13 (by decide) ?_ ?_
    · refine z_iconst (pc := 21) hR dX11_rests_21 rfl ?_
      exact z_ireturn (pc := 22) hR rfl rfl dX11_rests_22 rfl
    · refine z_iload_n (pc := 16) hR 1 dX11_rests_16 rfl rfl ?_
      refine z_iload_n (pc := 17) hR 2 dX11_rests_17 rfl rfl ?_
      refine z_icmpne (pc := 18) (tgt := 23) hR dX11_rests_18 (by decide) ?_ ?_
      · refine z_iload_n (pc := 23) hR 3 dX11_rests_23 rfl rfl ?_
        refine z_iconst (pc := 24) hR dX11_rests_24 rfl ?_
        refine z_bipush (pc := 25) hR dX11_rests_25 rfl ?_
        refine z_callsp (pc := 27) hR (As := [(0, a3), (0, 1), (0, 20)]) (st := []) jm_X11_isWithin jl_RX11_137 (by decide) (c_x_isWithin N a3 1 20 M) rfl (by decide) (by decide) rfl (Nat.le_of_ble_eq_true rfl) dX11_rests_27 (fun r3 => ?_)
        refine z_ifeq (pc := 30) (tgt := 43) hR dX11_rests_30 (by decide) ?_ ?_
        · refine z_iconst (pc := 43) hR dX11_rests_43 rfl ?_
          exact z_ireturn (pc := 44) hR rfl rfl dX11_rests_44 rfl
        · refine z_iload (pc := 33) hR 4 dX11_rests_33 rfl ?_
          refine z_iconst (pc := 35) hR dX11_rests_35 rfl ?_
          refine z_iconst (pc := 36) hR dX11_rests_36 rfl ?_
          refine z_callsp (pc := 37) hR (As := [(0, a4), (0, 0), (0, 2)]) (st := []) jm_X11_isWithin jl_RX11_137 (by decide) (c_x_isWithin N a4 0 2 M) rfl (by decide) (by decide) rfl (Nat.le_of_ble_eq_true rfl) dX11_rests_37 (fun r4 => ?_)
          refine z_ifne (pc := 40) (tgt := 45) hR dX11_rests_40 (by decide) ?_ ?_
          · refine z_aload_n (pc := 45) hR 0 dX11_rests_45 rfl rfl ?_
            refine z_getr (pc := 46) hR (c0 := 157) (r := 157) jf_RX11_68 kxo_0 (by decide) rfl rfl dX11_rests_46 ?_
            refine z_aload_n (pc := 49) hR 0 dX11_rests_49 rfl rfl ?_
            refine z_getr (pc := 50) hR (c0 := 14) (r := 14) jf_RX11_43 kxo_0 (by decide) rfl rfl dX11_rests_50 ?_
            refine z_aload_n (pc := 53) hR 0 dX11_rests_53 rfl rfl ?_
            refine z_callvp (pc := 54) hR (As := []) (st := [(2, 14), (2, 157)]) jm_X11_ruleInForce jl_RX11_215 kxo_0 (by decide) rfl (by decide) (c_x_ruleInForce N M) rfl (by decide) (by decide) rfl (Nat.le_of_ble_eq_true rfl) dX11_rests_54 (fun r5 => ?_)
            refine z_chk (fun hc6 => ?_)
            refine z_iload_n (pc := 57) hR 1 dX11_rests_57 rfl rfl ?_
            refine z_iload_n (pc := 58) hR 2 dX11_rests_58 rfl rfl ?_
            refine z_iload_n (pc := 59) hR 3 dX11_rests_59 rfl rfl ?_
            refine z_callv0 (pc := 60) (rk' := 3) hR (As := [(2, 14), (2, r5), (0, a1), (0, a2), (0, a3)]) (st := []) jm_X1_play jl_RX11_291 kxo_157 (by decide) rfl (c_Fo_play N r5 a1 a2 a3 M (jnb_ok hc6)) rfl (by decide) (by decide) rfl (Nat.le_of_ble_eq_true rfl) dX11_rests_60 (fun M7 => ?_)
            refine z_aload_n (pc := 63) hR 0 dX11_rests_63 rfl rfl ?_
            refine z_getr (pc := 64) hR (c0 := 157) (r := 157) jf_RX11_68 kxo_0 (by decide) rfl rfl dX11_rests_64 ?_
            refine z_callv1 (pc := 67) hR (As := []) (st := []) jm_X1_findRests jl_RX11_295 kxo_157 (by decide) rfl (by decide) (c_Fo_findRests N M7) rfl (by decide) (by decide) rfl (Nat.le_of_ble_eq_true rfl) dX11_rests_67 (fun r8 M9 => ?_)
            refine z_istore (pc := 70) hR (lv' := [(5, 0, r8), (0, 2, 0), (1, 0, a1), (2, 0, a2), (3, 0, a3), (4, 0, a4)]) dX11_rests_70 (by decide) rfl ?_
            refine z_iload (pc := 72) hR 5 dX11_rests_72 rfl ?_
            refine z_ifne (pc := 74) (tgt := 85) hR dX11_rests_74 (by decide) ?_ ?_
            · refine z_iload (pc := 85) hR 0 dX11_rests_85 rfl ?_
              refine z_ifge (pc := 87) (tgt := 93) hR dX11_rests_87 (by decide) ?_ ?_
              · refine z_iload (pc := 93) hR 5 dX11_rests_93 rfl ?_
                refine z_iconst (pc := 95) hR dX11_rests_95 rfl ?_
                refine z_icmpne (pc := 96) (tgt := 107) hR dX11_rests_96 (by decide) ?_ ?_
                · refine z_iload (pc := 107) hR 0 dX11_rests_107 rfl ?_
                  refine z_bipush (pc := 109) hR dX11_rests_109 rfl ?_
                  refine z_irem (pc := 111) hR dX11_rests_111 (by decide) ?_
                  exact z_ireturn (pc := 112) hR rfl rfl dX11_rests_112 rfl
                · refine z_iload (pc := 99) hR 0 dX11_rests_99 rfl ?_
                  refine z_bipush (pc := 101) hR dX11_rests_101 rfl ?_
                  refine z_idiv (pc := 103) hR dX11_rests_103 (by decide) ?_
                  refine z_goto (pc := 104) (tgt := 112) hR dX11_rests_104 (by decide) ?_
                  exact z_ireturn (pc := 112) hR rfl rfl dX11_rests_112 rfl
              · refine z_bipush (pc := 90) hR dX11_rests_90 rfl ?_
                exact z_ireturn (pc := 92) hR rfl rfl dX11_rests_92 rfl
            · refine z_aload_n (pc := 77) hR 1 dX11_rests_77 rfl rfl ?_
              refine z_getr (pc := 78) hR (c0 := 157) (r := 157) jf_RX11_68 kxo_0 (by decide) rfl rfl dX11_rests_78 ?_
              refine z_geti (pc := 81) hR (j := 6) jf_RX11_289 kxo_157 (by decide) rfl rfl dX11_rests_81 ?_
              exact z_ireturn (pc := 84) hR rfl rfl dX11_rests_84 rfl
          · refine z_iconst (pc := 43) hR dX11_rests_43 rfl ?_
            exact z_ireturn (pc := 44) hR rfl rfl dX11_rests_44 rfl
      · refine z_iconst (pc := 21) hR dX11_rests_21 rfl ?_
        exact z_ireturn (pc := 22) hR rfl rfl dX11_rests_22 rfl
theorem dX7_penceOf_0 : decode cX7_penceOf 0 = .ok (.aload_n 0, 1) := by decide +kernel
theorem dX7_penceOf_1 : decode cX7_penceOf 1 = .ok (.invokevirtual 70, 3) := by decide +kernel
theorem dX7_penceOf_4 : decode cX7_penceOf 4 = .ok (.istore_n 3, 1) := by decide +kernel
theorem dX7_penceOf_5 : decode cX7_penceOf 5 = .ok (.iload_n 3, 1) := by decide +kernel
theorem dX7_penceOf_6 : decode cX7_penceOf 6 = .ok (.ifCond .gt 5, 3) := by decide +kernel
theorem dX7_penceOf_9 : decode cX7_penceOf 9 = .ok (.iconst 0, 1) := by decide +kernel
theorem dX7_penceOf_10 : decode cX7_penceOf 10 = .ok (.ireturn, 1) := by decide +kernel
theorem dX7_penceOf_11 : decode cX7_penceOf 11 = .ok (.iload_n 1, 1) := by decide +kernel
theorem dX7_penceOf_12 : decode cX7_penceOf 12 = .ok (.istore 4, 2) := by decide +kernel
theorem dX7_penceOf_14 : decode cX7_penceOf 14 = .ok (.iconst 0, 1) := by decide +kernel
theorem dX7_penceOf_15 : decode cX7_penceOf 15 = .ok (.istore 5, 2) := by decide +kernel
theorem dX7_penceOf_17 : decode cX7_penceOf 17 = .ok (.iload_n 1, 1) := by decide +kernel
theorem dX7_penceOf_18 : decode cX7_penceOf 18 = .ok (.aload_n 0, 1) := by decide +kernel
theorem dX7_penceOf_19 : decode cX7_penceOf 19 = .ok (.getfield 18, 3) := by decide +kernel
theorem dX7_penceOf_22 : decode cX7_penceOf 22 = .ok (.aload_n 0, 1) := by decide +kernel
theorem dX7_penceOf_23 : decode cX7_penceOf 23 = .ok (.getfield 21, 3) := by decide +kernel
theorem dX7_penceOf_26 : decode cX7_penceOf 26 = .ok (.iload_n 2, 1) := by decide +kernel
theorem dX7_penceOf_27 : decode cX7_penceOf 27 = .ok (.iaload, 1) := by decide +kernel
theorem dX7_penceOf_28 : decode cX7_penceOf 28 = .ok (.iaload, 1) := by decide +kernel
theorem dX7_penceOf_29 : decode cX7_penceOf 29 = .ok (.imul, 1) := by decide +kernel
theorem dX7_penceOf_30 : decode cX7_penceOf 30 = .ok (.iload_n 3, 1) := by decide +kernel
theorem dX7_penceOf_31 : decode cX7_penceOf 31 = .ok (.irem, 1) := by decide +kernel
theorem dX7_penceOf_32 : decode cX7_penceOf 32 = .ok (.istore 6, 2) := by decide +kernel
theorem dX7_penceOf_34 : decode cX7_penceOf 34 = .ok (.iconst 0, 1) := by decide +kernel
theorem dX7_penceOf_35 : decode cX7_penceOf 35 = .ok (.istore 7, 2) := by decide +kernel
theorem dX7_penceOf_37 : decode cX7_penceOf 37 = .ok (.iload 7, 2) := by decide +kernel
theorem dX7_penceOf_39 : decode cX7_penceOf 39 = .ok (.aload_n 0, 1) := by decide +kernel
theorem dX7_penceOf_40 : decode cX7_penceOf 40 = .ok (.getfield 27, 3) := by decide +kernel
theorem dX7_penceOf_43 : decode cX7_penceOf 43 = .ok (.if_icmp .ge 61, 3) := by decide +kernel
theorem dX7_penceOf_46 : decode cX7_penceOf 46 = .ok (.iload_n 1, 1) := by decide +kernel
theorem dX7_penceOf_47 : decode cX7_penceOf 47 = .ok (.aload_n 0, 1) := by decide +kernel
theorem dX7_penceOf_48 : decode cX7_penceOf 48 = .ok (.getfield 18, 3) := by decide +kernel
theorem dX7_penceOf_51 : decode cX7_penceOf 51 = .ok (.aload_n 0, 1) := by decide +kernel
theorem dX7_penceOf_52 : decode cX7_penceOf 52 = .ok (.getfield 21, 3) := by decide +kernel
theorem dX7_penceOf_55 : decode cX7_penceOf 55 = .ok (.iload 7, 2) := by decide +kernel
theorem dX7_penceOf_57 : decode cX7_penceOf 57 = .ok (.iaload, 1) := by decide +kernel
theorem dX7_penceOf_58 : decode cX7_penceOf 58 = .ok (.iaload, 1) := by decide +kernel
theorem dX7_penceOf_59 : decode cX7_penceOf 59 = .ok (.imul, 1) := by decide +kernel
theorem dX7_penceOf_60 : decode cX7_penceOf 60 = .ok (.istore 8, 2) := by decide +kernel
theorem dX7_penceOf_62 : decode cX7_penceOf 62 = .ok (.iload 4, 2) := by decide +kernel
theorem dX7_penceOf_64 : decode cX7_penceOf 64 = .ok (.iload 8, 2) := by decide +kernel
theorem dX7_penceOf_66 : decode cX7_penceOf 66 = .ok (.iload_n 3, 1) := by decide +kernel
theorem dX7_penceOf_67 : decode cX7_penceOf 67 = .ok (.idiv, 1) := by decide +kernel
theorem dX7_penceOf_68 : decode cX7_penceOf 68 = .ok (.isub, 1) := by decide +kernel
theorem dX7_penceOf_69 : decode cX7_penceOf 69 = .ok (.istore 4, 2) := by decide +kernel
theorem dX7_penceOf_71 : decode cX7_penceOf 71 = .ok (.iload 8, 2) := by decide +kernel
theorem dX7_penceOf_73 : decode cX7_penceOf 73 = .ok (.iload_n 3, 1) := by decide +kernel
theorem dX7_penceOf_74 : decode cX7_penceOf 74 = .ok (.irem, 1) := by decide +kernel
theorem dX7_penceOf_75 : decode cX7_penceOf 75 = .ok (.iload 6, 2) := by decide +kernel
theorem dX7_penceOf_77 : decode cX7_penceOf 77 = .ok (.if_icmp .gt 18, 3) := by decide +kernel
theorem dX7_penceOf_80 : decode cX7_penceOf 80 = .ok (.iload 8, 2) := by decide +kernel
theorem dX7_penceOf_82 : decode cX7_penceOf 82 = .ok (.iload_n 3, 1) := by decide +kernel
theorem dX7_penceOf_83 : decode cX7_penceOf 83 = .ok (.irem, 1) := by decide +kernel
theorem dX7_penceOf_84 : decode cX7_penceOf 84 = .ok (.iload 6, 2) := by decide +kernel
theorem dX7_penceOf_86 : decode cX7_penceOf 86 = .ok (.if_icmp .ne 12, 3) := by decide +kernel
theorem dX7_penceOf_89 : decode cX7_penceOf 89 = .ok (.iload 7, 2) := by decide +kernel
theorem dX7_penceOf_91 : decode cX7_penceOf 91 = .ok (.iload_n 2, 1) := by decide +kernel
theorem dX7_penceOf_92 : decode cX7_penceOf 92 = .ok (.if_icmp .ge 6, 3) := by decide +kernel
theorem dX7_penceOf_95 : decode cX7_penceOf 95 = .ok (.iinc 5 1, 3) := by decide +kernel
theorem dX7_penceOf_98 : decode cX7_penceOf 98 = .ok (.iinc 7 1, 3) := by decide +kernel
theorem dX7_penceOf_101 : decode cX7_penceOf 101 = .ok (.goto (-64), 3) := by decide +kernel
theorem dX7_penceOf_104 : decode cX7_penceOf 104 = .ok (.iload_n 1, 1) := by decide +kernel
theorem dX7_penceOf_105 : decode cX7_penceOf 105 = .ok (.aload_n 0, 1) := by decide +kernel
theorem dX7_penceOf_106 : decode cX7_penceOf 106 = .ok (.getfield 18, 3) := by decide +kernel
theorem dX7_penceOf_109 : decode cX7_penceOf 109 = .ok (.aload_n 0, 1) := by decide +kernel
theorem dX7_penceOf_110 : decode cX7_penceOf 110 = .ok (.getfield 21, 3) := by decide +kernel
theorem dX7_penceOf_113 : decode cX7_penceOf 113 = .ok (.iload_n 2, 1) := by decide +kernel
theorem dX7_penceOf_114 : decode cX7_penceOf 114 = .ok (.iaload, 1) := by decide +kernel
theorem dX7_penceOf_115 : decode cX7_penceOf 115 = .ok (.iaload, 1) := by decide +kernel
theorem dX7_penceOf_116 : decode cX7_penceOf 116 = .ok (.imul, 1) := by decide +kernel
theorem dX7_penceOf_117 : decode cX7_penceOf 117 = .ok (.iload_n 3, 1) := by decide +kernel
theorem dX7_penceOf_118 : decode cX7_penceOf 118 = .ok (.idiv, 1) := by decide +kernel
theorem dX7_penceOf_119 : decode cX7_penceOf 119 = .ok (.istore 7, 2) := by decide +kernel
theorem dX7_penceOf_121 : decode cX7_penceOf 121 = .ok (.iload 5, 2) := by decide +kernel
theorem dX7_penceOf_123 : decode cX7_penceOf 123 = .ok (.iload 4, 2) := by decide +kernel
theorem dX7_penceOf_125 : decode cX7_penceOf 125 = .ok (.if_icmp .ge 10, 3) := by decide +kernel
theorem dX7_penceOf_128 : decode cX7_penceOf 128 = .ok (.iload 7, 2) := by decide +kernel
theorem dX7_penceOf_130 : decode cX7_penceOf 130 = .ok (.iconst 1, 1) := by decide +kernel
theorem dX7_penceOf_131 : decode cX7_penceOf 131 = .ok (.iadd, 1) := by decide +kernel
theorem dX7_penceOf_132 : decode cX7_penceOf 132 = .ok (.goto 5, 3) := by decide +kernel
theorem dX7_penceOf_135 : decode cX7_penceOf 135 = .ok (.iload 7, 2) := by decide +kernel
theorem dX7_penceOf_137 : decode cX7_penceOf 137 = .ok (.ireturn, 1) := by decide +kernel
def St_penceOf_L37 (N : Nat) (q : Int) (a1 : Int) (a2 : Int) (M : jMem) (r1 : Int) (v5 : Int) (h37 : (Int × Int × Int) → Option Int) : Int × Int × Int → Option Int
  | (x6, x7, x8) => (if x8 < (M q 0) then jchk (0 ≤ x8 ∧ x8 < 7) <| jchk (0 ≤ (M ((q + 4)) x8) ∧ (M ((q + 4)) x8) < 7) <| jlt ((w32 (a1 * ((M ((q + 3)) ((M ((q + 4)) x8))))))) fun v15 => jchk (r1 ≠ 0) <| jlt ((w32 (x6 - ((w32 (v15.tdiv r1)))))) fun v17 => jchk (r1 ≠ 0) <| (if v5 < (v15.tmod r1) then h37 (v17, (w32 (x7 + 1)), (w32 (x8 + 1))) else jchk (r1 ≠ 0) <| (if (v15.tmod r1) = v5 then (if x8 < a2 then h37 (v17, (w32 (x7 + 1)), (w32 (x8 + 1))) else h37 (v17, x7, (w32 (x8 + 1)))) else h37 (v17, x7, (w32 (x8 + 1))))) else jchk (0 ≤ a2 ∧ a2 < 7) <| jchk (0 ≤ (M ((q + 4)) a2) ∧ (M ((q + 4)) a2) < 7) <| jchk (r1 ≠ 0) <| jlt ((w32 (((w32 (a1 * ((M ((q + 3)) ((M ((q + 4)) a2))))))).tdiv r1))) fun v12 => (if x7 < x6 then some ((w32 (v12 + 1))) else some v12))
def St_penceOf (N : Nat) (q a1 a2 : Int) (M : jMem) : Option Int := (St_waterOfAll N q M).bind fun r1 => (if 0 < r1 then jchk (0 ≤ a2 ∧ a2 < 7) <| jchk (0 ≤ (M ((q + 4)) a2) ∧ (M ((q + 4)) a2) < 7) <| jchk (r1 ≠ 0) <| jlt ((((w32 (a1 * ((M ((q + 3)) ((M ((q + 4)) a2))))))).tmod r1)) fun v5 => jfix N (St_penceOf_L37 N q a1 a2 M r1 v5) (a1, 0, 0) else some 0)
theorem c_St_penceOf {l : Launch} {g : jG} (N : Nat) (q a1 a2 : Int) (M : jMem) (hq : jk jTX q 7) : ∀ o, St_penceOf N q a1 a2 M = some o → jCt l g jTX yX7_penceOf cX7_penceOf 9 (some .int) 0 3 [(2, q), (0, a1), (0, a2)] M (o, M) := by
  refine jMet (own := RX7) (em := (fun r => (r, M))) (L := [(0, 2, q), (1, 0, a1), (2, 0, a2)]) (by decide +kernel) rfl (Nat.le_of_ble_eq_true rfl) rfl (fun K hR => ?_)
  unfold St_penceOf
  refine z_aload_n (pc := 0) hR 0 dX7_penceOf_0 rfl rfl ?_
  refine z_callvp (pc := 1) hR (As := []) (st := []) jm_X7_waterOfAll jl_RX7_70 hq (by decide) rfl (by decide) (c_St_waterOfAll N q M hq) rfl (by decide) (by decide) rfl (Nat.le_of_ble_eq_true rfl) dX7_penceOf_1 (fun r1 => ?_)
  refine z_istore_n (pc := 4) hR (lv' := [(3, 0, r1), (0, 2, q), (1, 0, a1), (2, 0, a2)]) dX7_penceOf_4 rfl (by decide) rfl ?_
  refine z_iload_n (pc := 5) hR 0 dX7_penceOf_5 rfl rfl ?_
  refine z_ifgt (pc := 6) (tgt := 11) hR dX7_penceOf_6 (by decide) ?_ ?_
  · refine z_iload_n (pc := 11) hR 2 dX7_penceOf_11 rfl rfl ?_
    refine z_istore (pc := 12) hR (lv' := [(4, 0, a1), (3, 0, r1), (0, 2, q), (1, 0, a1), (2, 0, a2)]) dX7_penceOf_12 (by decide) rfl ?_
    refine z_iconst (pc := 14) hR dX7_penceOf_14 rfl ?_
    refine z_istore (pc := 15) hR (lv' := [(5, 0, 0), (4, 0, a1), (3, 0, r1), (0, 2, q), (1, 0, a1), (2, 0, a2)]) dX7_penceOf_15 (by decide) rfl ?_
    refine z_iload_n (pc := 17) hR 4 dX7_penceOf_17 rfl rfl ?_
    refine z_aload_n (pc := 18) hR 3 dX7_penceOf_18 rfl rfl ?_
    refine z_getr (pc := 19) hR (c0 := 3) (r := (q + 3)) jf_RX7_18 hq (by decide) rfl rfl dX7_penceOf_19 ?_
    refine z_aload_n (pc := 22) hR 3 dX7_penceOf_22 rfl rfl ?_
    refine z_getr (pc := 23) hR (c0 := 4) (r := (q + 4)) jf_RX7_21 hq (by decide) rfl rfl dX7_penceOf_23 ?_
    refine z_iload_n (pc := 26) hR 5 dX7_penceOf_26 rfl rfl ?_
    refine z_chk (fun hc2 => ?_)
    refine z_iald (pc := 27) hR (n := 7) (kf_7_has hq) hc2.1 hc2.2 dX7_penceOf_27 ?_
    refine z_chk (fun hc3 => ?_)
    refine z_iald (pc := 28) hR (n := 7) (kf_7_water hq) hc3.1 hc3.2 dX7_penceOf_28 ?_
    refine z_imul (pc := 29) hR dX7_penceOf_29 ?_
    refine z_iload_n (pc := 30) hR 2 dX7_penceOf_30 rfl rfl ?_
    refine z_chk (fun hc4 => ?_)
    refine z_irem (pc := 31) hR dX7_penceOf_31 hc4 ?_
    refine z_let1 (fun v5 => ?_)
    refine z_istore (pc := 32) hR (lv' := [(6, 0, v5), (5, 0, 0), (4, 0, a1), (3, 0, r1), (0, 2, q), (1, 0, a1), (2, 0, a2)]) dX7_penceOf_32 (by decide) rfl ?_
    refine z_iconst (pc := 34) hR dX7_penceOf_34 rfl ?_
    refine z_istore (pc := 35) hR (lv' := [(7, 0, 0), (6, 0, v5), (5, 0, 0), (4, 0, a1), (3, 0, r1), (0, 2, q), (1, 0, a1), (2, 0, a2)]) dX7_penceOf_35 (by decide) rfl ?_
    refine z_pick (pc := 37) (lv' := [(0, 2, q), (1, 0, a1), (2, 0, a2), (3, 0, r1), (4, 0, a1), (5, 0, 0), (6, 0, v5), (7, 0, 0)]) hR [5, 6, 7, 4, 3, 2, 1, 0] rfl ?_
    refine z_fix (σ := Int × Int × Int) (lv := fun s => [(0, 2, q), (1, 0, a1), (2, 0, a2), (3, 0, r1), (4, 0, s.1), (5, 0, s.2.1), (6, 0, v5), (7, 0, s.2.2)]) (st := fun _ => []) (M := fun _ => M) (fun h37 hh37 => ?_) N (a1, 0, 0)
    rintro ⟨x6, x7, x8⟩
    show jZ K (fun r => (r, M)) 37 [(0, 2, q), (1, 0, a1), (2, 0, a2), (3, 0, r1), (4, 0, x6), (5, 0, x7), (6, 0, v5), (7, 0, x8)] [] M _
    unfold St_penceOf_L37
    refine z_iload (pc := 37) hR 7 dX7_penceOf_37 rfl ?_
    refine z_aload_n (pc := 39) hR 0 dX7_penceOf_39 rfl rfl ?_
    refine z_geti (pc := 40) hR (j := 0) jf_RX7_27 hq (by decide) rfl rfl dX7_penceOf_40 ?_
    refine z_icmpge (pc := 43) (tgt := 104) hR dX7_penceOf_43 (by decide) ?_ ?_
    · refine z_iload_n (pc := 104) hR 1 dX7_penceOf_104 rfl rfl ?_
      refine z_aload_n (pc := 105) hR 0 dX7_penceOf_105 rfl rfl ?_
      refine z_getr (pc := 106) hR (c0 := 3) (r := (q + 3)) jf_RX7_18 hq (by decide) rfl rfl dX7_penceOf_106 ?_
      refine z_aload_n (pc := 109) hR 0 dX7_penceOf_109 rfl rfl ?_
      refine z_getr (pc := 110) hR (c0 := 4) (r := (q + 4)) jf_RX7_21 hq (by decide) rfl rfl dX7_penceOf_110 ?_
      refine z_iload_n (pc := 113) hR 2 dX7_penceOf_113 rfl rfl ?_
      refine z_chk (fun hc9 => ?_)
      refine z_iald (pc := 114) hR (n := 7) (kf_7_has hq) hc9.1 hc9.2 dX7_penceOf_114 ?_
      refine z_chk (fun hc10 => ?_)
      refine z_iald (pc := 115) hR (n := 7) (kf_7_water hq) hc10.1 hc10.2 dX7_penceOf_115 ?_
      refine z_imul (pc := 116) hR dX7_penceOf_116 ?_
      refine z_iload_n (pc := 117) hR 3 dX7_penceOf_117 rfl rfl ?_
      refine z_chk (fun hc11 => ?_)
      refine z_idiv (pc := 118) hR dX7_penceOf_118 hc11 ?_
      refine z_let1 (fun v12 => ?_)
      refine z_istore (pc := 119) hR (lv' := [(7, 0, v12), (0, 2, q), (1, 0, a1), (2, 0, a2), (3, 0, r1), (4, 0, x6), (5, 0, x7), (6, 0, v5)]) dX7_penceOf_119 (by decide) rfl ?_
      refine z_iload (pc := 121) hR 6 dX7_penceOf_121 rfl ?_
      refine z_iload (pc := 123) hR 5 dX7_penceOf_123 rfl ?_
      refine z_icmpge (pc := 125) (tgt := 135) hR dX7_penceOf_125 (by decide) ?_ ?_
      · refine z_iload (pc := 135) hR 0 dX7_penceOf_135 rfl ?_
        exact z_ireturn (pc := 137) hR rfl rfl dX7_penceOf_137 rfl
      · refine z_iload (pc := 128) hR 0 dX7_penceOf_128 rfl ?_
        refine z_iconst (pc := 130) hR dX7_penceOf_130 rfl ?_
        refine z_iadd (pc := 131) hR dX7_penceOf_131 ?_
        refine z_goto (pc := 132) (tgt := 137) hR dX7_penceOf_132 (by decide) ?_
        exact z_ireturn (pc := 137) hR rfl rfl dX7_penceOf_137 rfl
    · refine z_iload_n (pc := 46) hR 1 dX7_penceOf_46 rfl rfl ?_
      refine z_aload_n (pc := 47) hR 0 dX7_penceOf_47 rfl rfl ?_
      refine z_getr (pc := 48) hR (c0 := 3) (r := (q + 3)) jf_RX7_18 hq (by decide) rfl rfl dX7_penceOf_48 ?_
      refine z_aload_n (pc := 51) hR 0 dX7_penceOf_51 rfl rfl ?_
      refine z_getr (pc := 52) hR (c0 := 4) (r := (q + 4)) jf_RX7_21 hq (by decide) rfl rfl dX7_penceOf_52 ?_
      refine z_iload (pc := 55) hR 7 dX7_penceOf_55 rfl ?_
      refine z_chk (fun hc13 => ?_)
      refine z_iald (pc := 57) hR (n := 7) (kf_7_has hq) hc13.1 hc13.2 dX7_penceOf_57 ?_
      refine z_chk (fun hc14 => ?_)
      refine z_iald (pc := 58) hR (n := 7) (kf_7_water hq) hc14.1 hc14.2 dX7_penceOf_58 ?_
      refine z_imul (pc := 59) hR dX7_penceOf_59 ?_
      refine z_let1 (fun v15 => ?_)
      refine z_istore (pc := 60) hR (lv' := [(8, 0, v15), (0, 2, q), (1, 0, a1), (2, 0, a2), (3, 0, r1), (4, 0, x6), (5, 0, x7), (6, 0, v5), (7, 0, x8)]) dX7_penceOf_60 (by decide) rfl ?_
      refine z_iload (pc := 62) hR 5 dX7_penceOf_62 rfl ?_
      refine z_iload (pc := 64) hR 0 dX7_penceOf_64 rfl ?_
      refine z_iload_n (pc := 66) hR 4 dX7_penceOf_66 rfl rfl ?_
      refine z_chk (fun hc16 => ?_)
      refine z_idiv (pc := 67) hR dX7_penceOf_67 hc16 ?_
      refine z_isub (pc := 68) hR dX7_penceOf_68 ?_
      refine z_let1 (fun v17 => ?_)
      refine z_istore (pc := 69) hR (lv' := [(4, 0, v17), (8, 0, v15), (0, 2, q), (1, 0, a1), (2, 0, a2), (3, 0, r1), (5, 0, x7), (6, 0, v5), (7, 0, x8)]) dX7_penceOf_69 (by decide) rfl ?_
      refine z_iload (pc := 71) hR 1 dX7_penceOf_71 rfl ?_
      refine z_iload_n (pc := 73) hR 5 dX7_penceOf_73 rfl rfl ?_
      refine z_chk (fun hc18 => ?_)
      refine z_irem (pc := 74) hR dX7_penceOf_74 hc18 ?_
      refine z_iload (pc := 75) hR 7 dX7_penceOf_75 rfl ?_
      refine z_icmpgt (pc := 77) (tgt := 95) hR dX7_penceOf_77 (by decide) ?_ ?_
      · refine z_iinc (pc := 95) hR (j := 6) (lv' := [(5, 0, (w32 (x7 + 1))), (4, 0, v17), (8, 0, v15), (0, 2, q), (1, 0, a1), (2, 0, a2), (3, 0, r1), (6, 0, v5), (7, 0, x8)]) dX7_penceOf_95 rfl (by decide) rfl ?_
        refine z_iinc (pc := 98) hR (j := 8) (lv' := [(7, 0, (w32 (x8 + 1))), (5, 0, (w32 (x7 + 1))), (4, 0, v17), (8, 0, v15), (0, 2, q), (1, 0, a1), (2, 0, a2), (3, 0, r1), (6, 0, v5)]) dX7_penceOf_98 rfl (by decide) rfl ?_
        refine z_goto (pc := 101) (tgt := 37) hR dX7_penceOf_101 (by decide) ?_
        refine z_pick (pc := 37) (lv' := [(0, 2, q), (1, 0, a1), (2, 0, a2), (3, 0, r1), (4, 0, v17), (5, 0, (w32 (x7 + 1))), (6, 0, v5), (7, 0, (w32 (x8 + 1)))]) hR [4, 5, 6, 7, 2, 1, 8, 0] rfl ?_
        exact hh37 (v17, (w32 (x7 + 1)), (w32 (x8 + 1)))
      · refine z_iload (pc := 80) hR 1 dX7_penceOf_80 rfl ?_
        refine z_iload_n (pc := 82) hR 5 dX7_penceOf_82 rfl rfl ?_
        refine z_chk (fun hc19 => ?_)
        refine z_irem (pc := 83) hR dX7_penceOf_83 hc19 ?_
        refine z_iload (pc := 84) hR 7 dX7_penceOf_84 rfl ?_
        refine z_icmpne (pc := 86) (tgt := 98) hR dX7_penceOf_86 (by decide) ?_ ?_
        · refine z_iinc (pc := 98) hR (j := 8) (lv' := [(7, 0, (w32 (x8 + 1))), (4, 0, v17), (8, 0, v15), (0, 2, q), (1, 0, a1), (2, 0, a2), (3, 0, r1), (5, 0, x7), (6, 0, v5)]) dX7_penceOf_98 rfl (by decide) rfl ?_
          refine z_goto (pc := 101) (tgt := 37) hR dX7_penceOf_101 (by decide) ?_
          refine z_pick (pc := 37) (lv' := [(0, 2, q), (1, 0, a1), (2, 0, a2), (3, 0, r1), (4, 0, v17), (5, 0, x7), (6, 0, v5), (7, 0, (w32 (x8 + 1)))]) hR [3, 4, 5, 6, 1, 7, 8, 0] rfl ?_
          exact hh37 (v17, x7, (w32 (x8 + 1)))
        · refine z_iload (pc := 89) hR 8 dX7_penceOf_89 rfl ?_
          refine z_iload_n (pc := 91) hR 4 dX7_penceOf_91 rfl rfl ?_
          refine z_icmpge (pc := 92) (tgt := 98) hR dX7_penceOf_92 (by decide) ?_ ?_
          · refine z_iinc (pc := 98) hR (j := 8) (lv' := [(7, 0, (w32 (x8 + 1))), (4, 0, v17), (8, 0, v15), (0, 2, q), (1, 0, a1), (2, 0, a2), (3, 0, r1), (5, 0, x7), (6, 0, v5)]) dX7_penceOf_98 rfl (by decide) rfl ?_
            refine z_goto (pc := 101) (tgt := 37) hR dX7_penceOf_101 (by decide) ?_
            refine z_pick (pc := 37) (lv' := [(0, 2, q), (1, 0, a1), (2, 0, a2), (3, 0, r1), (4, 0, v17), (5, 0, x7), (6, 0, v5), (7, 0, (w32 (x8 + 1)))]) hR [3, 4, 5, 6, 1, 7, 8, 0] rfl ?_
            exact hh37 (v17, x7, (w32 (x8 + 1)))
          · refine z_iinc (pc := 95) hR (j := 6) (lv' := [(5, 0, (w32 (x7 + 1))), (4, 0, v17), (8, 0, v15), (0, 2, q), (1, 0, a1), (2, 0, a2), (3, 0, r1), (6, 0, v5), (7, 0, x8)]) dX7_penceOf_95 rfl (by decide) rfl ?_
            refine z_iinc (pc := 98) hR (j := 8) (lv' := [(7, 0, (w32 (x8 + 1))), (5, 0, (w32 (x7 + 1))), (4, 0, v17), (8, 0, v15), (0, 2, q), (1, 0, a1), (2, 0, a2), (3, 0, r1), (6, 0, v5)]) dX7_penceOf_98 rfl (by decide) rfl ?_
            refine z_goto (pc := 101) (tgt := 37) hR dX7_penceOf_101 (by decide) ?_
            refine z_pick (pc := 37) (lv' := [(0, 2, q), (1, 0, a1), (2, 0, a2), (3, 0, r1), (4, 0, v17), (5, 0, (w32 (x7 + 1))), (6, 0, v5), (7, 0, (w32 (x8 + 1)))]) hR [4, 5, 6, 7, 2, 1, 8, 0] rfl ?_
            exact hh37 (v17, (w32 (x7 + 1)), (w32 (x8 + 1)))
  · refine z_iconst (pc := 9) hR dX7_penceOf_9 rfl ?_
    exact z_ireturn (pc := 10) hR rfl rfl dX7_penceOf_10 rfl
theorem dX11_pence_0 : decode cX11_pence 0 = .ok (.iload_n 1, 1) := by decide +kernel
theorem dX11_pence_1 : decode cX11_pence 1 = .ok (.iconst 0, 1) := by decide +kernel
theorem dX11_pence_2 : decode cX11_pence 2 = .ok (.sipush 9999, 3) := by decide +kernel
theorem dX11_pence_5 : decode cX11_pence 5 = .ok (.invokestatic 137, 3) := by decide +kernel
theorem dX11_pence_8 : decode cX11_pence 8 = .ok (.ifCond .eq 11, 3) := by decide +kernel
theorem dX11_pence_11 : decode cX11_pence 11 = .ok (.aload_n 0, 1) := by decide +kernel
theorem dX11_pence_12 : decode cX11_pence 12 = .ok (.iload_n 2, 1) := by decide +kernel
theorem dX11_pence_13 : decode cX11_pence 13 = .ok (.invokevirtual 162, 3) := by decide +kernel
theorem dX11_pence_16 : decode cX11_pence 16 = .ok (.ifCond .ne 5, 3) := by decide +kernel
theorem dX11_pence_19 : decode cX11_pence 19 = .ok (.iconst (-1), 1) := by decide +kernel
theorem dX11_pence_20 : decode cX11_pence 20 = .ok (.ireturn, 1) := by decide +kernel
theorem dX11_pence_21 : decode cX11_pence 21 = .ok (.aload_n 0, 1) := by decide +kernel
theorem dX11_pence_22 : decode cX11_pence 22 = .ok (.getfield 43, 3) := by decide +kernel
theorem dX11_pence_25 : decode cX11_pence 25 = .ok (.getfield 102, 3) := by decide +kernel
theorem dX11_pence_28 : decode cX11_pence 28 = .ok (.iload_n 1, 1) := by decide +kernel
theorem dX11_pence_29 : decode cX11_pence 29 = .ok (.iload_n 2, 1) := by decide +kernel
theorem dX11_pence_30 : decode cX11_pence 30 = .ok (.invokevirtual 298, 3) := by decide +kernel
theorem dX11_pence_33 : decode cX11_pence 33 = .ok (.ireturn, 1) := by decide +kernel
def x_pence (N : Nat) (a1 a2 : Int) (M : jMem) : Option Int := (x_isWithin N a1 0 9999 M).bind fun r1 => (if r1 = 0 then some ((-1)) else (x_isFarm N a2 M).bind fun r2 => (if r2 = 0 then some ((-1)) else (St_penceOf N 21 a1 a2 M).bind fun r3 => some r3))
theorem c_x_pence {l : Launch} {g : jG} (N : Nat) (a1 a2 : Int) (M : jMem)  : ∀ o, x_pence N a1 a2 M = some o → jCt l g jTX yX11_pence cX11_pence 3 (some .int) 0 5 [(2, 0), (0, a1), (0, a2)] M (o, M) := by
  refine jMet (own := RX11) (em := (fun r => (r, M))) (L := [(0, 2, 0), (1, 0, a1), (2, 0, a2)]) (by decide +kernel) rfl (Nat.le_of_ble_eq_true rfl) rfl (fun K hR => ?_)
  unfold x_pence
  refine z_iload_n (pc := 0) hR 1 dX11_pence_0 rfl rfl ?_
  refine z_iconst (pc := 1) hR dX11_pence_1 rfl ?_
  refine z_sipush (pc := 2) hR dX11_pence_2 rfl ?_
  refine z_callsp (pc := 5) hR (As := [(0, a1), (0, 0), (0, 9999)]) (st := []) jm_X11_isWithin jl_RX11_137 (by decide) (c_x_isWithin N a1 0 9999 M) rfl (by decide) (by decide) rfl (Nat.le_of_ble_eq_true rfl) dX11_pence_5 (fun r1 => ?_)
  refine z_ifeq (pc := 8) (tgt := 19) hR dX11_pence_8 (by decide) ?_ ?_
  · refine z_iconst (pc := 19) hR dX11_pence_19 rfl ?_
    exact z_ireturn (pc := 20) hR rfl rfl dX11_pence_20 rfl
  · refine z_aload_n (pc := 11) hR 0 dX11_pence_11 rfl rfl ?_
    refine z_iload_n (pc := 12) hR 2 dX11_pence_12 rfl rfl ?_
    refine z_callvp (pc := 13) hR (As := [(0, a2)]) (st := []) jm_X11_isFarm jl_RX11_162 kxo_0 (by decide) rfl (by decide) (c_x_isFarm N a2 M) rfl (by decide) (by decide) rfl (Nat.le_of_ble_eq_true rfl) dX11_pence_13 (fun r2 => ?_)
    refine z_ifne (pc := 16) (tgt := 21) hR dX11_pence_16 (by decide) ?_ ?_
    · refine z_aload_n (pc := 21) hR 0 dX11_pence_21 rfl rfl ?_
      refine z_getr (pc := 22) hR (c0 := 14) (r := 14) jf_RX11_43 kxo_0 (by decide) rfl rfl dX11_pence_22 ?_
      refine z_getr (pc := 25) hR (c0 := 7) (r := 21) jf_RX11_102 kxo_14 (by decide) rfl rfl dX11_pence_25 ?_
      refine z_iload_n (pc := 28) hR 1 dX11_pence_28 rfl rfl ?_
      refine z_iload_n (pc := 29) hR 2 dX11_pence_29 rfl rfl ?_
      refine z_callvp (pc := 30) hR (As := [(0, a1), (0, a2)]) (st := []) jm_X7_penceOf jl_RX11_298 kxo_21 (by decide) rfl (by decide) (c_St_penceOf N 21 a1 a2 M kxo_21) rfl (by decide) (by decide) rfl (Nat.le_of_ble_eq_true rfl) dX11_pence_30 (fun r3 => ?_)
      exact z_ireturn (pc := 33) hR rfl rfl dX11_pence_33 rfl
    · refine z_iconst (pc := 19) hR dX11_pence_19 rfl ?_
      exact z_ireturn (pc := 20) hR rfl rfl dX11_pence_20 rfl
theorem dX3_add_0 : decode cX3_add 0 = .ok (.aload_n 0, 1) := by decide +kernel
theorem dX3_add_1 : decode cX3_add 1 = .ok (.getfield 21, 3) := by decide +kernel
theorem dX3_add_4 : decode cX3_add 4 = .ok (.bipush 10, 2) := by decide +kernel
theorem dX3_add_6 : decode cX3_add 6 = .ok (.if_icmp .lt 5, 3) := by decide +kernel
theorem dX3_add_9 : decode cX3_add 9 = .ok (.iconst 0, 1) := by decide +kernel
theorem dX3_add_10 : decode cX3_add 10 = .ok (.ireturn, 1) := by decide +kernel
theorem dX3_add_11 : decode cX3_add 11 = .ok (.aload_n 0, 1) := by decide +kernel
theorem dX3_add_12 : decode cX3_add 12 = .ok (.getfield 9, 3) := by decide +kernel
theorem dX3_add_15 : decode cX3_add 15 = .ok (.aload_n 0, 1) := by decide +kernel
theorem dX3_add_16 : decode cX3_add 16 = .ok (.getfield 21, 3) := by decide +kernel
theorem dX3_add_19 : decode cX3_add 19 = .ok (.iload_n 1, 1) := by decide +kernel
theorem dX3_add_20 : decode cX3_add 20 = .ok (.iastore, 1) := by decide +kernel
theorem dX3_add_21 : decode cX3_add 21 = .ok (.aload_n 0, 1) := by decide +kernel
theorem dX3_add_22 : decode cX3_add 22 = .ok (.getfield 15, 3) := by decide +kernel
theorem dX3_add_25 : decode cX3_add 25 = .ok (.aload_n 0, 1) := by decide +kernel
theorem dX3_add_26 : decode cX3_add 26 = .ok (.getfield 21, 3) := by decide +kernel
theorem dX3_add_29 : decode cX3_add 29 = .ok (.iload_n 2, 1) := by decide +kernel
theorem dX3_add_30 : decode cX3_add 30 = .ok (.iastore, 1) := by decide +kernel
theorem dX3_add_31 : decode cX3_add 31 = .ok (.aload_n 0, 1) := by decide +kernel
theorem dX3_add_32 : decode cX3_add 32 = .ok (.getfield 18, 3) := by decide +kernel
theorem dX3_add_35 : decode cX3_add 35 = .ok (.aload_n 0, 1) := by decide +kernel
theorem dX3_add_36 : decode cX3_add 36 = .ok (.getfield 21, 3) := by decide +kernel
theorem dX3_add_39 : decode cX3_add 39 = .ok (.iload_n 3, 1) := by decide +kernel
theorem dX3_add_40 : decode cX3_add 40 = .ok (.iastore, 1) := by decide +kernel
theorem dX3_add_41 : decode cX3_add 41 = .ok (.aload_n 0, 1) := by decide +kernel
theorem dX3_add_42 : decode cX3_add 42 = .ok (.dup, 1) := by decide +kernel
theorem dX3_add_43 : decode cX3_add 43 = .ok (.getfield 21, 3) := by decide +kernel
theorem dX3_add_46 : decode cX3_add 46 = .ok (.iconst 1, 1) := by decide +kernel
theorem dX3_add_47 : decode cX3_add 47 = .ok (.iadd, 1) := by decide +kernel
theorem dX3_add_48 : decode cX3_add 48 = .ok (.putfield 21, 3) := by decide +kernel
theorem dX3_add_51 : decode cX3_add 51 = .ok (.iconst 1, 1) := by decide +kernel
theorem dX3_add_52 : decode cX3_add 52 = .ok (.ireturn, 1) := by decide +kernel
def No_add (N : Nat) (q a1 a2 a3 : Int) (M : jMem) : Option (Int × jMem) := (if (M q 0) < 10 then jchk (0 ≤ (M q 0) ∧ (M q 0) < 10) <| jlt (up M ((q + 1)) ((M q 0)) a1) fun M2 => jchk (0 ≤ (M2 q 0) ∧ (M2 q 0) < 10) <| jlt (up M2 ((q + 2)) ((M2 q 0)) a2) fun M4 => jchk (0 ≤ (M4 q 0) ∧ (M4 q 0) < 10) <| jlt (up M4 ((q + 3)) ((M4 q 0)) a3) fun M6 => jlt (up M6 q 0 ((w32 (((M6 q 0)) + 1)))) fun M7 => some (1, M7) else some (0, M))
theorem c_No_add {l : Launch} {g : jG} (N : Nat) (q a1 a2 a3 : Int) (M : jMem) (hq : jk jTX q 3) : ∀ o, No_add N q a1 a2 a3 M = some o → jCt l g jTX yX3_add cX3_add 4 (some .boolean) 0 1 [(2, q), (0, a1), (0, a2), (0, a3)] M o := by
  refine jMet (own := RX3) (em := id) (L := [(0, 2, q), (1, 0, a1), (2, 0, a2), (3, 0, a3)]) (by decide +kernel) rfl (Nat.le_of_ble_eq_true rfl) rfl (fun K hR => ?_)
  unfold No_add
  refine z_aload_n (pc := 0) hR 0 dX3_add_0 rfl rfl ?_
  refine z_geti (pc := 1) hR (j := 0) jf_RX3_21 hq (by decide) rfl rfl dX3_add_1 ?_
  refine z_bipush (pc := 4) hR dX3_add_4 rfl ?_
  refine z_icmplt (pc := 6) (tgt := 11) hR dX3_add_6 (by decide) ?_ ?_
  · refine z_aload_n (pc := 11) hR 0 dX3_add_11 rfl rfl ?_
    refine z_getr (pc := 12) hR (c0 := 1) (r := (q + 1)) jf_RX3_9 hq (by decide) rfl rfl dX3_add_12 ?_
    refine z_aload_n (pc := 15) hR 0 dX3_add_15 rfl rfl ?_
    refine z_geti (pc := 16) hR (j := 0) jf_RX3_21 hq (by decide) rfl rfl dX3_add_16 ?_
    refine z_iload_n (pc := 19) hR 1 dX3_add_19 rfl rfl ?_
    refine z_chk (fun hc1 => ?_)
    refine z_iast (pc := 20) hR (n := 10) (kf_3_year hq) hc1.1 hc1.2 dX3_add_20 (fun M2 => ?_)
    refine z_aload_n (pc := 21) hR 0 dX3_add_21 rfl rfl ?_
    refine z_getr (pc := 22) hR (c0 := 2) (r := (q + 2)) jf_RX3_15 hq (by decide) rfl rfl dX3_add_22 ?_
    refine z_aload_n (pc := 25) hR 0 dX3_add_25 rfl rfl ?_
    refine z_geti (pc := 26) hR (j := 0) jf_RX3_21 hq (by decide) rfl rfl dX3_add_26 ?_
    refine z_iload_n (pc := 29) hR 2 dX3_add_29 rfl rfl ?_
    refine z_chk (fun hc3 => ?_)
    refine z_iast (pc := 30) hR (n := 10) (kf_3_farm hq) hc3.1 hc3.2 dX3_add_30 (fun M4 => ?_)
    refine z_aload_n (pc := 31) hR 0 dX3_add_31 rfl rfl ?_
    refine z_getr (pc := 32) hR (c0 := 3) (r := (q + 3)) jf_RX3_18 hq (by decide) rfl rfl dX3_add_32 ?_
    refine z_aload_n (pc := 35) hR 0 dX3_add_35 rfl rfl ?_
    refine z_geti (pc := 36) hR (j := 0) jf_RX3_21 hq (by decide) rfl rfl dX3_add_36 ?_
    refine z_iload_n (pc := 39) hR 3 dX3_add_39 rfl rfl ?_
    refine z_chk (fun hc5 => ?_)
    refine z_iast (pc := 40) hR (n := 10) (kf_3_taste hq) hc5.1 hc5.2 dX3_add_40 (fun M6 => ?_)
    refine z_aload_n (pc := 41) hR 0 dX3_add_41 rfl rfl ?_
    refine z_dup (pc := 42) hR dX3_add_42 (by decide) ?_
    refine z_geti (pc := 43) hR (j := 0) jf_RX3_21 hq (by decide) rfl rfl dX3_add_43 ?_
    refine z_iconst (pc := 46) hR dX3_add_46 rfl ?_
    refine z_iadd (pc := 47) hR dX3_add_47 ?_
    refine z_puti (pc := 48) hR (j := 0) jp_RX3_21 hq (by decide) rfl rfl rfl rfl dX3_add_48 (fun M7 => ?_)
    refine z_iconst (pc := 51) hR dX3_add_51 rfl ?_
    exact z_zreturn (pc := 52) hR rfl rfl (Or.inr rfl) dX3_add_52 rfl
  · refine z_iconst (pc := 9) hR dX3_add_9 rfl ?_
    exact z_zreturn (pc := 10) hR rfl rfl (Or.inl rfl) dX3_add_10 rfl
theorem dX11_note_0 : decode cX11_note 0 = .ok (.iload_n 1, 1) := by decide +kernel
theorem dX11_note_1 : decode cX11_note 1 = .ok (.iconst (-1), 1) := by decide +kernel
theorem dX11_note_2 : decode cX11_note 2 = .ok (.if_icmp .ne 15, 3) := by decide +kernel
theorem dX11_note_5 : decode cX11_note 5 = .ok (.aload_n 0, 1) := by decide +kernel
theorem dX11_note_6 : decode cX11_note 6 = .ok (.getfield 43, 3) := by decide +kernel
theorem dX11_note_9 : decode cX11_note 9 = .ok (.getfield 111, 3) := by decide +kernel
theorem dX11_note_12 : decode cX11_note 12 = .ok (.invokevirtual 115, 3) := by decide +kernel
theorem dX11_note_15 : decode cX11_note 15 = .ok (.iconst 0, 1) := by decide +kernel
theorem dX11_note_16 : decode cX11_note 16 = .ok (.ireturn, 1) := by decide +kernel
theorem dX11_note_17 : decode cX11_note 17 = .ok (.iload_n 1, 1) := by decide +kernel
theorem dX11_note_18 : decode cX11_note 18 = .ok (.iconst 0, 1) := by decide +kernel
theorem dX11_note_19 : decode cX11_note 19 = .ok (.bipush 60, 2) := by decide +kernel
theorem dX11_note_21 : decode cX11_note 21 = .ok (.invokestatic 137, 3) := by decide +kernel
theorem dX11_note_24 : decode cX11_note 24 = .ok (.ifCond .eq 21, 3) := by decide +kernel
theorem dX11_note_27 : decode cX11_note 27 = .ok (.aload_n 0, 1) := by decide +kernel
theorem dX11_note_28 : decode cX11_note 28 = .ok (.iload_n 2, 1) := by decide +kernel
theorem dX11_note_29 : decode cX11_note 29 = .ok (.invokevirtual 162, 3) := by decide +kernel
theorem dX11_note_32 : decode cX11_note 32 = .ok (.ifCond .eq 13, 3) := by decide +kernel
theorem dX11_note_35 : decode cX11_note 35 = .ok (.iload_n 3, 1) := by decide +kernel
theorem dX11_note_36 : decode cX11_note 36 = .ok (.iconst 0, 1) := by decide +kernel
theorem dX11_note_37 : decode cX11_note 37 = .ok (.bipush 60, 2) := by decide +kernel
theorem dX11_note_39 : decode cX11_note 39 = .ok (.invokestatic 137, 3) := by decide +kernel
theorem dX11_note_42 : decode cX11_note 42 = .ok (.ifCond .ne 6, 3) := by decide +kernel
theorem dX11_note_45 : decode cX11_note 45 = .ok (.bipush (-2), 2) := by decide +kernel
theorem dX11_note_47 : decode cX11_note 47 = .ok (.ireturn, 1) := by decide +kernel
theorem dX11_note_48 : decode cX11_note 48 = .ok (.aload_n 0, 1) := by decide +kernel
theorem dX11_note_49 : decode cX11_note 49 = .ok (.getfield 43, 3) := by decide +kernel
theorem dX11_note_52 : decode cX11_note 52 = .ok (.getfield 111, 3) := by decide +kernel
theorem dX11_note_55 : decode cX11_note 55 = .ok (.iload_n 1, 1) := by decide +kernel
theorem dX11_note_56 : decode cX11_note 56 = .ok (.iload_n 2, 1) := by decide +kernel
theorem dX11_note_57 : decode cX11_note 57 = .ok (.iload_n 3, 1) := by decide +kernel
theorem dX11_note_58 : decode cX11_note 58 = .ok (.invokevirtual 301, 3) := by decide +kernel
theorem dX11_note_61 : decode cX11_note 61 = .ok (.ifCond .eq 16, 3) := by decide +kernel
theorem dX11_note_64 : decode cX11_note 64 = .ok (.aload_n 0, 1) := by decide +kernel
theorem dX11_note_65 : decode cX11_note 65 = .ok (.getfield 43, 3) := by decide +kernel
theorem dX11_note_68 : decode cX11_note 68 = .ok (.getfield 111, 3) := by decide +kernel
theorem dX11_note_71 : decode cX11_note 71 = .ok (.getfield 204, 3) := by decide +kernel
theorem dX11_note_74 : decode cX11_note 74 = .ok (.goto 5, 3) := by decide +kernel
theorem dX11_note_77 : decode cX11_note 77 = .ok (.bipush (-2), 2) := by decide +kernel
theorem dX11_note_79 : decode cX11_note 79 = .ok (.ireturn, 1) := by decide +kernel
def x_note (N : Nat) (a1 a2 a3 : Int) (M : jMem) : Option (Int × jMem) := (if a1 = (-1) then jbv (No_clear N 27 M) fun M6 => some (0, M6) else (x_isWithin N a1 0 60 M).bind fun r1 => (if r1 = 0 then some ((-2), M) else (x_isFarm N a2 M).bind fun r2 => (if r2 = 0 then some ((-2), M) else (x_isWithin N a3 0 60 M).bind fun r3 => (if r3 = 0 then some ((-2), M) else jb1 (No_add N 27 a1 a2 a3 M) fun r4 M5 => (if r4 = 0 then some ((-2), M5) else some ((M5 27 0), M5))))))
theorem c_x_note {l : Launch} {g : jG} (N : Nat) (a1 a2 a3 : Int) (M : jMem)  : ∀ o, x_note N a1 a2 a3 M = some o → jCt l g jTX yX11_note cX11_note 4 (some .int) 0 3 [(2, 0), (0, a1), (0, a2), (0, a3)] M o := by
  refine jMet (own := RX11) (em := id) (L := [(0, 2, 0), (1, 0, a1), (2, 0, a2), (3, 0, a3)]) (by decide +kernel) rfl (Nat.le_of_ble_eq_true rfl) rfl (fun K hR => ?_)
  unfold x_note
  refine z_iload_n (pc := 0) hR 1 dX11_note_0 rfl rfl ?_
  refine z_iconst (pc := 1) hR dX11_note_1 rfl ?_
  refine z_icmpne (pc := 2) (tgt := 17) hR dX11_note_2 (by decide) ?_ ?_
  · refine z_iload_n (pc := 17) hR 1 dX11_note_17 rfl rfl ?_
    refine z_iconst (pc := 18) hR dX11_note_18 rfl ?_
    refine z_bipush (pc := 19) hR dX11_note_19 rfl ?_
    refine z_callsp (pc := 21) hR (As := [(0, a1), (0, 0), (0, 60)]) (st := []) jm_X11_isWithin jl_RX11_137 (by decide) (c_x_isWithin N a1 0 60 M) rfl (by decide) (by decide) rfl (Nat.le_of_ble_eq_true rfl) dX11_note_21 (fun r1 => ?_)
    refine z_ifeq (pc := 24) (tgt := 45) hR dX11_note_24 (by decide) ?_ ?_
    · refine z_bipush (pc := 45) hR dX11_note_45 rfl ?_
      exact z_ireturn (pc := 47) hR rfl rfl dX11_note_47 rfl
    · refine z_aload_n (pc := 27) hR 0 dX11_note_27 rfl rfl ?_
      refine z_iload_n (pc := 28) hR 2 dX11_note_28 rfl rfl ?_
      refine z_callvp (pc := 29) hR (As := [(0, a2)]) (st := []) jm_X11_isFarm jl_RX11_162 kxo_0 (by decide) rfl (by decide) (c_x_isFarm N a2 M) rfl (by decide) (by decide) rfl (Nat.le_of_ble_eq_true rfl) dX11_note_29 (fun r2 => ?_)
      refine z_ifeq (pc := 32) (tgt := 45) hR dX11_note_32 (by decide) ?_ ?_
      · refine z_bipush (pc := 45) hR dX11_note_45 rfl ?_
        exact z_ireturn (pc := 47) hR rfl rfl dX11_note_47 rfl
      · refine z_iload_n (pc := 35) hR 3 dX11_note_35 rfl rfl ?_
        refine z_iconst (pc := 36) hR dX11_note_36 rfl ?_
        refine z_bipush (pc := 37) hR dX11_note_37 rfl ?_
        refine z_callsp (pc := 39) hR (As := [(0, a3), (0, 0), (0, 60)]) (st := []) jm_X11_isWithin jl_RX11_137 (by decide) (c_x_isWithin N a3 0 60 M) rfl (by decide) (by decide) rfl (Nat.le_of_ble_eq_true rfl) dX11_note_39 (fun r3 => ?_)
        refine z_ifne (pc := 42) (tgt := 48) hR dX11_note_42 (by decide) ?_ ?_
        · refine z_aload_n (pc := 48) hR 0 dX11_note_48 rfl rfl ?_
          refine z_getr (pc := 49) hR (c0 := 14) (r := 14) jf_RX11_43 kxo_0 (by decide) rfl rfl dX11_note_49 ?_
          refine z_getr (pc := 52) hR (c0 := 13) (r := 27) jf_RX11_111 kxo_14 (by decide) rfl rfl dX11_note_52 ?_
          refine z_iload_n (pc := 55) hR 1 dX11_note_55 rfl rfl ?_
          refine z_iload_n (pc := 56) hR 2 dX11_note_56 rfl rfl ?_
          refine z_iload_n (pc := 57) hR 3 dX11_note_57 rfl rfl ?_
          refine z_callv1 (pc := 58) hR (As := [(0, a1), (0, a2), (0, a3)]) (st := []) jm_X3_add jl_RX11_301 kxo_27 (by decide) rfl (by decide) (c_No_add N 27 a1 a2 a3 M kxo_27) rfl (by decide) (by decide) rfl (Nat.le_of_ble_eq_true rfl) dX11_note_58 (fun r4 M5 => ?_)
          refine z_ifeq (pc := 61) (tgt := 77) hR dX11_note_61 (by decide) ?_ ?_
          · refine z_bipush (pc := 77) hR dX11_note_77 rfl ?_
            exact z_ireturn (pc := 79) hR rfl rfl dX11_note_79 rfl
          · refine z_aload_n (pc := 64) hR 0 dX11_note_64 rfl rfl ?_
            refine z_getr (pc := 65) hR (c0 := 14) (r := 14) jf_RX11_43 kxo_0 (by decide) rfl rfl dX11_note_65 ?_
            refine z_getr (pc := 68) hR (c0 := 13) (r := 27) jf_RX11_111 kxo_14 (by decide) rfl rfl dX11_note_68 ?_
            refine z_geti (pc := 71) hR (j := 0) jf_RX11_204 kxo_27 (by decide) rfl rfl dX11_note_71 ?_
            refine z_goto (pc := 74) (tgt := 79) hR dX11_note_74 (by decide) ?_
            exact z_ireturn (pc := 79) hR rfl rfl dX11_note_79 rfl
        · refine z_bipush (pc := 45) hR dX11_note_45 rfl ?_
          exact z_ireturn (pc := 47) hR rfl rfl dX11_note_47 rfl
  · refine z_aload_n (pc := 5) hR 0 dX11_note_5 rfl rfl ?_
    refine z_getr (pc := 6) hR (c0 := 14) (r := 14) jf_RX11_43 kxo_0 (by decide) rfl rfl dX11_note_6 ?_
    refine z_getr (pc := 9) hR (c0 := 13) (r := 27) jf_RX11_111 kxo_14 (by decide) rfl rfl dX11_note_9 ?_
    refine z_callv0 (pc := 12) (rk' := 3) hR (As := []) (st := []) jm_X3_clear jl_RX11_115 kxo_27 (by decide) rfl (c_No_clear N 27 M kxo_27) rfl (by decide) (by decide) rfl (Nat.le_of_ble_eq_true rfl) dX11_note_12 (fun M6 => ?_)
    refine z_iconst (pc := 15) hR dX11_note_15 rfl ?_
    exact z_ireturn (pc := 16) hR rfl rfl dX11_note_16 rfl
theorem dX3_lastYear_0 : decode cX3_lastYear 0 = .ok (.iconst (-1), 1) := by decide +kernel
theorem dX3_lastYear_1 : decode cX3_lastYear 1 = .ok (.istore_n 1, 1) := by decide +kernel
theorem dX3_lastYear_2 : decode cX3_lastYear 2 = .ok (.iconst 0, 1) := by decide +kernel
theorem dX3_lastYear_3 : decode cX3_lastYear 3 = .ok (.istore_n 2, 1) := by decide +kernel
theorem dX3_lastYear_4 : decode cX3_lastYear 4 = .ok (.iload_n 2, 1) := by decide +kernel
theorem dX3_lastYear_5 : decode cX3_lastYear 5 = .ok (.aload_n 0, 1) := by decide +kernel
theorem dX3_lastYear_6 : decode cX3_lastYear 6 = .ok (.getfield 21, 3) := by decide +kernel
theorem dX3_lastYear_9 : decode cX3_lastYear 9 = .ok (.if_icmp .ge 20, 3) := by decide +kernel
theorem dX3_lastYear_12 : decode cX3_lastYear 12 = .ok (.iload_n 1, 1) := by decide +kernel
theorem dX3_lastYear_13 : decode cX3_lastYear 13 = .ok (.aload_n 0, 1) := by decide +kernel
theorem dX3_lastYear_14 : decode cX3_lastYear 14 = .ok (.getfield 9, 3) := by decide +kernel
theorem dX3_lastYear_17 : decode cX3_lastYear 17 = .ok (.iload_n 2, 1) := by decide +kernel
theorem dX3_lastYear_18 : decode cX3_lastYear 18 = .ok (.iaload, 1) := by decide +kernel
theorem dX3_lastYear_19 : decode cX3_lastYear 19 = .ok (.invokestatic 31, 3) := by decide +kernel
theorem dX3_lastYear_22 : decode cX3_lastYear 22 = .ok (.istore_n 1, 1) := by decide +kernel
theorem dX3_lastYear_23 : decode cX3_lastYear 23 = .ok (.iinc 2 1, 3) := by decide +kernel
theorem dX3_lastYear_26 : decode cX3_lastYear 26 = .ok (.goto (-22), 3) := by decide +kernel
theorem dX3_lastYear_29 : decode cX3_lastYear 29 = .ok (.iload_n 1, 1) := by decide +kernel
theorem dX3_lastYear_30 : decode cX3_lastYear 30 = .ok (.ireturn, 1) := by decide +kernel
def No_lastYear_L4 (N : Nat) (q : Int) (M : jMem) (h4 : (Int × Int) → Option Int) : Int × Int → Option Int
  | (x1, x2) => (if x2 < (M q 0) then jchk (0 ≤ x2 ∧ x2 < 10) <| jlt ((jmax x1 ((M ((q + 1)) x2)))) fun v4 => h4 (v4, (w32 (x2 + 1))) else some x1)
def No_lastYear (N : Nat) (q : Int) (M : jMem) : Option Int := jfix N (No_lastYear_L4 N q M) ((-1), 0)
theorem c_No_lastYear {l : Launch} {g : jG} (N : Nat) (q : Int) (M : jMem) (hq : jk jTX q 3) : ∀ o, No_lastYear N q M = some o → jCt l g jTX yX3_lastYear cX3_lastYear 3 (some .int) 0 2 [(2, q)] M (o, M) := by
  refine jMet (own := RX3) (em := (fun r => (r, M))) (L := [(0, 2, q)]) (by decide +kernel) rfl (Nat.le_of_ble_eq_true rfl) rfl (fun K hR => ?_)
  unfold No_lastYear
  refine z_iconst (pc := 0) hR dX3_lastYear_0 rfl ?_
  refine z_istore_n (pc := 1) hR (lv' := [(1, 0, (-1)), (0, 2, q)]) dX3_lastYear_1 rfl (by decide) rfl ?_
  refine z_iconst (pc := 2) hR dX3_lastYear_2 rfl ?_
  refine z_istore_n (pc := 3) hR (lv' := [(2, 0, 0), (1, 0, (-1)), (0, 2, q)]) dX3_lastYear_3 rfl (by decide) rfl ?_
  refine z_pick (pc := 4) (lv' := [(0, 2, q), (1, 0, (-1)), (2, 0, 0)]) hR [2, 1, 0] rfl ?_
  refine z_fix (σ := Int × Int) (lv := fun s => [(0, 2, q), (1, 0, s.1), (2, 0, s.2)]) (st := fun _ => []) (M := fun _ => M) (fun h4 hh4 => ?_) N ((-1), 0)
  rintro ⟨x1, x2⟩
  show jZ K (fun r => (r, M)) 4 [(0, 2, q), (1, 0, x1), (2, 0, x2)] [] M _
  unfold No_lastYear_L4
  refine z_iload_n (pc := 4) hR 2 dX3_lastYear_4 rfl rfl ?_
  refine z_aload_n (pc := 5) hR 0 dX3_lastYear_5 rfl rfl ?_
  refine z_geti (pc := 6) hR (j := 0) jf_RX3_21 hq (by decide) rfl rfl dX3_lastYear_6 ?_
  refine z_icmpge (pc := 9) (tgt := 29) hR dX3_lastYear_9 (by decide) ?_ ?_
  · refine z_iload_n (pc := 29) hR 1 dX3_lastYear_29 rfl rfl ?_
    exact z_ireturn (pc := 30) hR rfl rfl dX3_lastYear_30 rfl
  · refine z_iload_n (pc := 12) hR 1 dX3_lastYear_12 rfl rfl ?_
    refine z_aload_n (pc := 13) hR 0 dX3_lastYear_13 rfl rfl ?_
    refine z_getr (pc := 14) hR (c0 := 1) (r := (q + 1)) jf_RX3_9 hq (by decide) rfl rfl dX3_lastYear_14 ?_
    refine z_iload_n (pc := 17) hR 2 dX3_lastYear_17 rfl rfl ?_
    refine z_chk (fun hc3 => ?_)
    refine z_iald (pc := 18) hR (n := 10) (kf_3_year hq) hc3.1 hc3.2 dX3_lastYear_18 ?_
    refine z_mmax (pc := 19) hR jl_RX3_31 jw_max_s jw_Math jw_max_c (by decide) (Nat.le_of_ble_eq_true rfl) dX3_lastYear_19 ?_
    refine z_let1 (fun v4 => ?_)
    refine z_istore_n (pc := 22) hR (lv' := [(1, 0, v4), (0, 2, q), (2, 0, x2)]) dX3_lastYear_22 rfl (by decide) rfl ?_
    refine z_iinc (pc := 23) hR (j := 2) (lv' := [(2, 0, (w32 (x2 + 1))), (1, 0, v4), (0, 2, q)]) dX3_lastYear_23 rfl (by decide) rfl ?_
    refine z_goto (pc := 26) (tgt := 4) hR dX3_lastYear_26 (by decide) ?_
    refine z_pick (pc := 4) (lv' := [(0, 2, q), (1, 0, v4), (2, 0, (w32 (x2 + 1)))]) hR [2, 1, 0] rfl ?_
    exact hh4 (v4, (w32 (x2 + 1)))
theorem dX3_areSo_0 : decode cX3_areSo 0 = .ok (.iconst 0, 1) := by decide +kernel
theorem dX3_areSo_1 : decode cX3_areSo 1 = .ok (.istore_n 3, 1) := by decide +kernel
theorem dX3_areSo_2 : decode cX3_areSo 2 = .ok (.iload_n 3, 1) := by decide +kernel
theorem dX3_areSo_3 : decode cX3_areSo 3 = .ok (.aload_n 0, 1) := by decide +kernel
theorem dX3_areSo_4 : decode cX3_areSo 4 = .ok (.getfield 21, 3) := by decide +kernel
theorem dX3_areSo_7 : decode cX3_areSo 7 = .ok (.if_icmp .ge 46, 3) := by decide +kernel
theorem dX3_areSo_10 : decode cX3_areSo 10 = .ok (.aload_n 0, 1) := by decide +kernel
theorem dX3_areSo_11 : decode cX3_areSo 11 = .ok (.getfield 9, 3) := by decide +kernel
theorem dX3_areSo_14 : decode cX3_areSo 14 = .ok (.iload_n 3, 1) := by decide +kernel
theorem dX3_areSo_15 : decode cX3_areSo 15 = .ok (.iaload, 1) := by decide +kernel
theorem dX3_areSo_16 : decode cX3_areSo 16 = .ok (.iload_n 1, 1) := by decide +kernel
theorem dX3_areSo_17 : decode cX3_areSo 17 = .ok (.if_icmp .ne 30, 3) := by decide +kernel
theorem dX3_areSo_20 : decode cX3_areSo 20 = .ok (.aload_n 2, 1) := by decide +kernel
theorem dX3_areSo_21 : decode cX3_areSo 21 = .ok (.getfield 37, 3) := by decide +kernel
theorem dX3_areSo_24 : decode cX3_areSo 24 = .ok (.aload_n 2, 1) := by decide +kernel
theorem dX3_areSo_25 : decode cX3_areSo 25 = .ok (.getfield 40, 3) := by decide +kernel
theorem dX3_areSo_28 : decode cX3_areSo 28 = .ok (.aload_n 0, 1) := by decide +kernel
theorem dX3_areSo_29 : decode cX3_areSo 29 = .ok (.getfield 15, 3) := by decide +kernel
theorem dX3_areSo_32 : decode cX3_areSo 32 = .ok (.iload_n 3, 1) := by decide +kernel
theorem dX3_areSo_33 : decode cX3_areSo 33 = .ok (.iaload, 1) := by decide +kernel
theorem dX3_areSo_34 : decode cX3_areSo 34 = .ok (.iaload, 1) := by decide +kernel
theorem dX3_areSo_35 : decode cX3_areSo 35 = .ok (.iaload, 1) := by decide +kernel
theorem dX3_areSo_36 : decode cX3_areSo 36 = .ok (.aload_n 0, 1) := by decide +kernel
theorem dX3_areSo_37 : decode cX3_areSo 37 = .ok (.getfield 18, 3) := by decide +kernel
theorem dX3_areSo_40 : decode cX3_areSo 40 = .ok (.iload_n 3, 1) := by decide +kernel
theorem dX3_areSo_41 : decode cX3_areSo 41 = .ok (.iaload, 1) := by decide +kernel
theorem dX3_areSo_42 : decode cX3_areSo 42 = .ok (.if_icmp .eq 5, 3) := by decide +kernel
theorem dX3_areSo_45 : decode cX3_areSo 45 = .ok (.iconst 0, 1) := by decide +kernel
theorem dX3_areSo_46 : decode cX3_areSo 46 = .ok (.ireturn, 1) := by decide +kernel
theorem dX3_areSo_47 : decode cX3_areSo 47 = .ok (.iinc 3 1, 3) := by decide +kernel
theorem dX3_areSo_50 : decode cX3_areSo 50 = .ok (.goto (-48), 3) := by decide +kernel
theorem dX3_areSo_53 : decode cX3_areSo 53 = .ok (.iconst 1, 1) := by decide +kernel
theorem dX3_areSo_54 : decode cX3_areSo 54 = .ok (.ireturn, 1) := by decide +kernel
def No_areSo_L2 (N : Nat) (q : Int) (a1 : Int) (a2 : Int) (M : jMem) (h2 : Int → Option Int) : Int → Option Int
  | x1 => (if x1 < (M q 0) then jchk (0 ≤ x1 ∧ x1 < 10) <| (if (M ((q + 1)) x1) = a1 then jchk (0 ≤ x1 ∧ x1 < 10) <| jchk (0 ≤ (M ((q + 2)) x1) ∧ (M ((q + 2)) x1) < 7) <| jchk (0 ≤ (M ((a2 + 4)) ((M ((q + 2)) x1))) ∧ (M ((a2 + 4)) ((M ((q + 2)) x1))) < 7) <| jchk (0 ≤ x1 ∧ x1 < 10) <| (if (M ((a2 + 2)) ((M ((a2 + 4)) ((M ((q + 2)) x1))))) = (M ((q + 3)) x1) then h2 ((w32 (x1 + 1))) else some 0) else h2 ((w32 (x1 + 1)))) else some 1)
def No_areSo (N : Nat) (q a1 a2 : Int) (M : jMem) : Option Int := jfix N (No_areSo_L2 N q a1 a2 M) 0
theorem c_No_areSo {l : Launch} {g : jG} (N : Nat) (q a1 a2 : Int) (M : jMem) (hq : jk jTX q 3) (ha2 : jk jTX a2 7) : ∀ o, No_areSo N q a1 a2 M = some o → jCt l g jTX yX3_areSo cX3_areSo 4 (some .boolean) 0 1 [(2, q), (0, a1), (2, a2)] M (o, M) := by
  refine jMet (own := RX3) (em := (fun r => (r, M))) (L := [(0, 2, q), (1, 0, a1), (2, 2, a2)]) (by decide +kernel) rfl (Nat.le_of_ble_eq_true rfl) rfl (fun K hR => ?_)
  unfold No_areSo
  refine z_iconst (pc := 0) hR dX3_areSo_0 rfl ?_
  refine z_istore_n (pc := 1) hR (lv' := [(3, 0, 0), (0, 2, q), (1, 0, a1), (2, 2, a2)]) dX3_areSo_1 rfl (by decide) rfl ?_
  refine z_pick (pc := 2) (lv' := [(0, 2, q), (1, 0, a1), (2, 2, a2), (3, 0, 0)]) hR [1, 2, 3, 0] rfl ?_
  refine z_fix (σ := Int) (lv := fun s => [(0, 2, q), (1, 0, a1), (2, 2, a2), (3, 0, s)]) (st := fun _ => []) (M := fun _ => M) (fun h2 hh2 => ?_) N 0
  intro x1
  show jZ K (fun r => (r, M)) 2 [(0, 2, q), (1, 0, a1), (2, 2, a2), (3, 0, x1)] [] M _
  unfold No_areSo_L2
  refine z_iload_n (pc := 2) hR 3 dX3_areSo_2 rfl rfl ?_
  refine z_aload_n (pc := 3) hR 0 dX3_areSo_3 rfl rfl ?_
  refine z_geti (pc := 4) hR (j := 0) jf_RX3_21 hq (by decide) rfl rfl dX3_areSo_4 ?_
  refine z_icmpge (pc := 7) (tgt := 53) hR dX3_areSo_7 (by decide) ?_ ?_
  · refine z_iconst (pc := 53) hR dX3_areSo_53 rfl ?_
    exact z_zreturn (pc := 54) hR rfl rfl (Or.inr rfl) dX3_areSo_54 rfl
  · refine z_aload_n (pc := 10) hR 0 dX3_areSo_10 rfl rfl ?_
    refine z_getr (pc := 11) hR (c0 := 1) (r := (q + 1)) jf_RX3_9 hq (by decide) rfl rfl dX3_areSo_11 ?_
    refine z_iload_n (pc := 14) hR 3 dX3_areSo_14 rfl rfl ?_
    refine z_chk (fun hc2 => ?_)
    refine z_iald (pc := 15) hR (n := 10) (kf_3_year hq) hc2.1 hc2.2 dX3_areSo_15 ?_
    refine z_iload_n (pc := 16) hR 1 dX3_areSo_16 rfl rfl ?_
    refine z_icmpne (pc := 17) (tgt := 47) hR dX3_areSo_17 (by decide) ?_ ?_
    · refine z_iinc (pc := 47) hR (j := 3) (lv' := [(3, 0, (w32 (x1 + 1))), (0, 2, q), (1, 0, a1), (2, 2, a2)]) dX3_areSo_47 rfl (by decide) rfl ?_
      refine z_goto (pc := 50) (tgt := 2) hR dX3_areSo_50 (by decide) ?_
      refine z_pick (pc := 2) (lv' := [(0, 2, q), (1, 0, a1), (2, 2, a2), (3, 0, (w32 (x1 + 1)))]) hR [1, 2, 3, 0] rfl ?_
      exact hh2 ((w32 (x1 + 1)))
    · refine z_aload_n (pc := 20) hR 2 dX3_areSo_20 rfl rfl ?_
      refine z_getr (pc := 21) hR (c0 := 2) (r := (a2 + 2)) jf_RX3_37 ha2 (by decide) rfl rfl dX3_areSo_21 ?_
      refine z_aload_n (pc := 24) hR 2 dX3_areSo_24 rfl rfl ?_
      refine z_getr (pc := 25) hR (c0 := 4) (r := (a2 + 4)) jf_RX3_40 ha2 (by decide) rfl rfl dX3_areSo_25 ?_
      refine z_aload_n (pc := 28) hR 0 dX3_areSo_28 rfl rfl ?_
      refine z_getr (pc := 29) hR (c0 := 2) (r := (q + 2)) jf_RX3_15 hq (by decide) rfl rfl dX3_areSo_29 ?_
      refine z_iload_n (pc := 32) hR 3 dX3_areSo_32 rfl rfl ?_
      refine z_chk (fun hc3 => ?_)
      refine z_iald (pc := 33) hR (n := 10) (kf_3_farm hq) hc3.1 hc3.2 dX3_areSo_33 ?_
      refine z_chk (fun hc4 => ?_)
      refine z_iald (pc := 34) hR (n := 7) (kf_7_has ha2) hc4.1 hc4.2 dX3_areSo_34 ?_
      refine z_chk (fun hc5 => ?_)
      refine z_iald (pc := 35) hR (n := 7) (kf_7_taste ha2) hc5.1 hc5.2 dX3_areSo_35 ?_
      refine z_aload_n (pc := 36) hR 0 dX3_areSo_36 rfl rfl ?_
      refine z_getr (pc := 37) hR (c0 := 3) (r := (q + 3)) jf_RX3_18 hq (by decide) rfl rfl dX3_areSo_37 ?_
      refine z_iload_n (pc := 40) hR 3 dX3_areSo_40 rfl rfl ?_
      refine z_chk (fun hc6 => ?_)
      refine z_iald (pc := 41) hR (n := 10) (kf_3_taste hq) hc6.1 hc6.2 dX3_areSo_41 ?_
      refine z_icmpeq (pc := 42) (tgt := 47) hR dX3_areSo_42 (by decide) ?_ ?_
      · refine z_iinc (pc := 47) hR (j := 3) (lv' := [(3, 0, (w32 (x1 + 1))), (0, 2, q), (1, 0, a1), (2, 2, a2)]) dX3_areSo_47 rfl (by decide) rfl ?_
        refine z_goto (pc := 50) (tgt := 2) hR dX3_areSo_50 (by decide) ?_
        refine z_pick (pc := 2) (lv' := [(0, 2, q), (1, 0, a1), (2, 2, a2), (3, 0, (w32 (x1 + 1)))]) hR [1, 2, 3, 0] rfl ?_
        exact hh2 ((w32 (x1 + 1)))
      · refine z_iconst (pc := 45) hR dX3_areSo_45 rfl ?_
        exact z_zreturn (pc := 46) hR rfl rfl (Or.inl rfl) dX3_areSo_46 rfl
theorem dX1_notesAreSo_0 : decode cX1_notesAreSo 0 = .ok (.aload_n 1, 1) := by decide +kernel
theorem dX1_notesAreSo_1 : decode cX1_notesAreSo 1 = .ok (.getfield 84, 3) := by decide +kernel
theorem dX1_notesAreSo_4 : decode cX1_notesAreSo 4 = .ok (.invokevirtual 88, 3) := by decide +kernel
theorem dX1_notesAreSo_7 : decode cX1_notesAreSo 7 = .ok (.istore_n 3, 1) := by decide +kernel
theorem dX1_notesAreSo_8 : decode cX1_notesAreSo 8 = .ok (.iconst 0, 1) := by decide +kernel
theorem dX1_notesAreSo_9 : decode cX1_notesAreSo 9 = .ok (.istore 4, 2) := by decide +kernel
theorem dX1_notesAreSo_11 : decode cX1_notesAreSo 11 = .ok (.iload 4, 2) := by decide +kernel
theorem dX1_notesAreSo_13 : decode cX1_notesAreSo 13 = .ok (.iload_n 3, 1) := by decide +kernel
theorem dX1_notesAreSo_14 : decode cX1_notesAreSo 14 = .ok (.if_icmp .gt 51, 3) := by decide +kernel
theorem dX1_notesAreSo_17 : decode cX1_notesAreSo 17 = .ok (.aload_n 0, 1) := by decide +kernel
theorem dX1_notesAreSo_18 : decode cX1_notesAreSo 18 = .ok (.getfield 14, 3) := by decide +kernel
theorem dX1_notesAreSo_21 : decode cX1_notesAreSo 21 = .ok (.aload_n 1, 1) := by decide +kernel
theorem dX1_notesAreSo_22 : decode cX1_notesAreSo 22 = .ok (.getfield 54, 3) := by decide +kernel
theorem dX1_notesAreSo_25 : decode cX1_notesAreSo 25 = .ok (.aload_n 0, 1) := by decide +kernel
theorem dX1_notesAreSo_26 : decode cX1_notesAreSo 26 = .ok (.getfield 21, 3) := by decide +kernel
theorem dX1_notesAreSo_29 : decode cX1_notesAreSo 29 = .ok (.aload_n 1, 1) := by decide +kernel
theorem dX1_notesAreSo_30 : decode cX1_notesAreSo 30 = .ok (.getfield 54, 3) := by decide +kernel
theorem dX1_notesAreSo_33 : decode cX1_notesAreSo 33 = .ok (.getfield 38, 3) := by decide +kernel
theorem dX1_notesAreSo_36 : decode cX1_notesAreSo 36 = .ok (.aload_n 2, 1) := by decide +kernel
theorem dX1_notesAreSo_37 : decode cX1_notesAreSo 37 = .ok (.invokevirtual 41, 3) := by decide +kernel
theorem dX1_notesAreSo_40 : decode cX1_notesAreSo 40 = .ok (.pop, 1) := by decide +kernel
theorem dX1_notesAreSo_41 : decode cX1_notesAreSo 41 = .ok (.aload_n 1, 1) := by decide +kernel
theorem dX1_notesAreSo_42 : decode cX1_notesAreSo 42 = .ok (.getfield 84, 3) := by decide +kernel
theorem dX1_notesAreSo_45 : decode cX1_notesAreSo 45 = .ok (.iload 4, 2) := by decide +kernel
theorem dX1_notesAreSo_47 : decode cX1_notesAreSo 47 = .ok (.aload_n 0, 1) := by decide +kernel
theorem dX1_notesAreSo_48 : decode cX1_notesAreSo 48 = .ok (.getfield 21, 3) := by decide +kernel
theorem dX1_notesAreSo_51 : decode cX1_notesAreSo 51 = .ok (.invokevirtual 93, 3) := by decide +kernel
theorem dX1_notesAreSo_54 : decode cX1_notesAreSo 54 = .ok (.ifCond .ne 5, 3) := by decide +kernel
theorem dX1_notesAreSo_57 : decode cX1_notesAreSo 57 = .ok (.iconst 0, 1) := by decide +kernel
theorem dX1_notesAreSo_58 : decode cX1_notesAreSo 58 = .ok (.ireturn, 1) := by decide +kernel
theorem dX1_notesAreSo_59 : decode cX1_notesAreSo 59 = .ok (.iinc 4 1, 3) := by decide +kernel
theorem dX1_notesAreSo_62 : decode cX1_notesAreSo 62 = .ok (.goto (-51), 3) := by decide +kernel
theorem dX1_notesAreSo_65 : decode cX1_notesAreSo 65 = .ok (.iconst 1, 1) := by decide +kernel
theorem dX1_notesAreSo_66 : decode cX1_notesAreSo 66 = .ok (.ireturn, 1) := by decide +kernel
def Fo_notesAreSo_L11 (N : Nat) (a2 : Int) (r1 : Int) (h11 : (Int × jMem) → Option (Int × jMem)) : Int × jMem → Option (Int × jMem)
  | (x2, M3) => (if r1 < x2 then some (1, M3) else jb1 (Ye_pass N 158 161 18 a2 M3) fun r4 M5 => (No_areSo N 27 x2 161 M5).bind fun r6 => (if r6 = 0 then some (0, M5) else h11 ((w32 (x2 + 1)), M5)))
def Fo_notesAreSo (N : Nat) (a2 : Int) (M : jMem) : Option (Int × jMem) := (No_lastYear N 27 M).bind fun r1 => jfix N (Fo_notesAreSo_L11 N a2 r1) (0, M)
theorem c_Fo_notesAreSo {l : Launch} {g : jG} (N : Nat) (a2 : Int) (M : jMem) (ha2 : a2 < 0 ∨ jk jTX a2 5) : ∀ o, Fo_notesAreSo N a2 M = some o → jCt l g jTX yX1_notesAreSo cX1_notesAreSo 5 (some .boolean) 0 11 [(2, 157), (2, 14), (2, a2)] M o := by
  refine jMet (own := RX1) (em := id) (L := [(0, 2, 157), (1, 2, 14), (2, 2, a2)]) (by decide +kernel) rfl (Nat.le_of_ble_eq_true rfl) rfl (fun K hR => ?_)
  unfold Fo_notesAreSo
  refine z_aload_n (pc := 0) hR 1 dX1_notesAreSo_0 rfl rfl ?_
  refine z_getr (pc := 1) hR (c0 := 13) (r := 27) jf_RX1_84 kxo_14 (by decide) rfl rfl dX1_notesAreSo_1 ?_
  refine z_callvp (pc := 4) hR (As := []) (st := []) jm_X3_lastYear jl_RX1_88 kxo_27 (by decide) rfl (by decide) (c_No_lastYear N 27 M kxo_27) rfl (by decide) (by decide) rfl (Nat.le_of_ble_eq_true rfl) dX1_notesAreSo_4 (fun r1 => ?_)
  refine z_istore_n (pc := 7) hR (lv' := [(3, 0, r1), (0, 2, 157), (1, 2, 14), (2, 2, a2)]) dX1_notesAreSo_7 rfl (by decide) rfl ?_
  refine z_iconst (pc := 8) hR dX1_notesAreSo_8 rfl ?_
  refine z_istore (pc := 9) hR (lv' := [(4, 0, 0), (3, 0, r1), (0, 2, 157), (1, 2, 14), (2, 2, a2)]) dX1_notesAreSo_9 (by decide) rfl ?_
  refine z_pick (pc := 11) (lv' := [(0, 2, 157), (1, 2, 14), (2, 2, a2), (3, 0, r1), (4, 0, 0)]) hR [2, 3, 4, 1, 0] rfl ?_
  refine z_fix (σ := Int × jMem) (lv := fun s => [(0, 2, 157), (1, 2, 14), (2, 2, a2), (3, 0, r1), (4, 0, s.1)]) (st := fun _ => []) (M := fun s => s.2) (fun h11 hh11 => ?_) N (0, M)
  rintro ⟨x2, M3⟩
  show jZ K id 11 [(0, 2, 157), (1, 2, 14), (2, 2, a2), (3, 0, r1), (4, 0, x2)] [] M3 _
  unfold Fo_notesAreSo_L11
  refine z_iload (pc := 11) hR 4 dX1_notesAreSo_11 rfl ?_
  refine z_iload_n (pc := 13) hR 3 dX1_notesAreSo_13 rfl rfl ?_
  refine z_icmpgt (pc := 14) (tgt := 65) hR dX1_notesAreSo_14 (by decide) ?_ ?_
  · refine z_iconst (pc := 65) hR dX1_notesAreSo_65 rfl ?_
    exact z_zreturn (pc := 66) hR rfl rfl (Or.inr rfl) dX1_notesAreSo_66 rfl
  · refine z_aload_n (pc := 17) hR 0 dX1_notesAreSo_17 rfl rfl ?_
    refine z_getr (pc := 18) hR (c0 := 1) (r := 158) jf_RX1_14 kxo_157 (by decide) rfl rfl dX1_notesAreSo_18 ?_
    refine z_aload_n (pc := 21) hR 1 dX1_notesAreSo_21 rfl rfl ?_
    refine z_getr (pc := 22) hR (c0 := 1) (r := 15) jf_RX1_54 kxo_14 (by decide) rfl rfl dX1_notesAreSo_22 ?_
    refine z_aload_n (pc := 25) hR 0 dX1_notesAreSo_25 rfl rfl ?_
    refine z_getr (pc := 26) hR (c0 := 4) (r := 161) jf_RX1_21 kxo_157 (by decide) rfl rfl dX1_notesAreSo_26 ?_
    refine z_aload_n (pc := 29) hR 1 dX1_notesAreSo_29 rfl rfl ?_
    refine z_getr (pc := 30) hR (c0 := 1) (r := 15) jf_RX1_54 kxo_14 (by decide) rfl rfl dX1_notesAreSo_30 ?_
    refine z_getr (pc := 33) hR (c0 := 3) (r := 18) jf_RX1_38 kxo_15 (by decide) rfl rfl dX1_notesAreSo_33 ?_
    refine z_aload_n (pc := 36) hR 2 dX1_notesAreSo_36 rfl rfl ?_
    refine z_callv1 (pc := 37) hR (As := [(2, 15), (2, 161), (2, 18), (2, a2)]) (st := []) jm_X10_pass jl_RX1_41 kxo_158 (by decide) rfl (by decide) (c_Ye_pass N 158 161 18 a2 M3 kxo_158 kxo_161 kxa_18 ha2) rfl (by decide) (by decide) rfl (Nat.le_of_ble_eq_true rfl) dX1_notesAreSo_37 (fun r4 M5 => ?_)
    refine z_pop (pc := 40) hR dX1_notesAreSo_40 (by decide) ?_
    refine z_aload_n (pc := 41) hR 1 dX1_notesAreSo_41 rfl rfl ?_
    refine z_getr (pc := 42) hR (c0 := 13) (r := 27) jf_RX1_84 kxo_14 (by decide) rfl rfl dX1_notesAreSo_42 ?_
    refine z_iload (pc := 45) hR 4 dX1_notesAreSo_45 rfl ?_
    refine z_aload_n (pc := 47) hR 0 dX1_notesAreSo_47 rfl rfl ?_
    refine z_getr (pc := 48) hR (c0 := 4) (r := 161) jf_RX1_21 kxo_157 (by decide) rfl rfl dX1_notesAreSo_48 ?_
    refine z_callvp (pc := 51) hR (As := [(0, x2), (2, 161)]) (st := []) jm_X3_areSo jl_RX1_93 kxo_27 (by decide) rfl (by decide) (c_No_areSo N 27 x2 161 M5 kxo_27 kxo_161) rfl (by decide) (by decide) rfl (Nat.le_of_ble_eq_true rfl) dX1_notesAreSo_51 (fun r6 => ?_)
    refine z_ifne (pc := 54) (tgt := 59) hR dX1_notesAreSo_54 (by decide) ?_ ?_
    · refine z_iinc (pc := 59) hR (j := 4) (lv' := [(4, 0, (w32 (x2 + 1))), (0, 2, 157), (1, 2, 14), (2, 2, a2), (3, 0, r1)]) dX1_notesAreSo_59 rfl (by decide) rfl ?_
      refine z_goto (pc := 62) (tgt := 11) hR dX1_notesAreSo_62 (by decide) ?_
      refine z_pick (pc := 11) (lv' := [(0, 2, 157), (1, 2, 14), (2, 2, a2), (3, 0, r1), (4, 0, (w32 (x2 + 1)))]) hR [1, 2, 3, 4, 0] rfl ?_
      exact hh11 ((w32 (x2 + 1)), M5)
    · refine z_iconst (pc := 57) hR dX1_notesAreSo_57 rfl ?_
      exact z_zreturn (pc := 58) hR rfl rfl (Or.inl rfl) dX1_notesAreSo_58 rfl
theorem dX1_leastDepth_0 : decode cX1_leastDepth 0 = .ok (.bipush (-2), 2) := by decide +kernel
theorem dX1_leastDepth_2 : decode cX1_leastDepth 2 = .ok (.istore 4, 2) := by decide +kernel
theorem dX1_leastDepth_4 : decode cX1_leastDepth 4 = .ok (.aload_n 0, 1) := by decide +kernel
theorem dX1_leastDepth_5 : decode cX1_leastDepth 5 = .ok (.iconst 0, 1) := by decide +kernel
theorem dX1_leastDepth_6 : decode cX1_leastDepth 6 = .ok (.putfield 76, 3) := by decide +kernel
theorem dX1_leastDepth_9 : decode cX1_leastDepth 9 = .ok (.bipush 30, 2) := by decide +kernel
theorem dX1_leastDepth_11 : decode cX1_leastDepth 11 = .ok (.istore 5, 2) := by decide +kernel
theorem dX1_leastDepth_13 : decode cX1_leastDepth 13 = .ok (.iload 5, 2) := by decide +kernel
theorem dX1_leastDepth_15 : decode cX1_leastDepth 15 = .ok (.iconst 1, 1) := by decide +kernel
theorem dX1_leastDepth_16 : decode cX1_leastDepth 16 = .ok (.if_icmp .lt 65, 3) := by decide +kernel
theorem dX1_leastDepth_19 : decode cX1_leastDepth 19 = .ok (.aload_n 0, 1) := by decide +kernel
theorem dX1_leastDepth_20 : decode cX1_leastDepth 20 = .ok (.getfield 21, 3) := by decide +kernel
theorem dX1_leastDepth_23 : decode cX1_leastDepth 23 = .ok (.aload_n 1, 1) := by decide +kernel
theorem dX1_leastDepth_24 : decode cX1_leastDepth 24 = .ok (.getfield 54, 3) := by decide +kernel
theorem dX1_leastDepth_27 : decode cX1_leastDepth 27 = .ok (.invokevirtual 97, 3) := by decide +kernel
theorem dX1_leastDepth_30 : decode cX1_leastDepth 30 = .ok (.aload_n 0, 1) := by decide +kernel
theorem dX1_leastDepth_31 : decode cX1_leastDepth 31 = .ok (.getfield 21, 3) := by decide +kernel
theorem dX1_leastDepth_34 : decode cX1_leastDepth 34 = .ok (.getfield 101, 3) := by decide +kernel
theorem dX1_leastDepth_37 : decode cX1_leastDepth 37 = .ok (.iload_n 3, 1) := by decide +kernel
theorem dX1_leastDepth_38 : decode cX1_leastDepth 38 = .ok (.iload 5, 2) := by decide +kernel
theorem dX1_leastDepth_40 : decode cX1_leastDepth 40 = .ok (.iastore, 1) := by decide +kernel
theorem dX1_leastDepth_41 : decode cX1_leastDepth 41 = .ok (.aload_n 0, 1) := by decide +kernel
theorem dX1_leastDepth_42 : decode cX1_leastDepth 42 = .ok (.getfield 21, 3) := by decide +kernel
theorem dX1_leastDepth_45 : decode cX1_leastDepth 45 = .ok (.getfield 104, 3) := by decide +kernel
theorem dX1_leastDepth_48 : decode cX1_leastDepth 48 = .ok (.iload_n 3, 1) := by decide +kernel
theorem dX1_leastDepth_49 : decode cX1_leastDepth 49 = .ok (.iload 5, 2) := by decide +kernel
theorem dX1_leastDepth_51 : decode cX1_leastDepth 51 = .ok (.iastore, 1) := by decide +kernel
theorem dX1_leastDepth_52 : decode cX1_leastDepth 52 = .ok (.aload_n 0, 1) := by decide +kernel
theorem dX1_leastDepth_53 : decode cX1_leastDepth 53 = .ok (.aload_n 1, 1) := by decide +kernel
theorem dX1_leastDepth_54 : decode cX1_leastDepth 54 = .ok (.aload_n 2, 1) := by decide +kernel
theorem dX1_leastDepth_55 : decode cX1_leastDepth 55 = .ok (.invokevirtual 107, 3) := by decide +kernel
theorem dX1_leastDepth_58 : decode cX1_leastDepth 58 = .ok (.ifCond .eq 17, 3) := by decide +kernel
theorem dX1_leastDepth_61 : decode cX1_leastDepth 61 = .ok (.iload 5, 2) := by decide +kernel
theorem dX1_leastDepth_63 : decode cX1_leastDepth 63 = .ok (.istore 4, 2) := by decide +kernel
theorem dX1_leastDepth_65 : decode cX1_leastDepth 65 = .ok (.aload_n 0, 1) := by decide +kernel
theorem dX1_leastDepth_66 : decode cX1_leastDepth 66 = .ok (.dup, 1) := by decide +kernel
theorem dX1_leastDepth_67 : decode cX1_leastDepth 67 = .ok (.getfield 76, 3) := by decide +kernel
theorem dX1_leastDepth_70 : decode cX1_leastDepth 70 = .ok (.iconst 1, 1) := by decide +kernel
theorem dX1_leastDepth_71 : decode cX1_leastDepth 71 = .ok (.iadd, 1) := by decide +kernel
theorem dX1_leastDepth_72 : decode cX1_leastDepth 72 = .ok (.putfield 76, 3) := by decide +kernel
theorem dX1_leastDepth_75 : decode cX1_leastDepth 75 = .ok (.iinc 5 (-1), 3) := by decide +kernel
theorem dX1_leastDepth_78 : decode cX1_leastDepth 78 = .ok (.goto (-65), 3) := by decide +kernel
theorem dX1_leastDepth_81 : decode cX1_leastDepth 81 = .ok (.iload 4, 2) := by decide +kernel
theorem dX1_leastDepth_83 : decode cX1_leastDepth 83 = .ok (.ireturn, 1) := by decide +kernel
def Fo_leastDepth_L13 (N : Nat) (a2 : Int) (a3 : Int) (h13 : (Int × Int × jMem) → Option (Int × jMem)) : Int × Int × jMem → Option (Int × jMem)
  | (x2, x3, M4) => (if x3 < 1 then some (x2, M4) else jbv (St_begin N 161 15 M4) fun M5 => jchk (0 ≤ a3 ∧ a3 < 7) <| jlt (up M5 162 a3 x3) fun M7 => jchk (0 ≤ a3 ∧ a3 < 7) <| jlt (up M7 164 a3 x3) fun M9 => jb1 (Fo_notesAreSo N a2 M9) fun r10 M11 => (if r10 = 0 then h13 (x2, (w32 (x3 + (-1))), M11) else jlt (up M11 157 6 ((w32 (((M11 157 6)) + 1)))) fun M12 => h13 (x3, (w32 (x3 + (-1))), M12)))
def Fo_leastDepth (N : Nat) (a2 a3 : Int) (M : jMem) : Option (Int × jMem) := jlt (up M 157 6 0) fun M1 => jfix N (Fo_leastDepth_L13 N a2 a3) ((-2), 30, M1)
theorem c_Fo_leastDepth {l : Launch} {g : jG} (N : Nat) (a2 a3 : Int) (M : jMem) (ha2 : a2 < 0 ∨ jk jTX a2 5) : ∀ o, Fo_leastDepth N a2 a3 M = some o → jCt l g jTX yX1_leastDepth cX1_leastDepth 6 (some .int) 0 13 [(2, 157), (2, 14), (2, a2), (0, a3)] M o := by
  refine jMet (own := RX1) (em := id) (L := [(0, 2, 157), (1, 2, 14), (2, 2, a2), (3, 0, a3)]) (by decide +kernel) rfl (Nat.le_of_ble_eq_true rfl) rfl (fun K hR => ?_)
  unfold Fo_leastDepth
  refine z_bipush (pc := 0) hR dX1_leastDepth_0 rfl ?_
  refine z_istore (pc := 2) hR (lv' := [(4, 0, (-2)), (0, 2, 157), (1, 2, 14), (2, 2, a2), (3, 0, a3)]) dX1_leastDepth_2 (by decide) rfl ?_
  refine z_aload_n (pc := 4) hR 1 dX1_leastDepth_4 rfl rfl ?_
  refine z_iconst (pc := 5) hR dX1_leastDepth_5 rfl ?_
  refine z_puti (pc := 6) hR (j := 6) jp_RX1_76 kxo_157 (by decide) rfl rfl rfl rfl dX1_leastDepth_6 (fun M1 => ?_)
  refine z_bipush (pc := 9) hR dX1_leastDepth_9 rfl ?_
  refine z_istore (pc := 11) hR (lv' := [(5, 0, 30), (4, 0, (-2)), (0, 2, 157), (1, 2, 14), (2, 2, a2), (3, 0, a3)]) dX1_leastDepth_11 (by decide) rfl ?_
  refine z_pick (pc := 13) (lv' := [(0, 2, 157), (1, 2, 14), (2, 2, a2), (3, 0, a3), (4, 0, (-2)), (5, 0, 30)]) hR [2, 3, 4, 5, 1, 0] rfl ?_
  refine z_fix (σ := Int × Int × jMem) (lv := fun s => [(0, 2, 157), (1, 2, 14), (2, 2, a2), (3, 0, a3), (4, 0, s.1), (5, 0, s.2.1)]) (st := fun _ => []) (M := fun s => s.2.2) (fun h13 hh13 => ?_) N ((-2), 30, M1)
  rintro ⟨x2, x3, M4⟩
  show jZ K id 13 [(0, 2, 157), (1, 2, 14), (2, 2, a2), (3, 0, a3), (4, 0, x2), (5, 0, x3)] [] M4 _
  unfold Fo_leastDepth_L13
  refine z_iload (pc := 13) hR 5 dX1_leastDepth_13 rfl ?_
  refine z_iconst (pc := 15) hR dX1_leastDepth_15 rfl ?_
  refine z_icmplt (pc := 16) (tgt := 81) hR dX1_leastDepth_16 (by decide) ?_ ?_
  · refine z_iload (pc := 81) hR 4 dX1_leastDepth_81 rfl ?_
    exact z_ireturn (pc := 83) hR rfl rfl dX1_leastDepth_83 rfl
  · refine z_aload_n (pc := 19) hR 0 dX1_leastDepth_19 rfl rfl ?_
    refine z_getr (pc := 20) hR (c0 := 4) (r := 161) jf_RX1_21 kxo_157 (by decide) rfl rfl dX1_leastDepth_20 ?_
    refine z_aload_n (pc := 23) hR 1 dX1_leastDepth_23 rfl rfl ?_
    refine z_getr (pc := 24) hR (c0 := 1) (r := 15) jf_RX1_54 kxo_14 (by decide) rfl rfl dX1_leastDepth_24 ?_
    refine z_callv0 (pc := 27) (rk' := 3) hR (As := [(2, 15)]) (st := []) jm_X7_begin jl_RX1_97 kxo_161 (by decide) rfl (c_St_begin N 161 15 M4 kxo_161 kxo_15) rfl (by decide) (by decide) rfl (Nat.le_of_ble_eq_true rfl) dX1_leastDepth_27 (fun M5 => ?_)
    refine z_aload_n (pc := 30) hR 0 dX1_leastDepth_30 rfl rfl ?_
    refine z_getr (pc := 31) hR (c0 := 4) (r := 161) jf_RX1_21 kxo_157 (by decide) rfl rfl dX1_leastDepth_31 ?_
    refine z_getr (pc := 34) hR (c0 := 1) (r := 162) jf_RX1_101 kxo_161 (by decide) rfl rfl dX1_leastDepth_34 ?_
    refine z_iload_n (pc := 37) hR 3 dX1_leastDepth_37 rfl rfl ?_
    refine z_iload (pc := 38) hR 5 dX1_leastDepth_38 rfl ?_
    refine z_chk (fun hc6 => ?_)
    refine z_iast (pc := 40) hR (n := 7) kxa_162 hc6.1 hc6.2 dX1_leastDepth_40 (fun M7 => ?_)
    refine z_aload_n (pc := 41) hR 0 dX1_leastDepth_41 rfl rfl ?_
    refine z_getr (pc := 42) hR (c0 := 4) (r := 161) jf_RX1_21 kxo_157 (by decide) rfl rfl dX1_leastDepth_42 ?_
    refine z_getr (pc := 45) hR (c0 := 3) (r := 164) jf_RX1_104 kxo_161 (by decide) rfl rfl dX1_leastDepth_45 ?_
    refine z_iload_n (pc := 48) hR 3 dX1_leastDepth_48 rfl rfl ?_
    refine z_iload (pc := 49) hR 5 dX1_leastDepth_49 rfl ?_
    refine z_chk (fun hc8 => ?_)
    refine z_iast (pc := 51) hR (n := 7) kxa_164 hc8.1 hc8.2 dX1_leastDepth_51 (fun M9 => ?_)
    refine z_aload_n (pc := 52) hR 0 dX1_leastDepth_52 rfl rfl ?_
    refine z_aload_n (pc := 53) hR 1 dX1_leastDepth_53 rfl rfl ?_
    refine z_aload_n (pc := 54) hR 2 dX1_leastDepth_54 rfl rfl ?_
    refine z_callv1 (pc := 55) hR (As := [(2, 14), (2, a2)]) (st := []) jm_X1_notesAreSo jl_RX1_107 kxo_157 (by decide) rfl (by decide) (c_Fo_notesAreSo N a2 M9 ha2) rfl (by decide) (by decide) rfl (Nat.le_of_ble_eq_true rfl) dX1_leastDepth_55 (fun r10 M11 => ?_)
    refine z_ifeq (pc := 58) (tgt := 75) hR dX1_leastDepth_58 (by decide) ?_ ?_
    · refine z_iinc (pc := 75) hR (j := 5) (lv' := [(5, 0, (w32 (x3 + (-1)))), (0, 2, 157), (1, 2, 14), (2, 2, a2), (3, 0, a3), (4, 0, x2)]) dX1_leastDepth_75 rfl (by decide) rfl ?_
      refine z_goto (pc := 78) (tgt := 13) hR dX1_leastDepth_78 (by decide) ?_
      refine z_pick (pc := 13) (lv' := [(0, 2, 157), (1, 2, 14), (2, 2, a2), (3, 0, a3), (4, 0, x2), (5, 0, (w32 (x3 + (-1))))]) hR [1, 2, 3, 4, 5, 0] rfl ?_
      exact hh13 (x2, (w32 (x3 + (-1))), M11)
    · refine z_iload (pc := 61) hR 5 dX1_leastDepth_61 rfl ?_
      refine z_istore (pc := 63) hR (lv' := [(4, 0, x3), (0, 2, 157), (1, 2, 14), (2, 2, a2), (3, 0, a3), (5, 0, x3)]) dX1_leastDepth_63 (by decide) rfl ?_
      refine z_aload_n (pc := 65) hR 1 dX1_leastDepth_65 rfl rfl ?_
      refine z_dup (pc := 66) hR dX1_leastDepth_66 (by decide) ?_
      refine z_geti (pc := 67) hR (j := 6) jf_RX1_76 kxo_157 (by decide) rfl rfl dX1_leastDepth_67 ?_
      refine z_iconst (pc := 70) hR dX1_leastDepth_70 rfl ?_
      refine z_iadd (pc := 71) hR dX1_leastDepth_71 ?_
      refine z_puti (pc := 72) hR (j := 6) jp_RX1_76 kxo_157 (by decide) rfl rfl rfl rfl dX1_leastDepth_72 (fun M12 => ?_)
      refine z_iinc (pc := 75) hR (j := 5) (lv' := [(5, 0, (w32 (x3 + (-1)))), (4, 0, x3), (0, 2, 157), (1, 2, 14), (2, 2, a2), (3, 0, a3)]) dX1_leastDepth_75 rfl (by decide) rfl ?_
      refine z_goto (pc := 78) (tgt := 13) hR dX1_leastDepth_78 (by decide) ?_
      refine z_pick (pc := 13) (lv' := [(0, 2, 157), (1, 2, 14), (2, 2, a2), (3, 0, a3), (4, 0, x3), (5, 0, (w32 (x3 + (-1))))]) hR [2, 3, 4, 5, 1, 0] rfl ?_
      exact hh13 (x3, (w32 (x3 + (-1))), M12)
theorem dX11_depths_0 : decode cX11_depths 0 = .ok (.aload_n 0, 1) := by decide +kernel
theorem dX11_depths_1 : decode cX11_depths 1 = .ok (.iload_n 1, 1) := by decide +kernel
theorem dX11_depths_2 : decode cX11_depths 2 = .ok (.invokevirtual 144, 3) := by decide +kernel
theorem dX11_depths_5 : decode cX11_depths 5 = .ok (.ifCond .eq 12, 3) := by decide +kernel
theorem dX11_depths_8 : decode cX11_depths 8 = .ok (.iload_n 2, 1) := by decide +kernel
theorem dX11_depths_9 : decode cX11_depths 9 = .ok (.iconst 0, 1) := by decide +kernel
theorem dX11_depths_10 : decode cX11_depths 10 = .ok (.iconst 1, 1) := by decide +kernel
theorem dX11_depths_11 : decode cX11_depths 11 = .ok (.invokestatic 137, 3) := by decide +kernel
theorem dX11_depths_14 : decode cX11_depths 14 = .ok (.ifCond .ne 5, 3) := by decide +kernel
theorem dX11_depths_17 : decode cX11_depths 17 = .ok (.iconst (-1), 1) := by decide +kernel
theorem dX11_depths_18 : decode cX11_depths 18 = .ok (.ireturn, 1) := by decide +kernel
theorem dX11_depths_19 : decode cX11_depths 19 = .ok (.aload_n 0, 1) := by decide +kernel
theorem dX11_depths_20 : decode cX11_depths 20 = .ok (.getfield 68, 3) := by decide +kernel
theorem dX11_depths_23 : decode cX11_depths 23 = .ok (.aload_n 0, 1) := by decide +kernel
theorem dX11_depths_24 : decode cX11_depths 24 = .ok (.getfield 43, 3) := by decide +kernel
theorem dX11_depths_27 : decode cX11_depths 27 = .ok (.aload_n 0, 1) := by decide +kernel
theorem dX11_depths_28 : decode cX11_depths 28 = .ok (.invokevirtual 215, 3) := by decide +kernel
theorem dX11_depths_31 : decode cX11_depths 31 = .ok (.iload_n 1, 1) := by decide +kernel
theorem dX11_depths_32 : decode cX11_depths 32 = .ok (.invokevirtual 304, 3) := by decide +kernel
theorem dX11_depths_35 : decode cX11_depths 35 = .ok (.istore_n 3, 1) := by decide +kernel
theorem dX11_depths_36 : decode cX11_depths 36 = .ok (.iload_n 2, 1) := by decide +kernel
theorem dX11_depths_37 : decode cX11_depths 37 = .ok (.ifCond .ne 13, 3) := by decide +kernel
theorem dX11_depths_40 : decode cX11_depths 40 = .ok (.aload_n 0, 1) := by decide +kernel
theorem dX11_depths_41 : decode cX11_depths 41 = .ok (.getfield 68, 3) := by decide +kernel
theorem dX11_depths_44 : decode cX11_depths 44 = .ok (.getfield 289, 3) := by decide +kernel
theorem dX11_depths_47 : decode cX11_depths 47 = .ok (.goto 4, 3) := by decide +kernel
theorem dX11_depths_50 : decode cX11_depths 50 = .ok (.iload_n 3, 1) := by decide +kernel
theorem dX11_depths_51 : decode cX11_depths 51 = .ok (.ireturn, 1) := by decide +kernel
def x_depths (N : Nat) (a1 a2 : Int) (M : jMem) : Option (Int × jMem) := (x_isWell N a1 M).bind fun r1 => (if r1 = 0 then some ((-1), M) else (x_isWithin N a2 0 1 M).bind fun r2 => (if r2 = 0 then some ((-1), M) else (x_ruleInForce N M).bind fun r3 => jchk (jnb jTX r3 5 = true) <| jb1 (Fo_leastDepth N r3 a1 M) fun r5 M6 => (if a2 = 0 then some ((M6 157 6), M6) else some (r5, M6))))
theorem c_x_depths {l : Launch} {g : jG} (N : Nat) (a1 a2 : Int) (M : jMem)  : ∀ o, x_depths N a1 a2 M = some o → jCt l g jTX yX11_depths cX11_depths 4 (some .int) 0 15 [(2, 0), (0, a1), (0, a2)] M o := by
  refine jMet (own := RX11) (em := id) (L := [(0, 2, 0), (1, 0, a1), (2, 0, a2)]) (by decide +kernel) rfl (Nat.le_of_ble_eq_true rfl) rfl (fun K hR => ?_)
  unfold x_depths
  refine z_aload_n (pc := 0) hR 0 dX11_depths_0 rfl rfl ?_
  refine z_iload_n (pc := 1) hR 1 dX11_depths_1 rfl rfl ?_
  refine z_callvp (pc := 2) hR (As := [(0, a1)]) (st := []) jm_X11_isWell jl_RX11_144 kxo_0 (by decide) rfl (by decide) (c_x_isWell N a1 M) rfl (by decide) (by decide) rfl (Nat.le_of_ble_eq_true rfl) dX11_depths_2 (fun r1 => ?_)
  refine z_ifeq (pc := 5) (tgt := 17) hR dX11_depths_5 (by decide) ?_ ?_
  · refine z_iconst (pc := 17) hR dX11_depths_17 rfl ?_
    exact z_ireturn (pc := 18) hR rfl rfl dX11_depths_18 rfl
  · refine z_iload_n (pc := 8) hR 2 dX11_depths_8 rfl rfl ?_
    refine z_iconst (pc := 9) hR dX11_depths_9 rfl ?_
    refine z_iconst (pc := 10) hR dX11_depths_10 rfl ?_
    refine z_callsp (pc := 11) hR (As := [(0, a2), (0, 0), (0, 1)]) (st := []) jm_X11_isWithin jl_RX11_137 (by decide) (c_x_isWithin N a2 0 1 M) rfl (by decide) (by decide) rfl (Nat.le_of_ble_eq_true rfl) dX11_depths_11 (fun r2 => ?_)
    refine z_ifne (pc := 14) (tgt := 19) hR dX11_depths_14 (by decide) ?_ ?_
    · refine z_aload_n (pc := 19) hR 0 dX11_depths_19 rfl rfl ?_
      refine z_getr (pc := 20) hR (c0 := 157) (r := 157) jf_RX11_68 kxo_0 (by decide) rfl rfl dX11_depths_20 ?_
      refine z_aload_n (pc := 23) hR 0 dX11_depths_23 rfl rfl ?_
      refine z_getr (pc := 24) hR (c0 := 14) (r := 14) jf_RX11_43 kxo_0 (by decide) rfl rfl dX11_depths_24 ?_
      refine z_aload_n (pc := 27) hR 0 dX11_depths_27 rfl rfl ?_
      refine z_callvp (pc := 28) hR (As := []) (st := [(2, 14), (2, 157)]) jm_X11_ruleInForce jl_RX11_215 kxo_0 (by decide) rfl (by decide) (c_x_ruleInForce N M) rfl (by decide) (by decide) rfl (Nat.le_of_ble_eq_true rfl) dX11_depths_28 (fun r3 => ?_)
      refine z_chk (fun hc4 => ?_)
      refine z_iload_n (pc := 31) hR 1 dX11_depths_31 rfl rfl ?_
      refine z_callv1 (pc := 32) hR (As := [(2, 14), (2, r3), (0, a1)]) (st := []) jm_X1_leastDepth jl_RX11_304 kxo_157 (by decide) rfl (by decide) (c_Fo_leastDepth N r3 a1 M (jnb_ok hc4)) rfl (by decide) (by decide) rfl (Nat.le_of_ble_eq_true rfl) dX11_depths_32 (fun r5 M6 => ?_)
      refine z_istore_n (pc := 35) hR (lv' := [(3, 0, r5), (0, 2, 0), (1, 0, a1), (2, 0, a2)]) dX11_depths_35 rfl (by decide) rfl ?_
      refine z_iload_n (pc := 36) hR 3 dX11_depths_36 rfl rfl ?_
      refine z_ifne (pc := 37) (tgt := 50) hR dX11_depths_37 (by decide) ?_ ?_
      · refine z_iload_n (pc := 50) hR 0 dX11_depths_50 rfl rfl ?_
        exact z_ireturn (pc := 51) hR rfl rfl dX11_depths_51 rfl
      · refine z_aload_n (pc := 40) hR 1 dX11_depths_40 rfl rfl ?_
        refine z_getr (pc := 41) hR (c0 := 157) (r := 157) jf_RX11_68 kxo_0 (by decide) rfl rfl dX11_depths_41 ?_
        refine z_geti (pc := 44) hR (j := 6) jf_RX11_289 kxo_157 (by decide) rfl rfl dX11_depths_44 ?_
        refine z_goto (pc := 47) (tgt := 51) hR dX11_depths_47 (by decide) ?_
        exact z_ireturn (pc := 51) hR rfl rfl dX11_depths_51 rfl
    · refine z_iconst (pc := 17) hR dX11_depths_17 rfl ?_
      exact z_ireturn (pc := 18) hR rfl rfl dX11_depths_18 rfl
theorem dX1_leastTaste_0 : decode cX1_leastTaste 0 = .ok (.bipush (-2), 2) := by decide +kernel
theorem dX1_leastTaste_2 : decode cX1_leastTaste 2 = .ok (.istore 4, 2) := by decide +kernel
theorem dX1_leastTaste_4 : decode cX1_leastTaste 4 = .ok (.aload_n 0, 1) := by decide +kernel
theorem dX1_leastTaste_5 : decode cX1_leastTaste 5 = .ok (.iconst 0, 1) := by decide +kernel
theorem dX1_leastTaste_6 : decode cX1_leastTaste 6 = .ok (.putfield 76, 3) := by decide +kernel
theorem dX1_leastTaste_9 : decode cX1_leastTaste 9 = .ok (.bipush 60, 2) := by decide +kernel
theorem dX1_leastTaste_11 : decode cX1_leastTaste 11 = .ok (.istore 5, 2) := by decide +kernel
theorem dX1_leastTaste_13 : decode cX1_leastTaste 13 = .ok (.iload 5, 2) := by decide +kernel
theorem dX1_leastTaste_15 : decode cX1_leastTaste 15 = .ok (.ifCond .lt 54, 3) := by decide +kernel
theorem dX1_leastTaste_18 : decode cX1_leastTaste 18 = .ok (.aload_n 0, 1) := by decide +kernel
theorem dX1_leastTaste_19 : decode cX1_leastTaste 19 = .ok (.getfield 21, 3) := by decide +kernel
theorem dX1_leastTaste_22 : decode cX1_leastTaste 22 = .ok (.aload_n 1, 1) := by decide +kernel
theorem dX1_leastTaste_23 : decode cX1_leastTaste 23 = .ok (.getfield 54, 3) := by decide +kernel
theorem dX1_leastTaste_26 : decode cX1_leastTaste 26 = .ok (.invokevirtual 97, 3) := by decide +kernel
theorem dX1_leastTaste_29 : decode cX1_leastTaste 29 = .ok (.aload_n 0, 1) := by decide +kernel
theorem dX1_leastTaste_30 : decode cX1_leastTaste 30 = .ok (.getfield 21, 3) := by decide +kernel
theorem dX1_leastTaste_33 : decode cX1_leastTaste 33 = .ok (.getfield 111, 3) := by decide +kernel
theorem dX1_leastTaste_36 : decode cX1_leastTaste 36 = .ok (.iload_n 3, 1) := by decide +kernel
theorem dX1_leastTaste_37 : decode cX1_leastTaste 37 = .ok (.iload 5, 2) := by decide +kernel
theorem dX1_leastTaste_39 : decode cX1_leastTaste 39 = .ok (.iastore, 1) := by decide +kernel
theorem dX1_leastTaste_40 : decode cX1_leastTaste 40 = .ok (.aload_n 0, 1) := by decide +kernel
theorem dX1_leastTaste_41 : decode cX1_leastTaste 41 = .ok (.aload_n 1, 1) := by decide +kernel
theorem dX1_leastTaste_42 : decode cX1_leastTaste 42 = .ok (.aload_n 2, 1) := by decide +kernel
theorem dX1_leastTaste_43 : decode cX1_leastTaste 43 = .ok (.invokevirtual 107, 3) := by decide +kernel
theorem dX1_leastTaste_46 : decode cX1_leastTaste 46 = .ok (.ifCond .eq 17, 3) := by decide +kernel
theorem dX1_leastTaste_49 : decode cX1_leastTaste 49 = .ok (.iload 5, 2) := by decide +kernel
theorem dX1_leastTaste_51 : decode cX1_leastTaste 51 = .ok (.istore 4, 2) := by decide +kernel
theorem dX1_leastTaste_53 : decode cX1_leastTaste 53 = .ok (.aload_n 0, 1) := by decide +kernel
theorem dX1_leastTaste_54 : decode cX1_leastTaste 54 = .ok (.dup, 1) := by decide +kernel
theorem dX1_leastTaste_55 : decode cX1_leastTaste 55 = .ok (.getfield 76, 3) := by decide +kernel
theorem dX1_leastTaste_58 : decode cX1_leastTaste 58 = .ok (.iconst 1, 1) := by decide +kernel
theorem dX1_leastTaste_59 : decode cX1_leastTaste 59 = .ok (.iadd, 1) := by decide +kernel
theorem dX1_leastTaste_60 : decode cX1_leastTaste 60 = .ok (.putfield 76, 3) := by decide +kernel
theorem dX1_leastTaste_63 : decode cX1_leastTaste 63 = .ok (.iinc 5 (-1), 3) := by decide +kernel
theorem dX1_leastTaste_66 : decode cX1_leastTaste 66 = .ok (.goto (-53), 3) := by decide +kernel
theorem dX1_leastTaste_69 : decode cX1_leastTaste 69 = .ok (.iload 4, 2) := by decide +kernel
theorem dX1_leastTaste_71 : decode cX1_leastTaste 71 = .ok (.ireturn, 1) := by decide +kernel
def Fo_leastTaste_L13 (N : Nat) (a2 : Int) (a3 : Int) (h13 : (Int × Int × jMem) → Option (Int × jMem)) : Int × Int × jMem → Option (Int × jMem)
  | (x2, x3, M4) => (if x3 < 0 then some (x2, M4) else jbv (St_begin N 161 15 M4) fun M5 => jchk (0 ≤ a3 ∧ a3 < 7) <| jlt (up M5 163 a3 x3) fun M7 => jb1 (Fo_notesAreSo N a2 M7) fun r8 M9 => (if r8 = 0 then h13 (x2, (w32 (x3 + (-1))), M9) else jlt (up M9 157 6 ((w32 (((M9 157 6)) + 1)))) fun M10 => h13 (x3, (w32 (x3 + (-1))), M10)))
def Fo_leastTaste (N : Nat) (a2 a3 : Int) (M : jMem) : Option (Int × jMem) := jlt (up M 157 6 0) fun M1 => jfix N (Fo_leastTaste_L13 N a2 a3) ((-2), 60, M1)
theorem c_Fo_leastTaste {l : Launch} {g : jG} (N : Nat) (a2 a3 : Int) (M : jMem) (ha2 : a2 < 0 ∨ jk jTX a2 5) : ∀ o, Fo_leastTaste N a2 a3 M = some o → jCt l g jTX yX1_leastTaste cX1_leastTaste 6 (some .int) 0 13 [(2, 157), (2, 14), (2, a2), (0, a3)] M o := by
  refine jMet (own := RX1) (em := id) (L := [(0, 2, 157), (1, 2, 14), (2, 2, a2), (3, 0, a3)]) (by decide +kernel) rfl (Nat.le_of_ble_eq_true rfl) rfl (fun K hR => ?_)
  unfold Fo_leastTaste
  refine z_bipush (pc := 0) hR dX1_leastTaste_0 rfl ?_
  refine z_istore (pc := 2) hR (lv' := [(4, 0, (-2)), (0, 2, 157), (1, 2, 14), (2, 2, a2), (3, 0, a3)]) dX1_leastTaste_2 (by decide) rfl ?_
  refine z_aload_n (pc := 4) hR 1 dX1_leastTaste_4 rfl rfl ?_
  refine z_iconst (pc := 5) hR dX1_leastTaste_5 rfl ?_
  refine z_puti (pc := 6) hR (j := 6) jp_RX1_76 kxo_157 (by decide) rfl rfl rfl rfl dX1_leastTaste_6 (fun M1 => ?_)
  refine z_bipush (pc := 9) hR dX1_leastTaste_9 rfl ?_
  refine z_istore (pc := 11) hR (lv' := [(5, 0, 60), (4, 0, (-2)), (0, 2, 157), (1, 2, 14), (2, 2, a2), (3, 0, a3)]) dX1_leastTaste_11 (by decide) rfl ?_
  refine z_pick (pc := 13) (lv' := [(0, 2, 157), (1, 2, 14), (2, 2, a2), (3, 0, a3), (4, 0, (-2)), (5, 0, 60)]) hR [2, 3, 4, 5, 1, 0] rfl ?_
  refine z_fix (σ := Int × Int × jMem) (lv := fun s => [(0, 2, 157), (1, 2, 14), (2, 2, a2), (3, 0, a3), (4, 0, s.1), (5, 0, s.2.1)]) (st := fun _ => []) (M := fun s => s.2.2) (fun h13 hh13 => ?_) N ((-2), 60, M1)
  rintro ⟨x2, x3, M4⟩
  show jZ K id 13 [(0, 2, 157), (1, 2, 14), (2, 2, a2), (3, 0, a3), (4, 0, x2), (5, 0, x3)] [] M4 _
  unfold Fo_leastTaste_L13
  refine z_iload (pc := 13) hR 5 dX1_leastTaste_13 rfl ?_
  refine z_iflt (pc := 15) (tgt := 69) hR dX1_leastTaste_15 (by decide) ?_ ?_
  · refine z_iload (pc := 69) hR 4 dX1_leastTaste_69 rfl ?_
    exact z_ireturn (pc := 71) hR rfl rfl dX1_leastTaste_71 rfl
  · refine z_aload_n (pc := 18) hR 0 dX1_leastTaste_18 rfl rfl ?_
    refine z_getr (pc := 19) hR (c0 := 4) (r := 161) jf_RX1_21 kxo_157 (by decide) rfl rfl dX1_leastTaste_19 ?_
    refine z_aload_n (pc := 22) hR 1 dX1_leastTaste_22 rfl rfl ?_
    refine z_getr (pc := 23) hR (c0 := 1) (r := 15) jf_RX1_54 kxo_14 (by decide) rfl rfl dX1_leastTaste_23 ?_
    refine z_callv0 (pc := 26) (rk' := 3) hR (As := [(2, 15)]) (st := []) jm_X7_begin jl_RX1_97 kxo_161 (by decide) rfl (c_St_begin N 161 15 M4 kxo_161 kxo_15) rfl (by decide) (by decide) rfl (Nat.le_of_ble_eq_true rfl) dX1_leastTaste_26 (fun M5 => ?_)
    refine z_aload_n (pc := 29) hR 0 dX1_leastTaste_29 rfl rfl ?_
    refine z_getr (pc := 30) hR (c0 := 4) (r := 161) jf_RX1_21 kxo_157 (by decide) rfl rfl dX1_leastTaste_30 ?_
    refine z_getr (pc := 33) hR (c0 := 2) (r := 163) jf_RX1_111 kxo_161 (by decide) rfl rfl dX1_leastTaste_33 ?_
    refine z_iload_n (pc := 36) hR 3 dX1_leastTaste_36 rfl rfl ?_
    refine z_iload (pc := 37) hR 5 dX1_leastTaste_37 rfl ?_
    refine z_chk (fun hc6 => ?_)
    refine z_iast (pc := 39) hR (n := 7) kxa_163 hc6.1 hc6.2 dX1_leastTaste_39 (fun M7 => ?_)
    refine z_aload_n (pc := 40) hR 0 dX1_leastTaste_40 rfl rfl ?_
    refine z_aload_n (pc := 41) hR 1 dX1_leastTaste_41 rfl rfl ?_
    refine z_aload_n (pc := 42) hR 2 dX1_leastTaste_42 rfl rfl ?_
    refine z_callv1 (pc := 43) hR (As := [(2, 14), (2, a2)]) (st := []) jm_X1_notesAreSo jl_RX1_107 kxo_157 (by decide) rfl (by decide) (c_Fo_notesAreSo N a2 M7 ha2) rfl (by decide) (by decide) rfl (Nat.le_of_ble_eq_true rfl) dX1_leastTaste_43 (fun r8 M9 => ?_)
    refine z_ifeq (pc := 46) (tgt := 63) hR dX1_leastTaste_46 (by decide) ?_ ?_
    · refine z_iinc (pc := 63) hR (j := 5) (lv' := [(5, 0, (w32 (x3 + (-1)))), (0, 2, 157), (1, 2, 14), (2, 2, a2), (3, 0, a3), (4, 0, x2)]) dX1_leastTaste_63 rfl (by decide) rfl ?_
      refine z_goto (pc := 66) (tgt := 13) hR dX1_leastTaste_66 (by decide) ?_
      refine z_pick (pc := 13) (lv' := [(0, 2, 157), (1, 2, 14), (2, 2, a2), (3, 0, a3), (4, 0, x2), (5, 0, (w32 (x3 + (-1))))]) hR [1, 2, 3, 4, 5, 0] rfl ?_
      exact hh13 (x2, (w32 (x3 + (-1))), M9)
    · refine z_iload (pc := 49) hR 5 dX1_leastTaste_49 rfl ?_
      refine z_istore (pc := 51) hR (lv' := [(4, 0, x3), (0, 2, 157), (1, 2, 14), (2, 2, a2), (3, 0, a3), (5, 0, x3)]) dX1_leastTaste_51 (by decide) rfl ?_
      refine z_aload_n (pc := 53) hR 1 dX1_leastTaste_53 rfl rfl ?_
      refine z_dup (pc := 54) hR dX1_leastTaste_54 (by decide) ?_
      refine z_geti (pc := 55) hR (j := 6) jf_RX1_76 kxo_157 (by decide) rfl rfl dX1_leastTaste_55 ?_
      refine z_iconst (pc := 58) hR dX1_leastTaste_58 rfl ?_
      refine z_iadd (pc := 59) hR dX1_leastTaste_59 ?_
      refine z_puti (pc := 60) hR (j := 6) jp_RX1_76 kxo_157 (by decide) rfl rfl rfl rfl dX1_leastTaste_60 (fun M10 => ?_)
      refine z_iinc (pc := 63) hR (j := 5) (lv' := [(5, 0, (w32 (x3 + (-1)))), (4, 0, x3), (0, 2, 157), (1, 2, 14), (2, 2, a2), (3, 0, a3)]) dX1_leastTaste_63 rfl (by decide) rfl ?_
      refine z_goto (pc := 66) (tgt := 13) hR dX1_leastTaste_66 (by decide) ?_
      refine z_pick (pc := 13) (lv' := [(0, 2, 157), (1, 2, 14), (2, 2, a2), (3, 0, a3), (4, 0, x3), (5, 0, (w32 (x3 + (-1))))]) hR [2, 3, 4, 5, 1, 0] rfl ?_
      exact hh13 (x3, (w32 (x3 + (-1))), M10)
theorem dX11_tastes_0 : decode cX11_tastes 0 = .ok (.aload_n 0, 1) := by decide +kernel
theorem dX11_tastes_1 : decode cX11_tastes 1 = .ok (.iload_n 1, 1) := by decide +kernel
theorem dX11_tastes_2 : decode cX11_tastes 2 = .ok (.invokevirtual 144, 3) := by decide +kernel
theorem dX11_tastes_5 : decode cX11_tastes 5 = .ok (.ifCond .eq 12, 3) := by decide +kernel
theorem dX11_tastes_8 : decode cX11_tastes 8 = .ok (.iload_n 2, 1) := by decide +kernel
theorem dX11_tastes_9 : decode cX11_tastes 9 = .ok (.iconst 0, 1) := by decide +kernel
theorem dX11_tastes_10 : decode cX11_tastes 10 = .ok (.iconst 1, 1) := by decide +kernel
theorem dX11_tastes_11 : decode cX11_tastes 11 = .ok (.invokestatic 137, 3) := by decide +kernel
theorem dX11_tastes_14 : decode cX11_tastes 14 = .ok (.ifCond .ne 5, 3) := by decide +kernel
theorem dX11_tastes_17 : decode cX11_tastes 17 = .ok (.iconst (-1), 1) := by decide +kernel
theorem dX11_tastes_18 : decode cX11_tastes 18 = .ok (.ireturn, 1) := by decide +kernel
theorem dX11_tastes_19 : decode cX11_tastes 19 = .ok (.aload_n 0, 1) := by decide +kernel
theorem dX11_tastes_20 : decode cX11_tastes 20 = .ok (.getfield 68, 3) := by decide +kernel
theorem dX11_tastes_23 : decode cX11_tastes 23 = .ok (.aload_n 0, 1) := by decide +kernel
theorem dX11_tastes_24 : decode cX11_tastes 24 = .ok (.getfield 43, 3) := by decide +kernel
theorem dX11_tastes_27 : decode cX11_tastes 27 = .ok (.aload_n 0, 1) := by decide +kernel
theorem dX11_tastes_28 : decode cX11_tastes 28 = .ok (.invokevirtual 215, 3) := by decide +kernel
theorem dX11_tastes_31 : decode cX11_tastes 31 = .ok (.iload_n 1, 1) := by decide +kernel
theorem dX11_tastes_32 : decode cX11_tastes 32 = .ok (.invokevirtual 307, 3) := by decide +kernel
theorem dX11_tastes_35 : decode cX11_tastes 35 = .ok (.istore_n 3, 1) := by decide +kernel
theorem dX11_tastes_36 : decode cX11_tastes 36 = .ok (.iload_n 2, 1) := by decide +kernel
theorem dX11_tastes_37 : decode cX11_tastes 37 = .ok (.ifCond .ne 13, 3) := by decide +kernel
theorem dX11_tastes_40 : decode cX11_tastes 40 = .ok (.aload_n 0, 1) := by decide +kernel
theorem dX11_tastes_41 : decode cX11_tastes 41 = .ok (.getfield 68, 3) := by decide +kernel
theorem dX11_tastes_44 : decode cX11_tastes 44 = .ok (.getfield 289, 3) := by decide +kernel
theorem dX11_tastes_47 : decode cX11_tastes 47 = .ok (.goto 4, 3) := by decide +kernel
theorem dX11_tastes_50 : decode cX11_tastes 50 = .ok (.iload_n 3, 1) := by decide +kernel
theorem dX11_tastes_51 : decode cX11_tastes 51 = .ok (.ireturn, 1) := by decide +kernel
def x_tastes (N : Nat) (a1 a2 : Int) (M : jMem) : Option (Int × jMem) := (x_isWell N a1 M).bind fun r1 => (if r1 = 0 then some ((-1), M) else (x_isWithin N a2 0 1 M).bind fun r2 => (if r2 = 0 then some ((-1), M) else (x_ruleInForce N M).bind fun r3 => jchk (jnb jTX r3 5 = true) <| jb1 (Fo_leastTaste N r3 a1 M) fun r5 M6 => (if a2 = 0 then some ((M6 157 6), M6) else some (r5, M6))))
theorem c_x_tastes {l : Launch} {g : jG} (N : Nat) (a1 a2 : Int) (M : jMem)  : ∀ o, x_tastes N a1 a2 M = some o → jCt l g jTX yX11_tastes cX11_tastes 4 (some .int) 0 15 [(2, 0), (0, a1), (0, a2)] M o := by
  refine jMet (own := RX11) (em := id) (L := [(0, 2, 0), (1, 0, a1), (2, 0, a2)]) (by decide +kernel) rfl (Nat.le_of_ble_eq_true rfl) rfl (fun K hR => ?_)
  unfold x_tastes
  refine z_aload_n (pc := 0) hR 0 dX11_tastes_0 rfl rfl ?_
  refine z_iload_n (pc := 1) hR 1 dX11_tastes_1 rfl rfl ?_
  refine z_callvp (pc := 2) hR (As := [(0, a1)]) (st := []) jm_X11_isWell jl_RX11_144 kxo_0 (by decide) rfl (by decide) (c_x_isWell N a1 M) rfl (by decide) (by decide) rfl (Nat.le_of_ble_eq_true rfl) dX11_tastes_2 (fun r1 => ?_)
  refine z_ifeq (pc := 5) (tgt := 17) hR dX11_tastes_5 (by decide) ?_ ?_
  · refine z_iconst (pc := 17) hR dX11_tastes_17 rfl ?_
    exact z_ireturn (pc := 18) hR rfl rfl dX11_tastes_18 rfl
  · refine z_iload_n (pc := 8) hR 2 dX11_tastes_8 rfl rfl ?_
    refine z_iconst (pc := 9) hR dX11_tastes_9 rfl ?_
    refine z_iconst (pc := 10) hR dX11_tastes_10 rfl ?_
    refine z_callsp (pc := 11) hR (As := [(0, a2), (0, 0), (0, 1)]) (st := []) jm_X11_isWithin jl_RX11_137 (by decide) (c_x_isWithin N a2 0 1 M) rfl (by decide) (by decide) rfl (Nat.le_of_ble_eq_true rfl) dX11_tastes_11 (fun r2 => ?_)
    refine z_ifne (pc := 14) (tgt := 19) hR dX11_tastes_14 (by decide) ?_ ?_
    · refine z_aload_n (pc := 19) hR 0 dX11_tastes_19 rfl rfl ?_
      refine z_getr (pc := 20) hR (c0 := 157) (r := 157) jf_RX11_68 kxo_0 (by decide) rfl rfl dX11_tastes_20 ?_
      refine z_aload_n (pc := 23) hR 0 dX11_tastes_23 rfl rfl ?_
      refine z_getr (pc := 24) hR (c0 := 14) (r := 14) jf_RX11_43 kxo_0 (by decide) rfl rfl dX11_tastes_24 ?_
      refine z_aload_n (pc := 27) hR 0 dX11_tastes_27 rfl rfl ?_
      refine z_callvp (pc := 28) hR (As := []) (st := [(2, 14), (2, 157)]) jm_X11_ruleInForce jl_RX11_215 kxo_0 (by decide) rfl (by decide) (c_x_ruleInForce N M) rfl (by decide) (by decide) rfl (Nat.le_of_ble_eq_true rfl) dX11_tastes_28 (fun r3 => ?_)
      refine z_chk (fun hc4 => ?_)
      refine z_iload_n (pc := 31) hR 1 dX11_tastes_31 rfl rfl ?_
      refine z_callv1 (pc := 32) hR (As := [(2, 14), (2, r3), (0, a1)]) (st := []) jm_X1_leastTaste jl_RX11_307 kxo_157 (by decide) rfl (by decide) (c_Fo_leastTaste N r3 a1 M (jnb_ok hc4)) rfl (by decide) (by decide) rfl (Nat.le_of_ble_eq_true rfl) dX11_tastes_32 (fun r5 M6 => ?_)
      refine z_istore_n (pc := 35) hR (lv' := [(3, 0, r5), (0, 2, 0), (1, 0, a1), (2, 0, a2)]) dX11_tastes_35 rfl (by decide) rfl ?_
      refine z_iload_n (pc := 36) hR 3 dX11_tastes_36 rfl rfl ?_
      refine z_ifne (pc := 37) (tgt := 50) hR dX11_tastes_37 (by decide) ?_ ?_
      · refine z_iload_n (pc := 50) hR 0 dX11_tastes_50 rfl rfl ?_
        exact z_ireturn (pc := 51) hR rfl rfl dX11_tastes_51 rfl
      · refine z_aload_n (pc := 40) hR 1 dX11_tastes_40 rfl rfl ?_
        refine z_getr (pc := 41) hR (c0 := 157) (r := 157) jf_RX11_68 kxo_0 (by decide) rfl rfl dX11_tastes_41 ?_
        refine z_geti (pc := 44) hR (j := 6) jf_RX11_289 kxo_157 (by decide) rfl rfl dX11_tastes_44 ?_
        refine z_goto (pc := 47) (tgt := 51) hR dX11_tastes_47 (by decide) ?_
        exact z_ireturn (pc := 51) hR rfl rfl dX11_tastes_51 rfl
    · refine z_iconst (pc := 17) hR dX11_tastes_17 rfl ?_
      exact z_ireturn (pc := 18) hR rfl rfl dX11_tastes_18 rfl
theorem dX1_ruleOf_0 : decode cX1_ruleOf 0 = .ok (.iload_n 1, 1) := by decide +kernel
theorem dX1_ruleOf_1 : decode cX1_ruleOf 1 = .ok (.ifCond .le 17, 3) := by decide +kernel
theorem dX1_ruleOf_4 : decode cX1_ruleOf 4 = .ok (.iload_n 1, 1) := by decide +kernel
theorem dX1_ruleOf_5 : decode cX1_ruleOf 5 = .ok (.aload_n 0, 1) := by decide +kernel
theorem dX1_ruleOf_6 : decode cX1_ruleOf 6 = .ok (.arraylength, 1) := by decide +kernel
theorem dX1_ruleOf_7 : decode cX1_ruleOf 7 = .ok (.if_icmp .gt 11, 3) := by decide +kernel
theorem dX1_ruleOf_10 : decode cX1_ruleOf 10 = .ok (.aload_n 0, 1) := by decide +kernel
theorem dX1_ruleOf_11 : decode cX1_ruleOf 11 = .ok (.iload_n 1, 1) := by decide +kernel
theorem dX1_ruleOf_12 : decode cX1_ruleOf 12 = .ok (.iconst 1, 1) := by decide +kernel
theorem dX1_ruleOf_13 : decode cX1_ruleOf 13 = .ok (.isub, 1) := by decide +kernel
theorem dX1_ruleOf_14 : decode cX1_ruleOf 14 = .ok (.aaload, 1) := by decide +kernel
theorem dX1_ruleOf_15 : decode cX1_ruleOf 15 = .ok (.goto 4, 3) := by decide +kernel
theorem dX1_ruleOf_18 : decode cX1_ruleOf 18 = .ok (.aconst_null, 1) := by decide +kernel
theorem dX1_ruleOf_19 : decode cX1_ruleOf 19 = .ok (.areturn, 1) := by decide +kernel
def Fo_ruleOf (N : Nat) (a1 : Int) (M : jMem) : Option Int := (if 0 < a1 then (if 6 < a1 then some ((-1)) else jchk (0 ≤ (w32 (a1 - 1)) ∧ (w32 (a1 - 1)) < 6) <| some ((13 + 164 + 6 * ((w32 (a1 - 1)))))) else some ((-1)))
theorem c_Fo_ruleOf {l : Launch} {g : jG} (N : Nat) (a1 : Int) (M : jMem)  : ∀ o, Fo_ruleOf N a1 M = some o → jCt l g jTX yX1_ruleOf cX1_ruleOf 2 (some (.object "WellSwap$Rule")) 2 1 [(2, 13), (0, a1)] M (o, M) := by
  refine jMet (own := RX1) (em := (fun r => (r, M))) (L := [(0, 2, 13), (1, 0, a1)]) (by decide +kernel) rfl (Nat.le_of_ble_eq_true rfl) rfl (fun K hR => ?_)
  unfold Fo_ruleOf
  refine z_iload_n (pc := 0) hR 1 dX1_ruleOf_0 rfl rfl ?_
  refine z_ifle (pc := 1) (tgt := 18) hR dX1_ruleOf_1 (by decide) ?_ ?_
  · refine z_null (pc := 18) hR dX1_ruleOf_18 ?_
    exact z_areturn (pc := 19) hR rfl rfl dX1_ruleOf_19 rfl
  · refine z_iload_n (pc := 4) hR 1 dX1_ruleOf_4 rfl rfl ?_
    refine z_aload_n (pc := 5) hR 0 dX1_ruleOf_5 rfl rfl ?_
    refine z_alen (pc := 6) hR (x := 6) kxa_13 (by decide) rfl dX1_ruleOf_6 ?_
    refine z_icmpgt (pc := 7) (tgt := 18) hR dX1_ruleOf_7 (by decide) ?_ ?_
    · refine z_null (pc := 18) hR dX1_ruleOf_18 ?_
      exact z_areturn (pc := 19) hR rfl rfl dX1_ruleOf_19 rfl
    · refine z_aload_n (pc := 10) hR 0 dX1_ruleOf_10 rfl rfl ?_
      refine z_iload_n (pc := 11) hR 1 dX1_ruleOf_11 rfl rfl ?_
      refine z_iconst (pc := 12) hR dX1_ruleOf_12 rfl ?_
      refine z_isub (pc := 13) hR dX1_ruleOf_13 ?_
      refine z_chk (fun hc1 => ?_)
      refine z_aald5 (pc := 14) hR (n := 6) kxa_13 hc1.1 hc1.2 dX1_ruleOf_14 ?_
      refine z_goto (pc := 15) (tgt := 19) hR dX1_ruleOf_15 (by decide) ?_
      exact z_areturn (pc := 19) hR rfl rfl dX1_ruleOf_19 rfl
theorem dX1_ruledBits_0 : decode cX1_ruledBits 0 = .ok (.iconst 0, 1) := by decide +kernel
theorem dX1_ruledBits_1 : decode cX1_ruledBits 1 = .ok (.istore 4, 2) := by decide +kernel
theorem dX1_ruledBits_3 : decode cX1_ruledBits 3 = .ok (.iconst 0, 1) := by decide +kernel
theorem dX1_ruledBits_4 : decode cX1_ruledBits 4 = .ok (.istore 5, 2) := by decide +kernel
theorem dX1_ruledBits_6 : decode cX1_ruledBits 6 = .ok (.iload 5, 2) := by decide +kernel
theorem dX1_ruledBits_8 : decode cX1_ruledBits 8 = .ok (.iload_n 3, 1) := by decide +kernel
theorem dX1_ruledBits_9 : decode cX1_ruledBits 9 = .ok (.if_icmp .gt 43, 3) := by decide +kernel
theorem dX1_ruledBits_12 : decode cX1_ruledBits 12 = .ok (.aload_n 0, 1) := by decide +kernel
theorem dX1_ruledBits_13 : decode cX1_ruledBits 13 = .ok (.getfield 21, 3) := by decide +kernel
theorem dX1_ruledBits_16 : decode cX1_ruledBits 16 = .ok (.aload_n 1, 1) := by decide +kernel
theorem dX1_ruledBits_17 : decode cX1_ruledBits 17 = .ok (.getfield 54, 3) := by decide +kernel
theorem dX1_ruledBits_20 : decode cX1_ruledBits 20 = .ok (.invokevirtual 97, 3) := by decide +kernel
theorem dX1_ruledBits_23 : decode cX1_ruledBits 23 = .ok (.aload_n 0, 1) := by decide +kernel
theorem dX1_ruledBits_24 : decode cX1_ruledBits 24 = .ok (.aload_n 1, 1) := by decide +kernel
theorem dX1_ruledBits_25 : decode cX1_ruledBits 25 = .ok (.aload_n 2, 1) := by decide +kernel
theorem dX1_ruledBits_26 : decode cX1_ruledBits 26 = .ok (.iload 5, 2) := by decide +kernel
theorem dX1_ruledBits_28 : decode cX1_ruledBits 28 = .ok (.invokestatic 134, 3) := by decide +kernel
theorem dX1_ruledBits_31 : decode cX1_ruledBits 31 = .ok (.invokevirtual 107, 3) := by decide +kernel
theorem dX1_ruledBits_34 : decode cX1_ruledBits 34 = .ok (.ifCond .eq 12, 3) := by decide +kernel
theorem dX1_ruledBits_37 : decode cX1_ruledBits 37 = .ok (.iload 4, 2) := by decide +kernel
theorem dX1_ruledBits_39 : decode cX1_ruledBits 39 = .ok (.iconst 1, 1) := by decide +kernel
theorem dX1_ruledBits_40 : decode cX1_ruledBits 40 = .ok (.iload 5, 2) := by decide +kernel
theorem dX1_ruledBits_42 : decode cX1_ruledBits 42 = .ok (.ishl, 1) := by decide +kernel
theorem dX1_ruledBits_43 : decode cX1_ruledBits 43 = .ok (.ior, 1) := by decide +kernel
theorem dX1_ruledBits_44 : decode cX1_ruledBits 44 = .ok (.istore 4, 2) := by decide +kernel
theorem dX1_ruledBits_46 : decode cX1_ruledBits 46 = .ok (.iinc 5 1, 3) := by decide +kernel
theorem dX1_ruledBits_49 : decode cX1_ruledBits 49 = .ok (.goto (-43), 3) := by decide +kernel
theorem dX1_ruledBits_52 : decode cX1_ruledBits 52 = .ok (.iload 4, 2) := by decide +kernel
theorem dX1_ruledBits_54 : decode cX1_ruledBits 54 = .ok (.ireturn, 1) := by decide +kernel
def Fo_ruledBits_L6 (N : Nat) (a3 : Int) (h6 : (Int × Int × jMem) → Option (Int × jMem)) : Int × Int × jMem → Option (Int × jMem)
  | (x1, x2, M3) => (if a3 < x2 then some (x1, M3) else jbv (St_begin N 161 15 M3) fun M4 => (Fo_ruleOf N x2 M4).bind fun r5 => jchk (jnb jTX r5 5 = true) <| jb1 (Fo_notesAreSo N r5 M4) fun r7 M8 => (if r7 = 0 then h6 (x1, (w32 (x2 + 1)), M8) else jlt ((jor x1 ((jshl 1 x2)))) fun v9 => h6 (v9, (w32 (x2 + 1)), M8)))
def Fo_ruledBits (N : Nat) (a3 : Int) (M : jMem) : Option (Int × jMem) := jfix N (Fo_ruledBits_L6 N a3) (0, 0, M)
theorem c_Fo_ruledBits {l : Launch} {g : jG} (N : Nat) (a3 : Int) (M : jMem)  : ∀ o, Fo_ruledBits N a3 M = some o → jCt l g jTX yX1_ruledBits cX1_ruledBits 6 (some .int) 0 13 [(2, 157), (2, 14), (2, 13), (0, a3)] M o := by
  refine jMet (own := RX1) (em := id) (L := [(0, 2, 157), (1, 2, 14), (2, 2, 13), (3, 0, a3)]) (by decide +kernel) rfl (Nat.le_of_ble_eq_true rfl) rfl (fun K hR => ?_)
  unfold Fo_ruledBits
  refine z_iconst (pc := 0) hR dX1_ruledBits_0 rfl ?_
  refine z_istore (pc := 1) hR (lv' := [(4, 0, 0), (0, 2, 157), (1, 2, 14), (2, 2, 13), (3, 0, a3)]) dX1_ruledBits_1 (by decide) rfl ?_
  refine z_iconst (pc := 3) hR dX1_ruledBits_3 rfl ?_
  refine z_istore (pc := 4) hR (lv' := [(5, 0, 0), (4, 0, 0), (0, 2, 157), (1, 2, 14), (2, 2, 13), (3, 0, a3)]) dX1_ruledBits_4 (by decide) rfl ?_
  refine z_pick (pc := 6) (lv' := [(0, 2, 157), (1, 2, 14), (2, 2, 13), (3, 0, a3), (4, 0, 0), (5, 0, 0)]) hR [2, 3, 4, 5, 1, 0] rfl ?_
  refine z_fix (σ := Int × Int × jMem) (lv := fun s => [(0, 2, 157), (1, 2, 14), (2, 2, 13), (3, 0, a3), (4, 0, s.1), (5, 0, s.2.1)]) (st := fun _ => []) (M := fun s => s.2.2) (fun h6 hh6 => ?_) N (0, 0, M)
  rintro ⟨x1, x2, M3⟩
  show jZ K id 6 [(0, 2, 157), (1, 2, 14), (2, 2, 13), (3, 0, a3), (4, 0, x1), (5, 0, x2)] [] M3 _
  unfold Fo_ruledBits_L6
  refine z_iload (pc := 6) hR 5 dX1_ruledBits_6 rfl ?_
  refine z_iload_n (pc := 8) hR 3 dX1_ruledBits_8 rfl rfl ?_
  refine z_icmpgt (pc := 9) (tgt := 52) hR dX1_ruledBits_9 (by decide) ?_ ?_
  · refine z_iload (pc := 52) hR 4 dX1_ruledBits_52 rfl ?_
    exact z_ireturn (pc := 54) hR rfl rfl dX1_ruledBits_54 rfl
  · refine z_aload_n (pc := 12) hR 0 dX1_ruledBits_12 rfl rfl ?_
    refine z_getr (pc := 13) hR (c0 := 4) (r := 161) jf_RX1_21 kxo_157 (by decide) rfl rfl dX1_ruledBits_13 ?_
    refine z_aload_n (pc := 16) hR 1 dX1_ruledBits_16 rfl rfl ?_
    refine z_getr (pc := 17) hR (c0 := 1) (r := 15) jf_RX1_54 kxo_14 (by decide) rfl rfl dX1_ruledBits_17 ?_
    refine z_callv0 (pc := 20) (rk' := 3) hR (As := [(2, 15)]) (st := []) jm_X7_begin jl_RX1_97 kxo_161 (by decide) rfl (c_St_begin N 161 15 M3 kxo_161 kxo_15) rfl (by decide) (by decide) rfl (Nat.le_of_ble_eq_true rfl) dX1_ruledBits_20 (fun M4 => ?_)
    refine z_aload_n (pc := 23) hR 0 dX1_ruledBits_23 rfl rfl ?_
    refine z_aload_n (pc := 24) hR 1 dX1_ruledBits_24 rfl rfl ?_
    refine z_aload_n (pc := 25) hR 2 dX1_ruledBits_25 rfl rfl ?_
    refine z_iload (pc := 26) hR 5 dX1_ruledBits_26 rfl ?_
    refine z_callsp (pc := 28) hR (As := [(2, 13), (0, x2)]) (st := [(2, 14), (2, 157)]) jm_X1_ruleOf jl_RX1_134 (by decide) (c_Fo_ruleOf N x2 M4) rfl (by decide) (by decide) rfl (Nat.le_of_ble_eq_true rfl) dX1_ruledBits_28 (fun r5 => ?_)
    refine z_chk (fun hc6 => ?_)
    refine z_callv1 (pc := 31) hR (As := [(2, 14), (2, r5)]) (st := []) jm_X1_notesAreSo jl_RX1_107 kxo_157 (by decide) rfl (by decide) (c_Fo_notesAreSo N r5 M4 (jnb_ok hc6)) rfl (by decide) (by decide) rfl (Nat.le_of_ble_eq_true rfl) dX1_ruledBits_31 (fun r7 M8 => ?_)
    refine z_ifeq (pc := 34) (tgt := 46) hR dX1_ruledBits_34 (by decide) ?_ ?_
    · refine z_iinc (pc := 46) hR (j := 5) (lv' := [(5, 0, (w32 (x2 + 1))), (0, 2, 157), (1, 2, 14), (2, 2, 13), (3, 0, a3), (4, 0, x1)]) dX1_ruledBits_46 rfl (by decide) rfl ?_
      refine z_goto (pc := 49) (tgt := 6) hR dX1_ruledBits_49 (by decide) ?_
      refine z_pick (pc := 6) (lv' := [(0, 2, 157), (1, 2, 14), (2, 2, 13), (3, 0, a3), (4, 0, x1), (5, 0, (w32 (x2 + 1)))]) hR [1, 2, 3, 4, 5, 0] rfl ?_
      exact hh6 (x1, (w32 (x2 + 1)), M8)
    · refine z_iload (pc := 37) hR 4 dX1_ruledBits_37 rfl ?_
      refine z_iconst (pc := 39) hR dX1_ruledBits_39 rfl ?_
      refine z_iload (pc := 40) hR 5 dX1_ruledBits_40 rfl ?_
      refine z_ishl (pc := 42) hR dX1_ruledBits_42 ?_
      refine z_ior (pc := 43) hR dX1_ruledBits_43 ?_
      refine z_let1 (fun v9 => ?_)
      refine z_istore (pc := 44) hR (lv' := [(4, 0, v9), (0, 2, 157), (1, 2, 14), (2, 2, 13), (3, 0, a3), (5, 0, x2)]) dX1_ruledBits_44 (by decide) rfl ?_
      refine z_iinc (pc := 46) hR (j := 5) (lv' := [(5, 0, (w32 (x2 + 1))), (4, 0, v9), (0, 2, 157), (1, 2, 14), (2, 2, 13), (3, 0, a3)]) dX1_ruledBits_46 rfl (by decide) rfl ?_
      refine z_goto (pc := 49) (tgt := 6) hR dX1_ruledBits_49 (by decide) ?_
      refine z_pick (pc := 6) (lv' := [(0, 2, 157), (1, 2, 14), (2, 2, 13), (3, 0, a3), (4, 0, v9), (5, 0, (w32 (x2 + 1)))]) hR [2, 3, 4, 5, 1, 0] rfl ?_
      exact hh6 (v9, (w32 (x2 + 1)), M8)
theorem dX1_firstRuled_0 : decode cX1_firstRuled 0 = .ok (.iconst 0, 1) := by decide +kernel
theorem dX1_firstRuled_1 : decode cX1_firstRuled 1 = .ok (.istore_n 2, 1) := by decide +kernel
theorem dX1_firstRuled_2 : decode cX1_firstRuled 2 = .ok (.iload_n 2, 1) := by decide +kernel
theorem dX1_firstRuled_3 : decode cX1_firstRuled 3 = .ok (.bipush 6, 2) := by decide +kernel
theorem dX1_firstRuled_5 : decode cX1_firstRuled 5 = .ok (.if_icmp .gt 21, 3) := by decide +kernel
theorem dX1_firstRuled_8 : decode cX1_firstRuled 8 = .ok (.iload_n 1, 1) := by decide +kernel
theorem dX1_firstRuled_9 : decode cX1_firstRuled 9 = .ok (.iload_n 2, 1) := by decide +kernel
theorem dX1_firstRuled_10 : decode cX1_firstRuled 10 = .ok (.ishr, 1) := by decide +kernel
theorem dX1_firstRuled_11 : decode cX1_firstRuled 11 = .ok (.iconst 1, 1) := by decide +kernel
theorem dX1_firstRuled_12 : decode cX1_firstRuled 12 = .ok (.iand, 1) := by decide +kernel
theorem dX1_firstRuled_13 : decode cX1_firstRuled 13 = .ok (.ifCond .eq 7, 3) := by decide +kernel
theorem dX1_firstRuled_16 : decode cX1_firstRuled 16 = .ok (.iload_n 2, 1) := by decide +kernel
theorem dX1_firstRuled_17 : decode cX1_firstRuled 17 = .ok (.iconst 1, 1) := by decide +kernel
theorem dX1_firstRuled_18 : decode cX1_firstRuled 18 = .ok (.isub, 1) := by decide +kernel
theorem dX1_firstRuled_19 : decode cX1_firstRuled 19 = .ok (.ireturn, 1) := by decide +kernel
theorem dX1_firstRuled_20 : decode cX1_firstRuled 20 = .ok (.iinc 2 1, 3) := by decide +kernel
theorem dX1_firstRuled_23 : decode cX1_firstRuled 23 = .ok (.goto (-21), 3) := by decide +kernel
theorem dX1_firstRuled_26 : decode cX1_firstRuled 26 = .ok (.bipush (-2), 2) := by decide +kernel
theorem dX1_firstRuled_28 : decode cX1_firstRuled 28 = .ok (.ireturn, 1) := by decide +kernel
def Fo_firstRuled_L2 (N : Nat) (a1 : Int) (h2 : Int → Option Int) : Int → Option Int
  | x1 => (if 6 < x1 then some ((-2)) else (if (jand ((jshr a1 x1)) 1) = 0 then h2 ((w32 (x1 + 1))) else some ((w32 (x1 - 1)))))
def Fo_firstRuled (N : Nat) (a1 : Int) (M : jMem) : Option Int := jfix N (Fo_firstRuled_L2 N a1) 0
theorem c_Fo_firstRuled {l : Launch} {g : jG} (N : Nat) (a1 : Int) (M : jMem)  : ∀ o, Fo_firstRuled N a1 M = some o → jCt l g jTX yX1_firstRuled cX1_firstRuled 3 (some .int) 0 1 [(2, 157), (0, a1)] M (o, M) := by
  refine jMet (own := RX1) (em := (fun r => (r, M))) (L := [(0, 2, 157), (1, 0, a1)]) (by decide +kernel) rfl (Nat.le_of_ble_eq_true rfl) rfl (fun K hR => ?_)
  unfold Fo_firstRuled
  refine z_iconst (pc := 0) hR dX1_firstRuled_0 rfl ?_
  refine z_istore_n (pc := 1) hR (lv' := [(2, 0, 0), (0, 2, 157), (1, 0, a1)]) dX1_firstRuled_1 rfl (by decide) rfl ?_
  refine z_pick (pc := 2) (lv' := [(1, 0, a1), (2, 0, 0)]) hR [2, 0] rfl ?_
  refine z_fix (σ := Int) (lv := fun s => [(1, 0, a1), (2, 0, s)]) (st := fun _ => []) (M := fun _ => M) (fun h2 hh2 => ?_) N 0
  intro x1
  show jZ K (fun r => (r, M)) 2 [(1, 0, a1), (2, 0, x1)] [] M _
  unfold Fo_firstRuled_L2
  refine z_iload_n (pc := 2) hR 1 dX1_firstRuled_2 rfl rfl ?_
  refine z_bipush (pc := 3) hR dX1_firstRuled_3 rfl ?_
  refine z_icmpgt (pc := 5) (tgt := 26) hR dX1_firstRuled_5 (by decide) ?_ ?_
  · refine z_bipush (pc := 26) hR dX1_firstRuled_26 rfl ?_
    exact z_ireturn (pc := 28) hR rfl rfl dX1_firstRuled_28 rfl
  · refine z_iload_n (pc := 8) hR 0 dX1_firstRuled_8 rfl rfl ?_
    refine z_iload_n (pc := 9) hR 1 dX1_firstRuled_9 rfl rfl ?_
    refine z_ishr (pc := 10) hR dX1_firstRuled_10 ?_
    refine z_iconst (pc := 11) hR dX1_firstRuled_11 rfl ?_
    refine z_iand (pc := 12) hR dX1_firstRuled_12 ?_
    refine z_ifeq (pc := 13) (tgt := 20) hR dX1_firstRuled_13 (by decide) ?_ ?_
    · refine z_iinc (pc := 20) hR (j := 1) (lv' := [(2, 0, (w32 (x1 + 1))), (1, 0, a1)]) dX1_firstRuled_20 rfl (by decide) rfl ?_
      refine z_goto (pc := 23) (tgt := 2) hR dX1_firstRuled_23 (by decide) ?_
      refine z_pick (pc := 2) (lv' := [(1, 0, a1), (2, 0, (w32 (x1 + 1)))]) hR [1, 0] rfl ?_
      exact hh2 ((w32 (x1 + 1)))
    · refine z_iload_n (pc := 16) hR 1 dX1_firstRuled_16 rfl rfl ?_
      refine z_iconst (pc := 17) hR dX1_firstRuled_17 rfl ?_
      refine z_isub (pc := 18) hR dX1_firstRuled_18 ?_
      exact z_ireturn (pc := 19) hR rfl rfl dX1_firstRuled_19 rfl
theorem dX11_ruled_0 : decode cX11_ruled 0 = .ok (.iload_n 1, 1) := by decide +kernel
theorem dX11_ruled_1 : decode cX11_ruled 1 = .ok (.iconst 0, 1) := by decide +kernel
theorem dX11_ruled_2 : decode cX11_ruled 2 = .ok (.iconst 1, 1) := by decide +kernel
theorem dX11_ruled_3 : decode cX11_ruled 3 = .ok (.invokestatic 137, 3) := by decide +kernel
theorem dX11_ruled_6 : decode cX11_ruled 6 = .ok (.ifCond .eq 10, 3) := by decide +kernel
theorem dX11_ruled_9 : decode cX11_ruled 9 = .ok (.aload_n 0, 1) := by decide +kernel
theorem dX11_ruled_10 : decode cX11_ruled 10 = .ok (.invokevirtual 177, 3) := by decide +kernel
theorem dX11_ruled_13 : decode cX11_ruled 13 = .ok (.ifCond .ne 6, 3) := by decide +kernel
theorem dX11_ruled_16 : decode cX11_ruled 16 = .ok (.bipush (-3), 2) := by decide +kernel
theorem dX11_ruled_18 : decode cX11_ruled 18 = .ok (.ireturn, 1) := by decide +kernel
theorem dX11_ruled_19 : decode cX11_ruled 19 = .ok (.aload_n 0, 1) := by decide +kernel
theorem dX11_ruled_20 : decode cX11_ruled 20 = .ok (.getfield 68, 3) := by decide +kernel
theorem dX11_ruled_23 : decode cX11_ruled 23 = .ok (.aload_n 0, 1) := by decide +kernel
theorem dX11_ruled_24 : decode cX11_ruled 24 = .ok (.getfield 43, 3) := by decide +kernel
theorem dX11_ruled_27 : decode cX11_ruled 27 = .ok (.aload_n 0, 1) := by decide +kernel
theorem dX11_ruled_28 : decode cX11_ruled 28 = .ok (.getfield 36, 3) := by decide +kernel
theorem dX11_ruled_31 : decode cX11_ruled 31 = .ok (.aload_n 0, 1) := by decide +kernel
theorem dX11_ruled_32 : decode cX11_ruled 32 = .ok (.getfield 126, 3) := by decide +kernel
theorem dX11_ruled_35 : decode cX11_ruled 35 = .ok (.invokevirtual 310, 3) := by decide +kernel
theorem dX11_ruled_38 : decode cX11_ruled 38 = .ok (.istore_n 2, 1) := by decide +kernel
theorem dX11_ruled_39 : decode cX11_ruled 39 = .ok (.iload_n 1, 1) := by decide +kernel
theorem dX11_ruled_40 : decode cX11_ruled 40 = .ok (.ifCond .ne 8, 3) := by decide +kernel
theorem dX11_ruled_43 : decode cX11_ruled 43 = .ok (.iload_n 2, 1) := by decide +kernel
theorem dX11_ruled_44 : decode cX11_ruled 44 = .ok (.invokestatic 314, 3) := by decide +kernel
theorem dX11_ruled_47 : decode cX11_ruled 47 = .ok (.ireturn, 1) := by decide +kernel
theorem dX11_ruled_48 : decode cX11_ruled 48 = .ok (.aload_n 0, 1) := by decide +kernel
theorem dX11_ruled_49 : decode cX11_ruled 49 = .ok (.getfield 68, 3) := by decide +kernel
theorem dX11_ruled_52 : decode cX11_ruled 52 = .ok (.iload_n 2, 1) := by decide +kernel
theorem dX11_ruled_53 : decode cX11_ruled 53 = .ok (.invokevirtual 319, 3) := by decide +kernel
theorem dX11_ruled_56 : decode cX11_ruled 56 = .ok (.ireturn, 1) := by decide +kernel
def x_ruled (N : Nat) (a1 : Int) (M : jMem) : Option (Int × jMem) := (x_isWithin N a1 0 1 M).bind fun r1 => (if r1 = 0 then some ((-3), M) else (x_hasParish N M).bind fun r2 => (if r2 = 0 then some ((-3), M) else jb1 (Fo_ruledBits N ((M 0 6)) M) fun r3 M4 => (if a1 = 0 then (Jn_bitCount N r3 M4).bind fun r6 => some (r6, M4) else (Fo_firstRuled N r3 M4).bind fun r5 => some (r5, M4))))
theorem c_x_ruled {l : Launch} {g : jG} (N : Nat) (a1 : Int) (M : jMem)  : ∀ o, x_ruled N a1 M = some o → jCt l g jTX yX11_ruled cX11_ruled 3 (some .int) 0 15 [(2, 0), (0, a1)] M o := by
  refine jMet (own := RX11) (em := id) (L := [(0, 2, 0), (1, 0, a1)]) (by decide +kernel) rfl (Nat.le_of_ble_eq_true rfl) rfl (fun K hR => ?_)
  unfold x_ruled
  refine z_iload_n (pc := 0) hR 1 dX11_ruled_0 rfl rfl ?_
  refine z_iconst (pc := 1) hR dX11_ruled_1 rfl ?_
  refine z_iconst (pc := 2) hR dX11_ruled_2 rfl ?_
  refine z_callsp (pc := 3) hR (As := [(0, a1), (0, 0), (0, 1)]) (st := []) jm_X11_isWithin jl_RX11_137 (by decide) (c_x_isWithin N a1 0 1 M) rfl (by decide) (by decide) rfl (Nat.le_of_ble_eq_true rfl) dX11_ruled_3 (fun r1 => ?_)
  refine z_ifeq (pc := 6) (tgt := 16) hR dX11_ruled_6 (by decide) ?_ ?_
  · refine z_bipush (pc := 16) hR dX11_ruled_16 rfl ?_
    exact z_ireturn (pc := 18) hR rfl rfl dX11_ruled_18 rfl
  · refine z_aload_n (pc := 9) hR 0 dX11_ruled_9 rfl rfl ?_
    refine z_callvp (pc := 10) hR (As := []) (st := []) jm_X11_hasParish jl_RX11_177 kxo_0 (by decide) rfl (by decide) (c_x_hasParish N M) rfl (by decide) (by decide) rfl (Nat.le_of_ble_eq_true rfl) dX11_ruled_10 (fun r2 => ?_)
    refine z_ifne (pc := 13) (tgt := 19) hR dX11_ruled_13 (by decide) ?_ ?_
    · refine z_aload_n (pc := 19) hR 0 dX11_ruled_19 rfl rfl ?_
      refine z_getr (pc := 20) hR (c0 := 157) (r := 157) jf_RX11_68 kxo_0 (by decide) rfl rfl dX11_ruled_20 ?_
      refine z_aload_n (pc := 23) hR 0 dX11_ruled_23 rfl rfl ?_
      refine z_getr (pc := 24) hR (c0 := 14) (r := 14) jf_RX11_43 kxo_0 (by decide) rfl rfl dX11_ruled_24 ?_
      refine z_aload_n (pc := 27) hR 0 dX11_ruled_27 rfl rfl ?_
      refine z_getr (pc := 28) hR (c0 := 13) (r := 13) jf_RX11_36 kxo_0 (by decide) rfl rfl dX11_ruled_28 ?_
      refine z_aload_n (pc := 31) hR 0 dX11_ruled_31 rfl rfl ?_
      refine z_geti (pc := 32) hR (j := 6) jf_RX11_126 kxo_0 (by decide) rfl rfl dX11_ruled_32 ?_
      refine z_callv1 (pc := 35) hR (As := [(2, 14), (2, 13), (0, (M 0 6))]) (st := []) jm_X1_ruledBits jl_RX11_310 kxo_157 (by decide) rfl (by decide) (c_Fo_ruledBits N ((M 0 6)) M) rfl (by decide) (by decide) rfl (Nat.le_of_ble_eq_true rfl) dX11_ruled_35 (fun r3 M4 => ?_)
      refine z_istore_n (pc := 38) hR (lv' := [(2, 0, r3), (0, 2, 0), (1, 0, a1)]) dX11_ruled_38 rfl (by decide) rfl ?_
      refine z_iload_n (pc := 39) hR 2 dX11_ruled_39 rfl rfl ?_
      refine z_ifne (pc := 40) (tgt := 48) hR dX11_ruled_40 (by decide) ?_ ?_
      · refine z_aload_n (pc := 48) hR 1 dX11_ruled_48 rfl rfl ?_
        refine z_getr (pc := 49) hR (c0 := 157) (r := 157) jf_RX11_68 kxo_0 (by decide) rfl rfl dX11_ruled_49 ?_
        refine z_iload_n (pc := 52) hR 0 dX11_ruled_52 rfl rfl ?_
        refine z_callvp (pc := 53) hR (As := [(0, r3)]) (st := []) jm_X1_firstRuled jl_RX11_319 kxo_157 (by decide) rfl (by decide) (c_Fo_firstRuled N r3 M4) rfl (by decide) (by decide) rfl (Nat.le_of_ble_eq_true rfl) dX11_ruled_53 (fun r5 => ?_)
        exact z_ireturn (pc := 56) hR rfl rfl dX11_ruled_56 rfl
      · refine z_iload_n (pc := 43) hR 0 dX11_ruled_43 rfl rfl ?_
        refine z_callsp (pc := 44) hR (As := [(0, r3)]) (st := []) jm_J6_bitCount_0f7a4 jl_RX11_314 (by decide) (c_Jn_bitCount N r3 M4) rfl (by decide) (by decide) rfl (Nat.le_of_ble_eq_true rfl) dX11_ruled_44 (fun r6 => ?_)
        exact z_ireturn (pc := 47) hR rfl rfl dX11_ruled_47 rfl
    · refine z_bipush (pc := 16) hR dX11_ruled_16 rfl ?_
      exact z_ireturn (pc := 18) hR rfl rfl dX11_ruled_18 rfl
theorem dX1_tasteAll_0 : decode cX1_tasteAll 0 = .ok (.iconst 0, 1) := by decide +kernel
theorem dX1_tasteAll_1 : decode cX1_tasteAll 1 = .ok (.istore 5, 2) := by decide +kernel
theorem dX1_tasteAll_3 : decode cX1_tasteAll 3 = .ok (.iload 5, 2) := by decide +kernel
theorem dX1_tasteAll_5 : decode cX1_tasteAll 5 = .ok (.bipush 6, 2) := by decide +kernel
theorem dX1_tasteAll_7 : decode cX1_tasteAll 7 = .ok (.if_icmp .gt 102, 3) := by decide +kernel
theorem dX1_tasteAll_10 : decode cX1_tasteAll 10 = .ok (.iload_n 3, 1) := by decide +kernel
theorem dX1_tasteAll_11 : decode cX1_tasteAll 11 = .ok (.iload 5, 2) := by decide +kernel
theorem dX1_tasteAll_13 : decode cX1_tasteAll 13 = .ok (.ishr, 1) := by decide +kernel
theorem dX1_tasteAll_14 : decode cX1_tasteAll 14 = .ok (.iconst 1, 1) := by decide +kernel
theorem dX1_tasteAll_15 : decode cX1_tasteAll 15 = .ok (.iand, 1) := by decide +kernel
theorem dX1_tasteAll_16 : decode cX1_tasteAll 16 = .ok (.ifCond .ne 6, 3) := by decide +kernel
theorem dX1_tasteAll_19 : decode cX1_tasteAll 19 = .ok (.goto 84, 3) := by decide +kernel
theorem dX1_tasteAll_22 : decode cX1_tasteAll 22 = .ok (.aload_n 0, 1) := by decide +kernel
theorem dX1_tasteAll_23 : decode cX1_tasteAll 23 = .ok (.getfield 21, 3) := by decide +kernel
theorem dX1_tasteAll_26 : decode cX1_tasteAll 26 = .ok (.aload_n 1, 1) := by decide +kernel
theorem dX1_tasteAll_27 : decode cX1_tasteAll 27 = .ok (.getfield 54, 3) := by decide +kernel
theorem dX1_tasteAll_30 : decode cX1_tasteAll 30 = .ok (.invokevirtual 97, 3) := by decide +kernel
theorem dX1_tasteAll_33 : decode cX1_tasteAll 33 = .ok (.aload_n 0, 1) := by decide +kernel
theorem dX1_tasteAll_34 : decode cX1_tasteAll 34 = .ok (.aload_n 1, 1) := by decide +kernel
theorem dX1_tasteAll_35 : decode cX1_tasteAll 35 = .ok (.getfield 54, 3) := by decide +kernel
theorem dX1_tasteAll_38 : decode cX1_tasteAll 38 = .ok (.aload_n 2, 1) := by decide +kernel
theorem dX1_tasteAll_39 : decode cX1_tasteAll 39 = .ok (.iload 5, 2) := by decide +kernel
theorem dX1_tasteAll_41 : decode cX1_tasteAll 41 = .ok (.invokestatic 134, 3) := by decide +kernel
theorem dX1_tasteAll_44 : decode cX1_tasteAll 44 = .ok (.iload 4, 2) := by decide +kernel
theorem dX1_tasteAll_46 : decode cX1_tasteAll 46 = .ok (.iconst 1, 1) := by decide +kernel
theorem dX1_tasteAll_47 : decode cX1_tasteAll 47 = .ok (.iadd, 1) := by decide +kernel
theorem dX1_tasteAll_48 : decode cX1_tasteAll 48 = .ok (.invokevirtual 58, 3) := by decide +kernel
theorem dX1_tasteAll_51 : decode cX1_tasteAll 51 = .ok (.iconst 0, 1) := by decide +kernel
theorem dX1_tasteAll_52 : decode cX1_tasteAll 52 = .ok (.istore 6, 2) := by decide +kernel
theorem dX1_tasteAll_54 : decode cX1_tasteAll 54 = .ok (.iload 6, 2) := by decide +kernel
theorem dX1_tasteAll_56 : decode cX1_tasteAll 56 = .ok (.aload_n 0, 1) := by decide +kernel
theorem dX1_tasteAll_57 : decode cX1_tasteAll 57 = .ok (.getfield 21, 3) := by decide +kernel
theorem dX1_tasteAll_60 : decode cX1_tasteAll 60 = .ok (.getfield 73, 3) := by decide +kernel
theorem dX1_tasteAll_63 : decode cX1_tasteAll 63 = .ok (.if_icmp .ge 40, 3) := by decide +kernel
theorem dX1_tasteAll_66 : decode cX1_tasteAll 66 = .ok (.aload_n 0, 1) := by decide +kernel
theorem dX1_tasteAll_67 : decode cX1_tasteAll 67 = .ok (.getfield 35, 3) := by decide +kernel
theorem dX1_tasteAll_70 : decode cX1_tasteAll 70 = .ok (.iload 5, 2) := by decide +kernel
theorem dX1_tasteAll_72 : decode cX1_tasteAll 72 = .ok (.bipush 7, 2) := by decide +kernel
theorem dX1_tasteAll_74 : decode cX1_tasteAll 74 = .ok (.imul, 1) := by decide +kernel
theorem dX1_tasteAll_75 : decode cX1_tasteAll 75 = .ok (.iload 6, 2) := by decide +kernel
theorem dX1_tasteAll_77 : decode cX1_tasteAll 77 = .ok (.iadd, 1) := by decide +kernel
theorem dX1_tasteAll_78 : decode cX1_tasteAll 78 = .ok (.aload_n 0, 1) := by decide +kernel
theorem dX1_tasteAll_79 : decode cX1_tasteAll 79 = .ok (.getfield 21, 3) := by decide +kernel
theorem dX1_tasteAll_82 : decode cX1_tasteAll 82 = .ok (.getfield 111, 3) := by decide +kernel
theorem dX1_tasteAll_85 : decode cX1_tasteAll 85 = .ok (.aload_n 0, 1) := by decide +kernel
theorem dX1_tasteAll_86 : decode cX1_tasteAll 86 = .ok (.getfield 21, 3) := by decide +kernel
theorem dX1_tasteAll_89 : decode cX1_tasteAll 89 = .ok (.getfield 124, 3) := by decide +kernel
theorem dX1_tasteAll_92 : decode cX1_tasteAll 92 = .ok (.iload 6, 2) := by decide +kernel
theorem dX1_tasteAll_94 : decode cX1_tasteAll 94 = .ok (.iaload, 1) := by decide +kernel
theorem dX1_tasteAll_95 : decode cX1_tasteAll 95 = .ok (.iaload, 1) := by decide +kernel
theorem dX1_tasteAll_96 : decode cX1_tasteAll 96 = .ok (.iastore, 1) := by decide +kernel
theorem dX1_tasteAll_97 : decode cX1_tasteAll 97 = .ok (.iinc 6 1, 3) := by decide +kernel
theorem dX1_tasteAll_100 : decode cX1_tasteAll 100 = .ok (.goto (-46), 3) := by decide +kernel
theorem dX1_tasteAll_103 : decode cX1_tasteAll 103 = .ok (.iinc 5 1, 3) := by decide +kernel
theorem dX1_tasteAll_106 : decode cX1_tasteAll 106 = .ok (.goto (-103), 3) := by decide +kernel
theorem dX1_tasteAll_109 : decode cX1_tasteAll 109 = .ok (.return_, 1) := by decide +kernel
def Fo_tasteAll_L54 (N : Nat) (x1 : Int) (h3 : (Int × jMem) → Option (Int × jMem)) (h54 : (Int × jMem) → Option (Int × jMem)) : Int × jMem → Option (Int × jMem)
  | (x7, M8) => (if x7 < (M8 161 0) then jchk (0 ≤ x7 ∧ x7 < 7) <| jchk (0 ≤ (M8 165 x7) ∧ (M8 165 x7) < 7) <| jchk (0 ≤ (w32 (((w32 (x1 * 7))) + x7)) ∧ (w32 (((w32 (x1 * 7))) + x7)) < 49) <| jlt (up M8 170 ((w32 (((w32 (x1 * 7))) + x7))) ((M8 163 ((M8 165 x7))))) fun M12 => h54 ((w32 (x7 + 1)), M12) else h3 ((w32 (x1 + 1)), M8))
def Fo_tasteAll_L3 (N : Nat) (a3 : Int) (a4 : Int) (h3 : (Int × jMem) → Option (Int × jMem)) : Int × jMem → Option (Int × jMem)
  | (x1, M2) => (if 6 < x1 then some (0, M2) else (if (jand ((jshr a3 x1)) 1) = 0 then h3 ((w32 (x1 + 1)), M2) else jbv (St_begin N 161 15 M2) fun M3 => (Fo_ruleOf N x1 M3).bind fun r4 => jchk (jnb jTX r4 5 = true) <| jbv (Fo_goOn N r4 ((w32 (a4 + 1))) M3) fun M6 => jfix N (Fo_tasteAll_L54 N x1 h3) (0, M6)))
def Fo_tasteAll (N : Nat) (a3 a4 : Int) (M : jMem) : Option (Int × jMem) := jfix N (Fo_tasteAll_L3 N a3 a4) (0, M)
theorem c_Fo_tasteAll {l : Launch} {g : jG} (N : Nat) (a3 a4 : Int) (M : jMem)  : ∀ o, Fo_tasteAll N a3 a4 M = some o → jCt l g jTX yX1_tasteAll cX1_tasteAll 7 none 3 13 [(2, 157), (2, 14), (2, 13), (0, a3), (0, a4)] M o := by
  refine jMet (own := RX1) (em := id) (L := [(0, 2, 157), (1, 2, 14), (2, 2, 13), (3, 0, a3), (4, 0, a4)]) (by decide +kernel) rfl (Nat.le_of_ble_eq_true rfl) rfl (fun K hR => ?_)
  unfold Fo_tasteAll
  refine z_iconst (pc := 0) hR dX1_tasteAll_0 rfl ?_
  refine z_istore (pc := 1) hR (lv' := [(5, 0, 0), (0, 2, 157), (1, 2, 14), (2, 2, 13), (3, 0, a3), (4, 0, a4)]) dX1_tasteAll_1 (by decide) rfl ?_
  refine z_pick (pc := 3) (lv' := [(0, 2, 157), (1, 2, 14), (2, 2, 13), (3, 0, a3), (4, 0, a4), (5, 0, 0)]) hR [1, 2, 3, 4, 5, 0] rfl ?_
  refine z_fix (σ := Int × jMem) (lv := fun s => [(0, 2, 157), (1, 2, 14), (2, 2, 13), (3, 0, a3), (4, 0, a4), (5, 0, s.1)]) (st := fun _ => []) (M := fun s => s.2) (fun h3 hh3 => ?_) N (0, M)
  rintro ⟨x1, M2⟩
  show jZ K id 3 [(0, 2, 157), (1, 2, 14), (2, 2, 13), (3, 0, a3), (4, 0, a4), (5, 0, x1)] [] M2 _
  unfold Fo_tasteAll_L3
  refine z_iload (pc := 3) hR 5 dX1_tasteAll_3 rfl ?_
  refine z_bipush (pc := 5) hR dX1_tasteAll_5 rfl ?_
  refine z_icmpgt (pc := 7) (tgt := 109) hR dX1_tasteAll_7 (by decide) ?_ ?_
  · exact z_return (x := 0) (pc := 109) hR rfl rfl dX1_tasteAll_109 rfl
  · refine z_iload_n (pc := 10) hR 3 dX1_tasteAll_10 rfl rfl ?_
    refine z_iload (pc := 11) hR 5 dX1_tasteAll_11 rfl ?_
    refine z_ishr (pc := 13) hR dX1_tasteAll_13 ?_
    refine z_iconst (pc := 14) hR dX1_tasteAll_14 rfl ?_
    refine z_iand (pc := 15) hR dX1_tasteAll_15 ?_
    refine z_ifne (pc := 16) (tgt := 22) hR dX1_tasteAll_16 (by decide) ?_ ?_
    · refine z_aload_n (pc := 22) hR 0 dX1_tasteAll_22 rfl rfl ?_
      refine z_getr (pc := 23) hR (c0 := 4) (r := 161) jf_RX1_21 kxo_157 (by decide) rfl rfl dX1_tasteAll_23 ?_
      refine z_aload_n (pc := 26) hR 1 dX1_tasteAll_26 rfl rfl ?_
      refine z_getr (pc := 27) hR (c0 := 1) (r := 15) jf_RX1_54 kxo_14 (by decide) rfl rfl dX1_tasteAll_27 ?_
      refine z_callv0 (pc := 30) (rk' := 3) hR (As := [(2, 15)]) (st := []) jm_X7_begin jl_RX1_97 kxo_161 (by decide) rfl (c_St_begin N 161 15 M2 kxo_161 kxo_15) rfl (by decide) (by decide) rfl (Nat.le_of_ble_eq_true rfl) dX1_tasteAll_30 (fun M3 => ?_)
      refine z_aload_n (pc := 33) hR 0 dX1_tasteAll_33 rfl rfl ?_
      refine z_aload_n (pc := 34) hR 1 dX1_tasteAll_34 rfl rfl ?_
      refine z_getr (pc := 35) hR (c0 := 1) (r := 15) jf_RX1_54 kxo_14 (by decide) rfl rfl dX1_tasteAll_35 ?_
      refine z_aload_n (pc := 38) hR 2 dX1_tasteAll_38 rfl rfl ?_
      refine z_iload (pc := 39) hR 5 dX1_tasteAll_39 rfl ?_
      refine z_callsp (pc := 41) hR (As := [(2, 13), (0, x1)]) (st := [(2, 15), (2, 157)]) jm_X1_ruleOf jl_RX1_134 (by decide) (c_Fo_ruleOf N x1 M3) rfl (by decide) (by decide) rfl (Nat.le_of_ble_eq_true rfl) dX1_tasteAll_41 (fun r4 => ?_)
      refine z_chk (fun hc5 => ?_)
      refine z_iload (pc := 44) hR 4 dX1_tasteAll_44 rfl ?_
      refine z_iconst (pc := 46) hR dX1_tasteAll_46 rfl ?_
      refine z_iadd (pc := 47) hR dX1_tasteAll_47 ?_
      refine z_callv0 (pc := 48) (rk' := 3) hR (As := [(2, 15), (2, r4), (0, (w32 (a4 + 1)))]) (st := []) jm_X1_goOn jl_RX1_58 kxo_157 (by decide) rfl (c_Fo_goOn N r4 ((w32 (a4 + 1))) M3 (jnb_ok hc5)) rfl (by decide) (by decide) rfl (Nat.le_of_ble_eq_true rfl) dX1_tasteAll_48 (fun M6 => ?_)
      refine z_iconst (pc := 51) hR dX1_tasteAll_51 rfl ?_
      refine z_istore (pc := 52) hR (lv' := [(6, 0, 0), (0, 2, 157), (1, 2, 14), (2, 2, 13), (3, 0, a3), (4, 0, a4), (5, 0, x1)]) dX1_tasteAll_52 (by decide) rfl ?_
      refine z_pick (pc := 54) (lv' := [(0, 2, 157), (1, 2, 14), (2, 2, 13), (3, 0, a3), (4, 0, a4), (5, 0, x1), (6, 0, 0)]) hR [1, 2, 3, 4, 5, 6, 0] rfl ?_
      refine z_fix (σ := Int × jMem) (lv := fun s => [(0, 2, 157), (1, 2, 14), (2, 2, 13), (3, 0, a3), (4, 0, a4), (5, 0, x1), (6, 0, s.1)]) (st := fun _ => []) (M := fun s => s.2) (fun h54 hh54 => ?_) N (0, M6)
      rintro ⟨x7, M8⟩
      show jZ K id 54 [(0, 2, 157), (1, 2, 14), (2, 2, 13), (3, 0, a3), (4, 0, a4), (5, 0, x1), (6, 0, x7)] [] M8 _
      unfold Fo_tasteAll_L54
      refine z_iload (pc := 54) hR 6 dX1_tasteAll_54 rfl ?_
      refine z_aload_n (pc := 56) hR 0 dX1_tasteAll_56 rfl rfl ?_
      refine z_getr (pc := 57) hR (c0 := 4) (r := 161) jf_RX1_21 kxo_157 (by decide) rfl rfl dX1_tasteAll_57 ?_
      refine z_geti (pc := 60) hR (j := 0) jf_RX1_73 kxo_161 (by decide) rfl rfl dX1_tasteAll_60 ?_
      refine z_icmpge (pc := 63) (tgt := 103) hR dX1_tasteAll_63 (by decide) ?_ ?_
      · refine z_iinc (pc := 103) hR (j := 5) (lv' := [(5, 0, (w32 (x1 + 1))), (0, 2, 157), (1, 2, 14), (2, 2, 13), (3, 0, a3), (4, 0, a4), (6, 0, x7)]) dX1_tasteAll_103 rfl (by decide) rfl ?_
        refine z_goto (pc := 106) (tgt := 3) hR dX1_tasteAll_106 (by decide) ?_
        refine z_pick (pc := 3) (lv' := [(0, 2, 157), (1, 2, 14), (2, 2, 13), (3, 0, a3), (4, 0, a4), (5, 0, (w32 (x1 + 1)))]) hR [1, 2, 3, 4, 5, 0] rfl ?_
        exact hh3 ((w32 (x1 + 1)), M8)
      · refine z_aload_n (pc := 66) hR 0 dX1_tasteAll_66 rfl rfl ?_
        refine z_getr (pc := 67) hR (c0 := 13) (r := 170) jf_RX1_35 kxo_157 (by decide) rfl rfl dX1_tasteAll_67 ?_
        refine z_iload (pc := 70) hR 5 dX1_tasteAll_70 rfl ?_
        refine z_bipush (pc := 72) hR dX1_tasteAll_72 rfl ?_
        refine z_imul (pc := 74) hR dX1_tasteAll_74 ?_
        refine z_iload (pc := 75) hR 6 dX1_tasteAll_75 rfl ?_
        refine z_iadd (pc := 77) hR dX1_tasteAll_77 ?_
        refine z_aload_n (pc := 78) hR 0 dX1_tasteAll_78 rfl rfl ?_
        refine z_getr (pc := 79) hR (c0 := 4) (r := 161) jf_RX1_21 kxo_157 (by decide) rfl rfl dX1_tasteAll_79 ?_
        refine z_getr (pc := 82) hR (c0 := 2) (r := 163) jf_RX1_111 kxo_161 (by decide) rfl rfl dX1_tasteAll_82 ?_
        refine z_aload_n (pc := 85) hR 0 dX1_tasteAll_85 rfl rfl ?_
        refine z_getr (pc := 86) hR (c0 := 4) (r := 161) jf_RX1_21 kxo_157 (by decide) rfl rfl dX1_tasteAll_86 ?_
        refine z_getr (pc := 89) hR (c0 := 4) (r := 165) jf_RX1_124 kxo_161 (by decide) rfl rfl dX1_tasteAll_89 ?_
        refine z_iload (pc := 92) hR 6 dX1_tasteAll_92 rfl ?_
        refine z_chk (fun hc9 => ?_)
        refine z_iald (pc := 94) hR (n := 7) kxa_165 hc9.1 hc9.2 dX1_tasteAll_94 ?_
        refine z_chk (fun hc10 => ?_)
        refine z_iald (pc := 95) hR (n := 7) kxa_163 hc10.1 hc10.2 dX1_tasteAll_95 ?_
        refine z_chk (fun hc11 => ?_)
        refine z_iast (pc := 96) hR (n := 49) kxa_170 hc11.1 hc11.2 dX1_tasteAll_96 (fun M12 => ?_)
        refine z_iinc (pc := 97) hR (j := 6) (lv' := [(6, 0, (w32 (x7 + 1))), (0, 2, 157), (1, 2, 14), (2, 2, 13), (3, 0, a3), (4, 0, a4), (5, 0, x1)]) dX1_tasteAll_97 rfl (by decide) rfl ?_
        refine z_goto (pc := 100) (tgt := 54) hR dX1_tasteAll_100 (by decide) ?_
        refine z_pick (pc := 54) (lv' := [(0, 2, 157), (1, 2, 14), (2, 2, 13), (3, 0, a3), (4, 0, a4), (5, 0, x1), (6, 0, (w32 (x7 + 1)))]) hR [1, 2, 3, 4, 5, 6, 0] rfl ?_
        exact hh54 ((w32 (x7 + 1)), M12)
    · refine z_goto (pc := 19) (tgt := 103) hR dX1_tasteAll_19 (by decide) ?_
      refine z_iinc (pc := 103) hR (j := 5) (lv' := [(5, 0, (w32 (x1 + 1))), (0, 2, 157), (1, 2, 14), (2, 2, 13), (3, 0, a3), (4, 0, a4)]) dX1_tasteAll_103 rfl (by decide) rfl ?_
      refine z_goto (pc := 106) (tgt := 3) hR dX1_tasteAll_106 (by decide) ?_
      refine z_pick (pc := 3) (lv' := [(0, 2, 157), (1, 2, 14), (2, 2, 13), (3, 0, a3), (4, 0, a4), (5, 0, (w32 (x1 + 1)))]) hR [1, 2, 3, 4, 5, 0] rfl ?_
      exact hh3 ((w32 (x1 + 1)), M2)
theorem dX1_mostAlike_0 : decode cX1_mostAlike 0 = .ok (.iconst 0, 1) := by decide +kernel
theorem dX1_mostAlike_1 : decode cX1_mostAlike 1 = .ok (.istore_n 3, 1) := by decide +kernel
theorem dX1_mostAlike_2 : decode cX1_mostAlike 2 = .ok (.iconst 0, 1) := by decide +kernel
theorem dX1_mostAlike_3 : decode cX1_mostAlike 3 = .ok (.istore 4, 2) := by decide +kernel
theorem dX1_mostAlike_5 : decode cX1_mostAlike 5 = .ok (.iload 4, 2) := by decide +kernel
theorem dX1_mostAlike_7 : decode cX1_mostAlike 7 = .ok (.bipush 6, 2) := by decide +kernel
theorem dX1_mostAlike_9 : decode cX1_mostAlike 9 = .ok (.if_icmp .gt 99, 3) := by decide +kernel
theorem dX1_mostAlike_12 : decode cX1_mostAlike 12 = .ok (.iload_n 2, 1) := by decide +kernel
theorem dX1_mostAlike_13 : decode cX1_mostAlike 13 = .ok (.iload 4, 2) := by decide +kernel
theorem dX1_mostAlike_15 : decode cX1_mostAlike 15 = .ok (.ishr, 1) := by decide +kernel
theorem dX1_mostAlike_16 : decode cX1_mostAlike 16 = .ok (.iconst 1, 1) := by decide +kernel
theorem dX1_mostAlike_17 : decode cX1_mostAlike 17 = .ok (.iand, 1) := by decide +kernel
theorem dX1_mostAlike_18 : decode cX1_mostAlike 18 = .ok (.ifCond .ne 6, 3) := by decide +kernel
theorem dX1_mostAlike_21 : decode cX1_mostAlike 21 = .ok (.goto 81, 3) := by decide +kernel
theorem dX1_mostAlike_24 : decode cX1_mostAlike 24 = .ok (.iconst 0, 1) := by decide +kernel
theorem dX1_mostAlike_25 : decode cX1_mostAlike 25 = .ok (.istore 5, 2) := by decide +kernel
theorem dX1_mostAlike_27 : decode cX1_mostAlike 27 = .ok (.iload 4, 2) := by decide +kernel
theorem dX1_mostAlike_29 : decode cX1_mostAlike 29 = .ok (.istore 6, 2) := by decide +kernel
theorem dX1_mostAlike_31 : decode cX1_mostAlike 31 = .ok (.iload 6, 2) := by decide +kernel
theorem dX1_mostAlike_33 : decode cX1_mostAlike 33 = .ok (.bipush 6, 2) := by decide +kernel
theorem dX1_mostAlike_35 : decode cX1_mostAlike 35 = .ok (.if_icmp .gt 60, 3) := by decide +kernel
theorem dX1_mostAlike_38 : decode cX1_mostAlike 38 = .ok (.aload_n 0, 1) := by decide +kernel
theorem dX1_mostAlike_39 : decode cX1_mostAlike 39 = .ok (.getfield 35, 3) := by decide +kernel
theorem dX1_mostAlike_42 : decode cX1_mostAlike 42 = .ok (.iload 4, 2) := by decide +kernel
theorem dX1_mostAlike_44 : decode cX1_mostAlike 44 = .ok (.bipush 7, 2) := by decide +kernel
theorem dX1_mostAlike_46 : decode cX1_mostAlike 46 = .ok (.imul, 1) := by decide +kernel
theorem dX1_mostAlike_47 : decode cX1_mostAlike 47 = .ok (.iload_n 1, 1) := by decide +kernel
theorem dX1_mostAlike_48 : decode cX1_mostAlike 48 = .ok (.iadd, 1) := by decide +kernel
theorem dX1_mostAlike_49 : decode cX1_mostAlike 49 = .ok (.iaload, 1) := by decide +kernel
theorem dX1_mostAlike_50 : decode cX1_mostAlike 50 = .ok (.aload_n 0, 1) := by decide +kernel
theorem dX1_mostAlike_51 : decode cX1_mostAlike 51 = .ok (.getfield 35, 3) := by decide +kernel
theorem dX1_mostAlike_54 : decode cX1_mostAlike 54 = .ok (.iload 6, 2) := by decide +kernel
theorem dX1_mostAlike_56 : decode cX1_mostAlike 56 = .ok (.bipush 7, 2) := by decide +kernel
theorem dX1_mostAlike_58 : decode cX1_mostAlike 58 = .ok (.imul, 1) := by decide +kernel
theorem dX1_mostAlike_59 : decode cX1_mostAlike 59 = .ok (.iload_n 1, 1) := by decide +kernel
theorem dX1_mostAlike_60 : decode cX1_mostAlike 60 = .ok (.iadd, 1) := by decide +kernel
theorem dX1_mostAlike_61 : decode cX1_mostAlike 61 = .ok (.iaload, 1) := by decide +kernel
theorem dX1_mostAlike_62 : decode cX1_mostAlike 62 = .ok (.if_icmp .ne 7, 3) := by decide +kernel
theorem dX1_mostAlike_65 : decode cX1_mostAlike 65 = .ok (.iconst 1, 1) := by decide +kernel
theorem dX1_mostAlike_66 : decode cX1_mostAlike 66 = .ok (.goto 4, 3) := by decide +kernel
theorem dX1_mostAlike_69 : decode cX1_mostAlike 69 = .ok (.iconst 0, 1) := by decide +kernel
theorem dX1_mostAlike_70 : decode cX1_mostAlike 70 = .ok (.istore 7, 2) := by decide +kernel
theorem dX1_mostAlike_72 : decode cX1_mostAlike 72 = .ok (.iload_n 2, 1) := by decide +kernel
theorem dX1_mostAlike_73 : decode cX1_mostAlike 73 = .ok (.iload 6, 2) := by decide +kernel
theorem dX1_mostAlike_75 : decode cX1_mostAlike 75 = .ok (.ishr, 1) := by decide +kernel
theorem dX1_mostAlike_76 : decode cX1_mostAlike 76 = .ok (.iconst 1, 1) := by decide +kernel
theorem dX1_mostAlike_77 : decode cX1_mostAlike 77 = .ok (.iand, 1) := by decide +kernel
theorem dX1_mostAlike_78 : decode cX1_mostAlike 78 = .ok (.ifCond .eq 11, 3) := by decide +kernel
theorem dX1_mostAlike_81 : decode cX1_mostAlike 81 = .ok (.iload 7, 2) := by decide +kernel
theorem dX1_mostAlike_83 : decode cX1_mostAlike 83 = .ok (.ifCond .eq 6, 3) := by decide +kernel
theorem dX1_mostAlike_86 : decode cX1_mostAlike 86 = .ok (.iinc 5 1, 3) := by decide +kernel
theorem dX1_mostAlike_89 : decode cX1_mostAlike 89 = .ok (.iinc 6 1, 3) := by decide +kernel
theorem dX1_mostAlike_92 : decode cX1_mostAlike 92 = .ok (.goto (-61), 3) := by decide +kernel
theorem dX1_mostAlike_95 : decode cX1_mostAlike 95 = .ok (.iload_n 3, 1) := by decide +kernel
theorem dX1_mostAlike_96 : decode cX1_mostAlike 96 = .ok (.iload 5, 2) := by decide +kernel
theorem dX1_mostAlike_98 : decode cX1_mostAlike 98 = .ok (.invokestatic 142, 3) := by decide +kernel
theorem dX1_mostAlike_101 : decode cX1_mostAlike 101 = .ok (.istore_n 3, 1) := by decide +kernel
theorem dX1_mostAlike_102 : decode cX1_mostAlike 102 = .ok (.iinc 4 1, 3) := by decide +kernel
theorem dX1_mostAlike_105 : decode cX1_mostAlike 105 = .ok (.goto (-100), 3) := by decide +kernel
theorem dX1_mostAlike_108 : decode cX1_mostAlike 108 = .ok (.iload_n 3, 1) := by decide +kernel
theorem dX1_mostAlike_109 : decode cX1_mostAlike 109 = .ok (.ireturn, 1) := by decide +kernel
def Fo_mostAlike_L31 (N : Nat) (a1 : Int) (a2 : Int) (M : jMem) (x1 : Int) (x2 : Int) (h5 : (Int × Int) → Option Int) (h31 : (Int × Int) → Option Int) : Int × Int → Option Int
  | (x3, x4) => (if 6 < x4 then jlt ((jmax x1 x3)) fun v5 => h5 (v5, (w32 (x2 + 1))) else jchk (0 ≤ (w32 (((w32 (x2 * 7))) + a1)) ∧ (w32 (((w32 (x2 * 7))) + a1)) < 49) <| jchk (0 ≤ (w32 (((w32 (x4 * 7))) + a1)) ∧ (w32 (((w32 (x4 * 7))) + a1)) < 49) <| jlt (fun (u8 : Int) => (if (jand ((jshr a2 x4)) 1) = 0 then h31 (x3, (w32 (x4 + 1))) else (if u8 = 0 then h31 (x3, (w32 (x4 + 1))) else h31 ((w32 (x3 + 1)), (w32 (x4 + 1)))))) fun j70 => (if (M 170 ((w32 (((w32 (x2 * 7))) + a1)))) = (M 170 ((w32 (((w32 (x4 * 7))) + a1)))) then j70 1 else j70 0))
def Fo_mostAlike_L5 (N : Nat) (a1 : Int) (a2 : Int) (M : jMem) (h5 : (Int × Int) → Option Int) : Int × Int → Option Int
  | (x1, x2) => (if 6 < x2 then some x1 else (if (jand ((jshr a2 x2)) 1) = 0 then h5 (x1, (w32 (x2 + 1))) else jfix N (Fo_mostAlike_L31 N a1 a2 M x1 x2 h5) (0, x2)))
def Fo_mostAlike (N : Nat) (a1 a2 : Int) (M : jMem) : Option Int := jfix N (Fo_mostAlike_L5 N a1 a2 M) (0, 0)
theorem c_Fo_mostAlike {l : Launch} {g : jG} (N : Nat) (a1 a2 : Int) (M : jMem)  : ∀ o, Fo_mostAlike N a1 a2 M = some o → jCt l g jTX yX1_mostAlike cX1_mostAlike 8 (some .int) 0 2 [(2, 157), (0, a1), (0, a2)] M (o, M) := by
  refine jMet (own := RX1) (em := (fun r => (r, M))) (L := [(0, 2, 157), (1, 0, a1), (2, 0, a2)]) (by decide +kernel) rfl (Nat.le_of_ble_eq_true rfl) rfl (fun K hR => ?_)
  unfold Fo_mostAlike
  refine z_iconst (pc := 0) hR dX1_mostAlike_0 rfl ?_
  refine z_istore_n (pc := 1) hR (lv' := [(3, 0, 0), (0, 2, 157), (1, 0, a1), (2, 0, a2)]) dX1_mostAlike_1 rfl (by decide) rfl ?_
  refine z_iconst (pc := 2) hR dX1_mostAlike_2 rfl ?_
  refine z_istore (pc := 3) hR (lv' := [(4, 0, 0), (3, 0, 0), (0, 2, 157), (1, 0, a1), (2, 0, a2)]) dX1_mostAlike_3 (by decide) rfl ?_
  refine z_pick (pc := 5) (lv' := [(0, 2, 157), (1, 0, a1), (2, 0, a2), (3, 0, 0), (4, 0, 0)]) hR [2, 3, 4, 1, 0] rfl ?_
  refine z_fix (σ := Int × Int) (lv := fun s => [(0, 2, 157), (1, 0, a1), (2, 0, a2), (3, 0, s.1), (4, 0, s.2)]) (st := fun _ => []) (M := fun _ => M) (fun h5 hh5 => ?_) N (0, 0)
  rintro ⟨x1, x2⟩
  show jZ K (fun r => (r, M)) 5 [(0, 2, 157), (1, 0, a1), (2, 0, a2), (3, 0, x1), (4, 0, x2)] [] M _
  unfold Fo_mostAlike_L5
  refine z_iload (pc := 5) hR 4 dX1_mostAlike_5 rfl ?_
  refine z_bipush (pc := 7) hR dX1_mostAlike_7 rfl ?_
  refine z_icmpgt (pc := 9) (tgt := 108) hR dX1_mostAlike_9 (by decide) ?_ ?_
  · refine z_iload_n (pc := 108) hR 3 dX1_mostAlike_108 rfl rfl ?_
    exact z_ireturn (pc := 109) hR rfl rfl dX1_mostAlike_109 rfl
  · refine z_iload_n (pc := 12) hR 2 dX1_mostAlike_12 rfl rfl ?_
    refine z_iload (pc := 13) hR 4 dX1_mostAlike_13 rfl ?_
    refine z_ishr (pc := 15) hR dX1_mostAlike_15 ?_
    refine z_iconst (pc := 16) hR dX1_mostAlike_16 rfl ?_
    refine z_iand (pc := 17) hR dX1_mostAlike_17 ?_
    refine z_ifne (pc := 18) (tgt := 24) hR dX1_mostAlike_18 (by decide) ?_ ?_
    · refine z_iconst (pc := 24) hR dX1_mostAlike_24 rfl ?_
      refine z_istore (pc := 25) hR (lv' := [(5, 0, 0), (0, 2, 157), (1, 0, a1), (2, 0, a2), (3, 0, x1), (4, 0, x2)]) dX1_mostAlike_25 (by decide) rfl ?_
      refine z_iload (pc := 27) hR 5 dX1_mostAlike_27 rfl ?_
      refine z_istore (pc := 29) hR (lv' := [(6, 0, x2), (5, 0, 0), (0, 2, 157), (1, 0, a1), (2, 0, a2), (3, 0, x1), (4, 0, x2)]) dX1_mostAlike_29 (by decide) rfl ?_
      refine z_pick (pc := 31) (lv' := [(0, 2, 157), (1, 0, a1), (2, 0, a2), (3, 0, x1), (4, 0, x2), (5, 0, 0), (6, 0, x2)]) hR [2, 3, 4, 5, 6, 1, 0] rfl ?_
      refine z_fix (σ := Int × Int) (lv := fun s => [(0, 2, 157), (1, 0, a1), (2, 0, a2), (3, 0, x1), (4, 0, x2), (5, 0, s.1), (6, 0, s.2)]) (st := fun _ => []) (M := fun _ => M) (fun h31 hh31 => ?_) N (0, x2)
      rintro ⟨x3, x4⟩
      show jZ K (fun r => (r, M)) 31 [(0, 2, 157), (1, 0, a1), (2, 0, a2), (3, 0, x1), (4, 0, x2), (5, 0, x3), (6, 0, x4)] [] M _
      unfold Fo_mostAlike_L31
      refine z_iload (pc := 31) hR 6 dX1_mostAlike_31 rfl ?_
      refine z_bipush (pc := 33) hR dX1_mostAlike_33 rfl ?_
      refine z_icmpgt (pc := 35) (tgt := 95) hR dX1_mostAlike_35 (by decide) ?_ ?_
      · refine z_iload_n (pc := 95) hR 3 dX1_mostAlike_95 rfl rfl ?_
        refine z_iload (pc := 96) hR 5 dX1_mostAlike_96 rfl ?_
        refine z_mmax (pc := 98) hR jl_RX1_142 jw_max_s jw_Math jw_max_c (by decide) (Nat.le_of_ble_eq_true rfl) dX1_mostAlike_98 ?_
        refine z_let1 (fun v5 => ?_)
        refine z_istore_n (pc := 101) hR (lv' := [(3, 0, v5), (0, 2, 157), (1, 0, a1), (2, 0, a2), (4, 0, x2), (5, 0, x3), (6, 0, x4)]) dX1_mostAlike_101 rfl (by decide) rfl ?_
        refine z_iinc (pc := 102) hR (j := 4) (lv' := [(4, 0, (w32 (x2 + 1))), (3, 0, v5), (0, 2, 157), (1, 0, a1), (2, 0, a2), (5, 0, x3), (6, 0, x4)]) dX1_mostAlike_102 rfl (by decide) rfl ?_
        refine z_goto (pc := 105) (tgt := 5) hR dX1_mostAlike_105 (by decide) ?_
        refine z_pick (pc := 5) (lv' := [(0, 2, 157), (1, 0, a1), (2, 0, a2), (3, 0, v5), (4, 0, (w32 (x2 + 1)))]) hR [2, 3, 4, 1, 0] rfl ?_
        exact hh5 (v5, (w32 (x2 + 1)))
      · refine z_aload_n (pc := 38) hR 0 dX1_mostAlike_38 rfl rfl ?_
        refine z_getr (pc := 39) hR (c0 := 13) (r := 170) jf_RX1_35 kxo_157 (by decide) rfl rfl dX1_mostAlike_39 ?_
        refine z_iload (pc := 42) hR 4 dX1_mostAlike_42 rfl ?_
        refine z_bipush (pc := 44) hR dX1_mostAlike_44 rfl ?_
        refine z_imul (pc := 46) hR dX1_mostAlike_46 ?_
        refine z_iload_n (pc := 47) hR 1 dX1_mostAlike_47 rfl rfl ?_
        refine z_iadd (pc := 48) hR dX1_mostAlike_48 ?_
        refine z_chk (fun hc6 => ?_)
        refine z_iald (pc := 49) hR (n := 49) kxa_170 hc6.1 hc6.2 dX1_mostAlike_49 ?_
        refine z_aload_n (pc := 50) hR 0 dX1_mostAlike_50 rfl rfl ?_
        refine z_getr (pc := 51) hR (c0 := 13) (r := 170) jf_RX1_35 kxo_157 (by decide) rfl rfl dX1_mostAlike_51 ?_
        refine z_iload (pc := 54) hR 6 dX1_mostAlike_54 rfl ?_
        refine z_bipush (pc := 56) hR dX1_mostAlike_56 rfl ?_
        refine z_imul (pc := 58) hR dX1_mostAlike_58 ?_
        refine z_iload_n (pc := 59) hR 1 dX1_mostAlike_59 rfl rfl ?_
        refine z_iadd (pc := 60) hR dX1_mostAlike_60 ?_
        refine z_chk (fun hc7 => ?_)
        refine z_iald (pc := 61) hR (n := 49) kxa_170 hc7.1 hc7.2 dX1_mostAlike_61 ?_
        refine z_join (P := fun j => ∀ (u8 : Int), jZ K (fun r => (r, M)) 70 [(0, 2, 157), (1, 0, a1), (2, 0, a2), (3, 0, x1), (4, 0, x2), (5, 0, x3), (6, 0, x4)] [(0, u8)] M (j u8)) (fun u8 => ?_) (fun j70 hj70 => ?_)
        · refine z_istore (pc := 70) hR (lv' := [(7, 0, u8), (0, 2, 157), (1, 0, a1), (2, 0, a2), (3, 0, x1), (4, 0, x2), (5, 0, x3), (6, 0, x4)]) dX1_mostAlike_70 (by decide) rfl ?_
          refine z_iload_n (pc := 72) hR 3 dX1_mostAlike_72 rfl rfl ?_
          refine z_iload (pc := 73) hR 7 dX1_mostAlike_73 rfl ?_
          refine z_ishr (pc := 75) hR dX1_mostAlike_75 ?_
          refine z_iconst (pc := 76) hR dX1_mostAlike_76 rfl ?_
          refine z_iand (pc := 77) hR dX1_mostAlike_77 ?_
          refine z_ifeq (pc := 78) (tgt := 89) hR dX1_mostAlike_78 (by decide) ?_ ?_
          · refine z_iinc (pc := 89) hR (j := 7) (lv' := [(6, 0, (w32 (x4 + 1))), (7, 0, u8), (0, 2, 157), (1, 0, a1), (2, 0, a2), (3, 0, x1), (4, 0, x2), (5, 0, x3)]) dX1_mostAlike_89 rfl (by decide) rfl ?_
            refine z_goto (pc := 92) (tgt := 31) hR dX1_mostAlike_92 (by decide) ?_
            refine z_pick (pc := 31) (lv' := [(0, 2, 157), (1, 0, a1), (2, 0, a2), (3, 0, x1), (4, 0, x2), (5, 0, x3), (6, 0, (w32 (x4 + 1)))]) hR [2, 3, 4, 5, 6, 7, 0] rfl ?_
            exact hh31 (x3, (w32 (x4 + 1)))
          · refine z_iload (pc := 81) hR 0 dX1_mostAlike_81 rfl ?_
            refine z_ifeq (pc := 83) (tgt := 89) hR dX1_mostAlike_83 (by decide) ?_ ?_
            · refine z_iinc (pc := 89) hR (j := 7) (lv' := [(6, 0, (w32 (x4 + 1))), (7, 0, u8), (0, 2, 157), (1, 0, a1), (2, 0, a2), (3, 0, x1), (4, 0, x2), (5, 0, x3)]) dX1_mostAlike_89 rfl (by decide) rfl ?_
              refine z_goto (pc := 92) (tgt := 31) hR dX1_mostAlike_92 (by decide) ?_
              refine z_pick (pc := 31) (lv' := [(0, 2, 157), (1, 0, a1), (2, 0, a2), (3, 0, x1), (4, 0, x2), (5, 0, x3), (6, 0, (w32 (x4 + 1)))]) hR [2, 3, 4, 5, 6, 7, 0] rfl ?_
              exact hh31 (x3, (w32 (x4 + 1)))
            · refine z_iinc (pc := 86) hR (j := 6) (lv' := [(5, 0, (w32 (x3 + 1))), (7, 0, u8), (0, 2, 157), (1, 0, a1), (2, 0, a2), (3, 0, x1), (4, 0, x2), (6, 0, x4)]) dX1_mostAlike_86 rfl (by decide) rfl ?_
              refine z_iinc (pc := 89) hR (j := 7) (lv' := [(6, 0, (w32 (x4 + 1))), (5, 0, (w32 (x3 + 1))), (7, 0, u8), (0, 2, 157), (1, 0, a1), (2, 0, a2), (3, 0, x1), (4, 0, x2)]) dX1_mostAlike_89 rfl (by decide) rfl ?_
              refine z_goto (pc := 92) (tgt := 31) hR dX1_mostAlike_92 (by decide) ?_
              refine z_pick (pc := 31) (lv' := [(0, 2, 157), (1, 0, a1), (2, 0, a2), (3, 0, x1), (4, 0, x2), (5, 0, (w32 (x3 + 1))), (6, 0, (w32 (x4 + 1)))]) hR [3, 4, 5, 6, 7, 1, 0] rfl ?_
              exact hh31 ((w32 (x3 + 1)), (w32 (x4 + 1)))
        refine z_icmpne (pc := 62) (tgt := 69) hR dX1_mostAlike_62 (by decide) ?_ ?_
        · refine z_iconst (pc := 69) hR dX1_mostAlike_69 rfl ?_
          exact hj70 0
        · refine z_iconst (pc := 65) hR dX1_mostAlike_65 rfl ?_
          refine z_goto (pc := 66) (tgt := 70) hR dX1_mostAlike_66 (by decide) ?_
          exact hj70 1
    · refine z_goto (pc := 21) (tgt := 102) hR dX1_mostAlike_21 (by decide) ?_
      refine z_iinc (pc := 102) hR (j := 4) (lv' := [(4, 0, (w32 (x2 + 1))), (0, 2, 157), (1, 0, a1), (2, 0, a2), (3, 0, x1)]) dX1_mostAlike_102 rfl (by decide) rfl ?_
      refine z_goto (pc := 105) (tgt := 5) hR dX1_mostAlike_105 (by decide) ?_
      refine z_pick (pc := 5) (lv' := [(0, 2, 157), (1, 0, a1), (2, 0, a2), (3, 0, x1), (4, 0, (w32 (x2 + 1)))]) hR [1, 2, 3, 4, 0] rfl ?_
      exact hh5 (x1, (w32 (x2 + 1)))
