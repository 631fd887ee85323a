theorem dX12_lies_0 : decode cX12_lies 0 = .ok (.aload_n 0, 1) := by decide +kernel
theorem dX12_lies_1 : decode cX12_lies 1 = .ok (.invokevirtual 313, 3) := by decide +kernel
theorem dX12_lies_4 : decode cX12_lies 4 = .ok (.ifCond .eq 15, 3) := by decide +kernel
theorem dX12_lies_7 : decode cX12_lies 7 = .ok (.iload_n 1, 1) := by decide +kernel
theorem dX12_lies_8 : decode cX12_lies 8 = .ok (.i2l, 1) := by decide +kernel
theorem dX12_lies_9 : decode cX12_lies 9 = .ok (.lconst 0, 1) := by decide +kernel
theorem dX12_lies_10 : decode cX12_lies 10 = .ok (.ldc2_w 368, 3) := by decide +kernel
theorem dX12_lies_13 : decode cX12_lies 13 = .ok (.invokestatic 127, 3) := by decide +kernel
theorem dX12_lies_16 : decode cX12_lies 16 = .ok (.ifCond .ne 5, 3) := by decide +kernel
theorem dX12_lies_19 : decode cX12_lies 19 = .ok (.iconst (-1), 1) := by decide +kernel
theorem dX12_lies_20 : decode cX12_lies 20 = .ok (.ireturn, 1) := by decide +kernel
theorem dX12_lies_21 : decode cX12_lies 21 = .ok (.aload_n 0, 1) := by decide +kernel
theorem dX12_lies_22 : decode cX12_lies 22 = .ok (.aload_n 0, 1) := by decide +kernel
theorem dX12_lies_23 : decode cX12_lies 23 = .ok (.invokevirtual 397, 3) := by decide +kernel
theorem dX12_lies_26 : decode cX12_lies 26 = .ok (.invokevirtual 394, 3) := by decide +kernel
theorem dX12_lies_29 : decode cX12_lies 29 = .ok (.iconst 0, 1) := by decide +kernel
theorem dX12_lies_30 : decode cX12_lies 30 = .ok (.istore_n 2, 1) := by decide +kernel
theorem dX12_lies_31 : decode cX12_lies 31 = .ok (.iconst 0, 1) := by decide +kernel
theorem dX12_lies_32 : decode cX12_lies 32 = .ok (.istore_n 3, 1) := by decide +kernel
theorem dX12_lies_33 : decode cX12_lies 33 = .ok (.iload_n 3, 1) := by decide +kernel
theorem dX12_lies_34 : decode cX12_lies 34 = .ok (.sipush 5040, 3) := by decide +kernel
theorem dX12_lies_37 : decode cX12_lies 37 = .ok (.if_icmp .ge 33, 3) := by decide +kernel
theorem dX12_lies_40 : decode cX12_lies 40 = .ok (.iload_n 2, 1) := by decide +kernel
theorem dX12_lies_41 : decode cX12_lies 41 = .ok (.aload_n 0, 1) := by decide +kernel
theorem dX12_lies_42 : decode cX12_lies 42 = .ok (.getfield 58, 3) := by decide +kernel
theorem dX12_lies_45 : decode cX12_lies 45 = .ok (.iload_n 3, 1) := by decide +kernel
theorem dX12_lies_46 : decode cX12_lies 46 = .ok (.iaload, 1) := by decide +kernel
theorem dX12_lies_47 : decode cX12_lies 47 = .ok (.i2l, 1) := by decide +kernel
theorem dX12_lies_48 : decode cX12_lies 48 = .ok (.lconst 0, 1) := by decide +kernel
theorem dX12_lies_49 : decode cX12_lies 49 = .ok (.iload_n 1, 1) := by decide +kernel
theorem dX12_lies_50 : decode cX12_lies 50 = .ok (.i2l, 1) := by decide +kernel
theorem dX12_lies_51 : decode cX12_lies 51 = .ok (.invokestatic 127, 3) := by decide +kernel
theorem dX12_lies_54 : decode cX12_lies 54 = .ok (.ifCond .eq 7, 3) := by decide +kernel
theorem dX12_lies_57 : decode cX12_lies 57 = .ok (.iconst 1, 1) := by decide +kernel
theorem dX12_lies_58 : decode cX12_lies 58 = .ok (.goto 4, 3) := by decide +kernel
theorem dX12_lies_61 : decode cX12_lies 61 = .ok (.iconst 0, 1) := by decide +kernel
theorem dX12_lies_62 : decode cX12_lies 62 = .ok (.iadd, 1) := by decide +kernel
theorem dX12_lies_63 : decode cX12_lies 63 = .ok (.istore_n 2, 1) := by decide +kernel
theorem dX12_lies_64 : decode cX12_lies 64 = .ok (.iinc 3 1, 3) := by decide +kernel
theorem dX12_lies_67 : decode cX12_lies 67 = .ok (.goto (-34), 3) := by decide +kernel
theorem dX12_lies_70 : decode cX12_lies 70 = .ok (.iload_n 2, 1) := by decide +kernel
theorem dX12_lies_71 : decode cX12_lies 71 = .ok (.ireturn, 1) := by decide +kernel
def m_lies_L33 (N : Nat) (a1 : Int) (M5 : jMem) (h33 : (Int × Int) → Option (Int × jMem)) : Int × Int → Option (Int × jMem)
  | (x6, x7) => (if x7 < 5040 then jchk (0 ≤ x7 ∧ x7 < 5040) <| (m_in N ((M5 15 x7)) 0 a1 M5).bind fun r9 => (if r9 = 0 then jlt ((w32 (x6 + 0))) fun v10 => h33 (v10, (w32 (x7 + 1))) else jlt ((w32 (x6 + 1))) fun v11 => h33 (v11, (w32 (x7 + 1)))) else some (x6, M5))
def m_lies (N : Nat) (a1 : Int) (M : jMem) : Option (Int × jMem) := (m_isParish N M).bind fun r1 => (if r1 = 0 then some ((-1), M) else (m_in N a1 0 30 M).bind fun r2 => (if r2 = 0 then some ((-1), M) else jb1 (m_rankNow N M) fun r3 M4 => jbv (m_seeks N r3 M4) fun M5 => jfix N (m_lies_L33 N a1 M5) (0, 0)))
theorem c_m_lies {l : Launch} {g : jG} (N : Nat) (a1 : Int) (M : jMem)  : ∀ o, m_lies N a1 M = some o → jCt l g jTM yX12_lies cX12_lies 4 (some .int) 0 9 [(2, 0), (0, a1)] M o := by
  refine jMet (own := RX12) (em := id) (L := [(0, 2, 0), (1, 0, a1)]) (by decide +kernel) rfl (Nat.le_of_ble_eq_true rfl) rfl (fun K hR => ?_)
  unfold m_lies
  refine z_aload_n (pc := 0) hR 0 dX12_lies_0 rfl rfl ?_
  refine z_callvp (pc := 1) hR (As := []) (st := []) jm_X12_isParish jl_RX12_313 kmo_0 (by decide) rfl (by decide) (c_m_isParish N M) rfl (by decide) (by decide) rfl (Nat.le_of_ble_eq_true rfl) dX12_lies_1 (fun r1 => ?_)
  refine z_ifeq (pc := 4) (tgt := 19) hR dX12_lies_4 (by decide) ?_ ?_
  · refine z_iconst (pc := 19) hR dX12_lies_19 rfl ?_
    exact z_ireturn (pc := 20) hR rfl rfl dX12_lies_20 rfl
  · refine z_iload_n (pc := 7) hR 1 dX12_lies_7 rfl rfl ?_
    refine z_i2l (pc := 8) hR dX12_lies_8 ?_
    refine z_lconst (pc := 9) hR (x := 0) dX12_lies_9 rfl ?_
    refine z_ldc2 (pc := 10) hR (n := 30) jc_RX12_368 (by decide) rfl dX12_lies_10 ?_
    refine z_callsp (pc := 13) hR (As := [(1, a1), (1, 0), (1, 30)]) (st := []) jm_X12_in jl_RX12_127 (by decide) (c_m_in N a1 0 30 M) rfl (by decide) (by decide) rfl (Nat.le_of_ble_eq_true rfl) dX12_lies_13 (fun r2 => ?_)
    refine z_ifne (pc := 16) (tgt := 21) hR dX12_lies_16 (by decide) ?_ ?_
    · refine z_aload_n (pc := 21) hR 0 dX12_lies_21 rfl rfl ?_
      refine z_aload_n (pc := 22) hR 0 dX12_lies_22 rfl rfl ?_
      refine z_callv1 (pc := 23) hR (As := []) (st := [(2, 0)]) jm_X12_rankNow jl_RX12_397 kmo_0 (by decide) rfl (by decide) (c_m_rankNow N M) rfl (by decide) (by decide) rfl (Nat.le_of_ble_eq_true rfl) dX12_lies_23 (fun r3 M4 => ?_)
      refine z_callv0 (pc := 26) (rk' := 3) hR (As := [(0, r3)]) (st := []) jm_X12_seeks jl_RX12_394 kmo_0 (by decide) rfl (c_m_seeks N r3 M4) rfl (by decide) (by decide) rfl (Nat.le_of_ble_eq_true rfl) dX12_lies_26 (fun M5 => ?_)
      refine z_iconst (pc := 29) hR dX12_lies_29 rfl ?_
      refine z_istore_n (pc := 30) hR (lv' := [(2, 0, 0), (0, 2, 0), (1, 0, a1)]) dX12_lies_30 rfl (by decide) rfl ?_
      refine z_iconst (pc := 31) hR dX12_lies_31 rfl ?_
      refine z_istore_n (pc := 32) hR (lv' := [(3, 0, 0), (2, 0, 0), (0, 2, 0), (1, 0, a1)]) dX12_lies_32 rfl (by decide) rfl ?_
      refine z_pick (pc := 33) (lv' := [(0, 2, 0), (1, 0, a1), (2, 0, 0), (3, 0, 0)]) hR [2, 3, 1, 0] rfl ?_
      refine z_fix (σ := Int × Int) (lv := fun s => [(0, 2, 0), (1, 0, a1), (2, 0, s.1), (3, 0, s.2)]) (st := fun _ => []) (M := fun _ => M5) (fun h33 hh33 => ?_) N (0, 0)
      rintro ⟨x6, x7⟩
      show jZ K id 33 [(0, 2, 0), (1, 0, a1), (2, 0, x6), (3, 0, x7)] [] M5 _
      unfold m_lies_L33
      refine z_iload_n (pc := 33) hR 3 dX12_lies_33 rfl rfl ?_
      refine z_sipush (pc := 34) hR dX12_lies_34 rfl ?_
      refine z_icmpge (pc := 37) (tgt := 70) hR dX12_lies_37 (by decide) ?_ ?_
      · refine z_iload_n (pc := 70) hR 2 dX12_lies_70 rfl rfl ?_
        exact z_ireturn (pc := 71) hR rfl rfl dX12_lies_71 rfl
      · refine z_iload_n (pc := 40) hR 2 dX12_lies_40 rfl rfl ?_
        refine z_aload_n (pc := 41) hR 0 dX12_lies_41 rfl rfl ?_
        refine z_getr (pc := 42) hR (c0 := 15) (r := 15) jf_RX12_58 kmo_0 (by decide) rfl rfl dX12_lies_42 ?_
        refine z_iload_n (pc := 45) hR 3 dX12_lies_45 rfl rfl ?_
        refine z_chk (fun hc8 => ?_)
        refine z_iald (pc := 46) hR (n := 5040) kma_15 hc8.1 hc8.2 dX12_lies_46 ?_
        refine z_i2l (pc := 47) hR dX12_lies_47 ?_
        refine z_lconst (pc := 48) hR (x := 0) dX12_lies_48 rfl ?_
        refine z_iload_n (pc := 49) hR 1 dX12_lies_49 rfl rfl ?_
        refine z_i2l (pc := 50) hR dX12_lies_50 ?_
        refine z_callsp (pc := 51) hR (As := [(1, (M5 15 x7)), (1, 0), (1, a1)]) (st := [(0, x6)]) jm_X12_in jl_RX12_127 (by decide) (c_m_in N ((M5 15 x7)) 0 a1 M5) rfl (by decide) (by decide) rfl (Nat.le_of_ble_eq_true rfl) dX12_lies_51 (fun r9 => ?_)
        refine z_ifeq (pc := 54) (tgt := 61) hR dX12_lies_54 (by decide) ?_ ?_
        · refine z_iconst (pc := 61) hR dX12_lies_61 rfl ?_
          refine z_iadd (pc := 62) hR dX12_lies_62 ?_
          refine z_let1 (fun v10 => ?_)
          refine z_istore_n (pc := 63) hR (lv' := [(2, 0, v10), (0, 2, 0), (1, 0, a1), (3, 0, x7)]) dX12_lies_63 rfl (by decide) rfl ?_
          refine z_iinc (pc := 64) hR (j := 3) (lv' := [(3, 0, (w32 (x7 + 1))), (2, 0, v10), (0, 2, 0), (1, 0, a1)]) dX12_lies_64 rfl (by decide) rfl ?_
          refine z_goto (pc := 67) (tgt := 33) hR dX12_lies_67 (by decide) ?_
          refine z_pick (pc := 33) (lv' := [(0, 2, 0), (1, 0, a1), (2, 0, v10), (3, 0, (w32 (x7 + 1)))]) hR [2, 3, 1, 0] rfl ?_
          exact hh33 (v10, (w32 (x7 + 1)))
        · refine z_iconst (pc := 57) hR dX12_lies_57 rfl ?_
          refine z_goto (pc := 58) (tgt := 62) hR dX12_lies_58 (by decide) ?_
          refine z_iadd (pc := 62) hR dX12_lies_62 ?_
          refine z_let1 (fun v11 => ?_)
          refine z_istore_n (pc := 63) hR (lv' := [(2, 0, v11), (0, 2, 0), (1, 0, a1), (3, 0, x7)]) dX12_lies_63 rfl (by decide) rfl ?_
          refine z_iinc (pc := 64) hR (j := 3) (lv' := [(3, 0, (w32 (x7 + 1))), (2, 0, v11), (0, 2, 0), (1, 0, a1)]) dX12_lies_64 rfl (by decide) rfl ?_
          refine z_goto (pc := 67) (tgt := 33) hR dX12_lies_67 (by decide) ?_
          refine z_pick (pc := 33) (lv' := [(0, 2, 0), (1, 0, a1), (2, 0, v11), (3, 0, (w32 (x7 + 1)))]) hR [2, 3, 1, 0] rfl ?_
          exact hh33 (v11, (w32 (x7 + 1)))
    · refine z_iconst (pc := 19) hR dX12_lies_19 rfl ?_
      exact z_ireturn (pc := 20) hR rfl rfl dX12_lies_20 rfl
theorem dX12_farthest_0 : decode cX12_farthest 0 = .ok (.aload_n 0, 1) := by decide +kernel
theorem dX12_farthest_1 : decode cX12_farthest 1 = .ok (.invokevirtual 313, 3) := by decide +kernel
theorem dX12_farthest_4 : decode cX12_farthest 4 = .ok (.ifCond .eq 13, 3) := by decide +kernel
theorem dX12_farthest_7 : decode cX12_farthest 7 = .ok (.iload_n 1, 1) := by decide +kernel
theorem dX12_farthest_8 : decode cX12_farthest 8 = .ok (.i2l, 1) := by decide +kernel
theorem dX12_farthest_9 : decode cX12_farthest 9 = .ok (.lconst 0, 1) := by decide +kernel
theorem dX12_farthest_10 : decode cX12_farthest 10 = .ok (.lconst 1, 1) := by decide +kernel
theorem dX12_farthest_11 : decode cX12_farthest 11 = .ok (.invokestatic 127, 3) := by decide +kernel
theorem dX12_farthest_14 : decode cX12_farthest 14 = .ok (.ifCond .ne 5, 3) := by decide +kernel
theorem dX12_farthest_17 : decode cX12_farthest 17 = .ok (.iconst (-1), 1) := by decide +kernel
theorem dX12_farthest_18 : decode cX12_farthest 18 = .ok (.ireturn, 1) := by decide +kernel
theorem dX12_farthest_19 : decode cX12_farthest 19 = .ok (.aload_n 0, 1) := by decide +kernel
theorem dX12_farthest_20 : decode cX12_farthest 20 = .ok (.aload_n 0, 1) := by decide +kernel
theorem dX12_farthest_21 : decode cX12_farthest 21 = .ok (.invokevirtual 397, 3) := by decide +kernel
theorem dX12_farthest_24 : decode cX12_farthest 24 = .ok (.invokevirtual 394, 3) := by decide +kernel
theorem dX12_farthest_27 : decode cX12_farthest 27 = .ok (.aload_n 0, 1) := by decide +kernel
theorem dX12_farthest_28 : decode cX12_farthest 28 = .ok (.invokevirtual 397, 3) := by decide +kernel
theorem dX12_farthest_31 : decode cX12_farthest 31 = .ok (.istore_n 2, 1) := by decide +kernel
theorem dX12_farthest_32 : decode cX12_farthest 32 = .ok (.iconst 0, 1) := by decide +kernel
theorem dX12_farthest_33 : decode cX12_farthest 33 = .ok (.istore_n 3, 1) := by decide +kernel
theorem dX12_farthest_34 : decode cX12_farthest 34 = .ok (.iconst 0, 1) := by decide +kernel
theorem dX12_farthest_35 : decode cX12_farthest 35 = .ok (.istore 4, 2) := by decide +kernel
theorem dX12_farthest_37 : decode cX12_farthest 37 = .ok (.iload 4, 2) := by decide +kernel
theorem dX12_farthest_39 : decode cX12_farthest 39 = .ok (.sipush 5040, 3) := by decide +kernel
theorem dX12_farthest_42 : decode cX12_farthest 42 = .ok (.if_icmp .ge 34, 3) := by decide +kernel
theorem dX12_farthest_45 : decode cX12_farthest 45 = .ok (.aload_n 0, 1) := by decide +kernel
theorem dX12_farthest_46 : decode cX12_farthest 46 = .ok (.getfield 58, 3) := by decide +kernel
theorem dX12_farthest_49 : decode cX12_farthest 49 = .ok (.iload 4, 2) := by decide +kernel
theorem dX12_farthest_51 : decode cX12_farthest 51 = .ok (.iaload, 1) := by decide +kernel
theorem dX12_farthest_52 : decode cX12_farthest 52 = .ok (.iload_n 3, 1) := by decide +kernel
theorem dX12_farthest_53 : decode cX12_farthest 53 = .ok (.if_icmp .gt 6, 3) := by decide +kernel
theorem dX12_farthest_56 : decode cX12_farthest 56 = .ok (.goto 14, 3) := by decide +kernel
theorem dX12_farthest_59 : decode cX12_farthest 59 = .ok (.iload 4, 2) := by decide +kernel
theorem dX12_farthest_61 : decode cX12_farthest 61 = .ok (.istore_n 2, 1) := by decide +kernel
theorem dX12_farthest_62 : decode cX12_farthest 62 = .ok (.aload_n 0, 1) := by decide +kernel
theorem dX12_farthest_63 : decode cX12_farthest 63 = .ok (.getfield 58, 3) := by decide +kernel
theorem dX12_farthest_66 : decode cX12_farthest 66 = .ok (.iload 4, 2) := by decide +kernel
theorem dX12_farthest_68 : decode cX12_farthest 68 = .ok (.iaload, 1) := by decide +kernel
theorem dX12_farthest_69 : decode cX12_farthest 69 = .ok (.istore_n 3, 1) := by decide +kernel
theorem dX12_farthest_70 : decode cX12_farthest 70 = .ok (.iinc 4 1, 3) := by decide +kernel
theorem dX12_farthest_73 : decode cX12_farthest 73 = .ok (.goto (-36), 3) := by decide +kernel
theorem dX12_farthest_76 : decode cX12_farthest 76 = .ok (.iload_n 1, 1) := by decide +kernel
theorem dX12_farthest_77 : decode cX12_farthest 77 = .ok (.ifCond .ne 7, 3) := by decide +kernel
theorem dX12_farthest_80 : decode cX12_farthest 80 = .ok (.iload_n 3, 1) := by decide +kernel
theorem dX12_farthest_81 : decode cX12_farthest 81 = .ok (.goto 8, 3) := by decide +kernel
theorem dX12_farthest_84 : decode cX12_farthest 84 = .ok (.aload_n 0, 1) := by decide +kernel
theorem dX12_farthest_85 : decode cX12_farthest 85 = .ok (.iload_n 2, 1) := by decide +kernel
theorem dX12_farthest_86 : decode cX12_farthest 86 = .ok (.invokevirtual 406, 3) := by decide +kernel
theorem dX12_farthest_89 : decode cX12_farthest 89 = .ok (.ireturn, 1) := by decide +kernel
def m_farthest_L37 (N : Nat) (a1 : Int) (M7 : jMem) (h37 : (Int × Int × Int) → Option (Int × jMem)) : Int × Int × Int → Option (Int × jMem)
  | (x8, x9, x10) => (if x10 < 5040 then jchk (0 ≤ x10 ∧ x10 < 5040) <| (if x9 < (M7 15 x10) then jchk (0 ≤ x10 ∧ x10 < 5040) <| jlt ((M7 15 x10)) fun v15 => h37 (x10, v15, (w32 (x10 + 1))) else h37 (x8, x9, (w32 (x10 + 1)))) else (if a1 = 0 then some (x9, M7) else jb1 (m_lieOf N x8 M7) fun r11 M12 => some (r11, M12)))
def m_farthest (N : Nat) (a1 : Int) (M : jMem) : Option (Int × jMem) := (m_isParish N M).bind fun r1 => (if r1 = 0 then some ((-1), M) else (m_in N a1 0 1 M).bind fun r2 => (if r2 = 0 then some ((-1), M) else jb1 (m_rankNow N M) fun r3 M4 => jbv (m_seeks N r3 M4) fun M5 => jb1 (m_rankNow N M5) fun r6 M7 => jfix N (m_farthest_L37 N a1 M7) (r6, 0, 0)))
theorem c_m_farthest {l : Launch} {g : jG} (N : Nat) (a1 : Int) (M : jMem)  : ∀ o, m_farthest N a1 M = some o → jCt l g jTM yX12_farthest cX12_farthest 5 (some .int) 0 9 [(2, 0), (0, a1)] M o := by
  refine jMet (own := RX12) (em := id) (L := [(0, 2, 0), (1, 0, a1)]) (by decide +kernel) rfl (Nat.le_of_ble_eq_true rfl) rfl (fun K hR => ?_)
  unfold m_farthest
  refine z_aload_n (pc := 0) hR 0 dX12_farthest_0 rfl rfl ?_
  refine z_callvp (pc := 1) hR (As := []) (st := []) jm_X12_isParish jl_RX12_313 kmo_0 (by decide) rfl (by decide) (c_m_isParish N M) rfl (by decide) (by decide) rfl (Nat.le_of_ble_eq_true rfl) dX12_farthest_1 (fun r1 => ?_)
  refine z_ifeq (pc := 4) (tgt := 17) hR dX12_farthest_4 (by decide) ?_ ?_
  · refine z_iconst (pc := 17) hR dX12_farthest_17 rfl ?_
    exact z_ireturn (pc := 18) hR rfl rfl dX12_farthest_18 rfl
  · refine z_iload_n (pc := 7) hR 1 dX12_farthest_7 rfl rfl ?_
    refine z_i2l (pc := 8) hR dX12_farthest_8 ?_
    refine z_lconst (pc := 9) hR (x := 0) dX12_farthest_9 rfl ?_
    refine z_lconst (pc := 10) hR (x := 1) dX12_farthest_10 rfl ?_
    refine z_callsp (pc := 11) hR (As := [(1, a1), (1, 0), (1, 1)]) (st := []) jm_X12_in jl_RX12_127 (by decide) (c_m_in N a1 0 1 M) rfl (by decide) (by decide) rfl (Nat.le_of_ble_eq_true rfl) dX12_farthest_11 (fun r2 => ?_)
    refine z_ifne (pc := 14) (tgt := 19) hR dX12_farthest_14 (by decide) ?_ ?_
    · refine z_aload_n (pc := 19) hR 0 dX12_farthest_19 rfl rfl ?_
      refine z_aload_n (pc := 20) hR 0 dX12_farthest_20 rfl rfl ?_
      refine z_callv1 (pc := 21) hR (As := []) (st := [(2, 0)]) jm_X12_rankNow jl_RX12_397 kmo_0 (by decide) rfl (by decide) (c_m_rankNow N M) rfl (by decide) (by decide) rfl (Nat.le_of_ble_eq_true rfl) dX12_farthest_21 (fun r3 M4 => ?_)
      refine z_callv0 (pc := 24) (rk' := 3) hR (As := [(0, r3)]) (st := []) jm_X12_seeks jl_RX12_394 kmo_0 (by decide) rfl (c_m_seeks N r3 M4) rfl (by decide) (by decide) rfl (Nat.le_of_ble_eq_true rfl) dX12_farthest_24 (fun M5 => ?_)
      refine z_aload_n (pc := 27) hR 0 dX12_farthest_27 rfl rfl ?_
      refine z_callv1 (pc := 28) hR (As := []) (st := []) jm_X12_rankNow jl_RX12_397 kmo_0 (by decide) rfl (by decide) (c_m_rankNow N M5) rfl (by decide) (by decide) rfl (Nat.le_of_ble_eq_true rfl) dX12_farthest_28 (fun r6 M7 => ?_)
      refine z_istore_n (pc := 31) hR (lv' := [(2, 0, r6), (0, 2, 0), (1, 0, a1)]) dX12_farthest_31 rfl (by decide) rfl ?_
      refine z_iconst (pc := 32) hR dX12_farthest_32 rfl ?_
      refine z_istore_n (pc := 33) hR (lv' := [(3, 0, 0), (2, 0, r6), (0, 2, 0), (1, 0, a1)]) dX12_farthest_33 rfl (by decide) rfl ?_
      refine z_iconst (pc := 34) hR dX12_farthest_34 rfl ?_
      refine z_istore (pc := 35) hR (lv' := [(4, 0, 0), (3, 0, 0), (2, 0, r6), (0, 2, 0), (1, 0, a1)]) dX12_farthest_35 (by decide) rfl ?_
      refine z_pick (pc := 37) (lv' := [(0, 2, 0), (1, 0, a1), (2, 0, r6), (3, 0, 0), (4, 0, 0)]) hR [3, 4, 2, 1, 0] rfl ?_
      refine z_fix (σ := Int × Int × Int) (lv := fun s => [(0, 2, 0), (1, 0, a1), (2, 0, s.1), (3, 0, s.2.1), (4, 0, s.2.2)]) (st := fun _ => []) (M := fun _ => M7) (fun h37 hh37 => ?_) N (r6, 0, 0)
      rintro ⟨x8, x9, x10⟩
      show jZ K id 37 [(0, 2, 0), (1, 0, a1), (2, 0, x8), (3, 0, x9), (4, 0, x10)] [] M7 _
      unfold m_farthest_L37
      refine z_iload (pc := 37) hR 4 dX12_farthest_37 rfl ?_
      refine z_sipush (pc := 39) hR dX12_farthest_39 rfl ?_
      refine z_icmpge (pc := 42) (tgt := 76) hR dX12_farthest_42 (by decide) ?_ ?_
      · refine z_iload_n (pc := 76) hR 1 dX12_farthest_76 rfl rfl ?_
        refine z_ifne (pc := 77) (tgt := 84) hR dX12_farthest_77 (by decide) ?_ ?_
        · refine z_aload_n (pc := 84) hR 0 dX12_farthest_84 rfl rfl ?_
          refine z_iload_n (pc := 85) hR 2 dX12_farthest_85 rfl rfl ?_
          refine z_callv1 (pc := 86) hR (As := [(0, x8)]) (st := []) jm_X12_lieOf jl_RX12_406 kmo_0 (by decide) rfl (by decide) (c_m_lieOf N x8 M7) rfl (by decide) (by decide) rfl (Nat.le_of_ble_eq_true rfl) dX12_farthest_86 (fun r11 M12 => ?_)
          exact z_ireturn (pc := 89) hR rfl rfl dX12_farthest_89 rfl
        · refine z_iload_n (pc := 80) hR 3 dX12_farthest_80 rfl rfl ?_
          refine z_goto (pc := 81) (tgt := 89) hR dX12_farthest_81 (by decide) ?_
          exact z_ireturn (pc := 89) hR rfl rfl dX12_farthest_89 rfl
      · refine z_aload_n (pc := 45) hR 0 dX12_farthest_45 rfl rfl ?_
        refine z_getr (pc := 46) hR (c0 := 15) (r := 15) jf_RX12_58 kmo_0 (by decide) rfl rfl dX12_farthest_46 ?_
        refine z_iload (pc := 49) hR 4 dX12_farthest_49 rfl ?_
        refine z_chk (fun hc13 => ?_)
        refine z_iald (pc := 51) hR (n := 5040) kma_15 hc13.1 hc13.2 dX12_farthest_51 ?_
        refine z_iload_n (pc := 52) hR 3 dX12_farthest_52 rfl rfl ?_
        refine z_icmpgt (pc := 53) (tgt := 59) hR dX12_farthest_53 (by decide) ?_ ?_
        · refine z_iload (pc := 59) hR 4 dX12_farthest_59 rfl ?_
          refine z_istore_n (pc := 61) hR (lv' := [(2, 0, x10), (0, 2, 0), (1, 0, a1), (3, 0, x9), (4, 0, x10)]) dX12_farthest_61 rfl (by decide) rfl ?_
          refine z_aload_n (pc := 62) hR 1 dX12_farthest_62 rfl rfl ?_
          refine z_getr (pc := 63) hR (c0 := 15) (r := 15) jf_RX12_58 kmo_0 (by decide) rfl rfl dX12_farthest_63 ?_
          refine z_iload (pc := 66) hR 4 dX12_farthest_66 rfl ?_
          refine z_chk (fun hc14 => ?_)
          refine z_iald (pc := 68) hR (n := 5040) kma_15 hc14.1 hc14.2 dX12_farthest_68 ?_
          refine z_let1 (fun v15 => ?_)
          refine z_istore_n (pc := 69) hR (lv' := [(3, 0, v15), (2, 0, x10), (0, 2, 0), (1, 0, a1), (4, 0, x10)]) dX12_farthest_69 rfl (by decide) rfl ?_
          refine z_iinc (pc := 70) hR (j := 4) (lv' := [(4, 0, (w32 (x10 + 1))), (3, 0, v15), (2, 0, x10), (0, 2, 0), (1, 0, a1)]) dX12_farthest_70 rfl (by decide) rfl ?_
          refine z_goto (pc := 73) (tgt := 37) hR dX12_farthest_73 (by decide) ?_
          refine z_pick (pc := 37) (lv' := [(0, 2, 0), (1, 0, a1), (2, 0, x10), (3, 0, v15), (4, 0, (w32 (x10 + 1)))]) hR [3, 4, 2, 1, 0] rfl ?_
          exact hh37 (x10, v15, (w32 (x10 + 1)))
        · refine z_goto (pc := 56) (tgt := 70) hR dX12_farthest_56 (by decide) ?_
          refine z_iinc (pc := 70) hR (j := 4) (lv' := [(4, 0, (w32 (x10 + 1))), (0, 2, 0), (1, 0, a1), (2, 0, x8), (3, 0, x9)]) dX12_farthest_70 rfl (by decide) rfl ?_
          refine z_goto (pc := 73) (tgt := 37) hR dX12_farthest_73 (by decide) ?_
          refine z_pick (pc := 37) (lv' := [(0, 2, 0), (1, 0, a1), (2, 0, x8), (3, 0, x9), (4, 0, (w32 (x10 + 1)))]) hR [1, 2, 3, 4, 0] rfl ?_
          exact hh37 (x8, x9, (w32 (x10 + 1)))
    · refine z_iconst (pc := 17) hR dX12_farthest_17 rfl ?_
      exact z_ireturn (pc := 18) hR rfl rfl dX12_farthest_18 rfl
theorem dX12_comes_0 : decode cX12_comes 0 = .ok (.aload_n 0, 1) := by decide +kernel
theorem dX12_comes_1 : decode cX12_comes 1 = .ok (.iload_n 1, 1) := by decide +kernel
theorem dX12_comes_2 : decode cX12_comes 2 = .ok (.invokevirtual 298, 3) := by decide +kernel
theorem dX12_comes_5 : decode cX12_comes 5 = .ok (.ifCond .eq 11, 3) := by decide +kernel
theorem dX12_comes_8 : decode cX12_comes 8 = .ok (.aload_n 0, 1) := by decide +kernel
theorem dX12_comes_9 : decode cX12_comes 9 = .ok (.iload_n 2, 1) := by decide +kernel
theorem dX12_comes_10 : decode cX12_comes 10 = .ok (.invokevirtual 298, 3) := by decide +kernel
theorem dX12_comes_13 : decode cX12_comes 13 = .ok (.ifCond .ne 5, 3) := by decide +kernel
theorem dX12_comes_16 : decode cX12_comes 16 = .ok (.iconst (-1), 1) := by decide +kernel
theorem dX12_comes_17 : decode cX12_comes 17 = .ok (.ireturn, 1) := by decide +kernel
theorem dX12_comes_18 : decode cX12_comes 18 = .ok (.iconst 1, 1) := by decide +kernel
theorem dX12_comes_19 : decode cX12_comes 19 = .ok (.aload_n 0, 1) := by decide +kernel
theorem dX12_comes_20 : decode cX12_comes 20 = .ok (.iload_n 1, 1) := by decide +kernel
theorem dX12_comes_21 : decode cX12_comes 21 = .ok (.invokevirtual 310, 3) := by decide +kernel
theorem dX12_comes_24 : decode cX12_comes 24 = .ok (.ishl, 1) := by decide +kernel
theorem dX12_comes_25 : decode cX12_comes 25 = .ok (.istore_n 3, 1) := by decide +kernel
theorem dX12_comes_26 : decode cX12_comes 26 = .ok (.iconst 0, 1) := by decide +kernel
theorem dX12_comes_27 : decode cX12_comes 27 = .ok (.istore 4, 2) := by decide +kernel
theorem dX12_comes_29 : decode cX12_comes 29 = .ok (.iload 4, 2) := by decide +kernel
theorem dX12_comes_31 : decode cX12_comes 31 = .ok (.bipush 7, 2) := by decide +kernel
theorem dX12_comes_33 : decode cX12_comes 33 = .ok (.if_icmp .ge 70, 3) := by decide +kernel
theorem dX12_comes_36 : decode cX12_comes 36 = .ok (.iload_n 3, 1) := by decide +kernel
theorem dX12_comes_37 : decode cX12_comes 37 = .ok (.iload_n 2, 1) := by decide +kernel
theorem dX12_comes_38 : decode cX12_comes 38 = .ok (.invokestatic 295, 3) := by decide +kernel
theorem dX12_comes_41 : decode cX12_comes 41 = .ok (.ifCond .eq 6, 3) := by decide +kernel
theorem dX12_comes_44 : decode cX12_comes 44 = .ok (.iload 4, 2) := by decide +kernel
theorem dX12_comes_46 : decode cX12_comes 46 = .ok (.ireturn, 1) := by decide +kernel
theorem dX12_comes_47 : decode cX12_comes 47 = .ok (.iload_n 3, 1) := by decide +kernel
theorem dX12_comes_48 : decode cX12_comes 48 = .ok (.istore 5, 2) := by decide +kernel
theorem dX12_comes_50 : decode cX12_comes 50 = .ok (.iconst 0, 1) := by decide +kernel
theorem dX12_comes_51 : decode cX12_comes 51 = .ok (.istore 6, 2) := by decide +kernel
theorem dX12_comes_53 : decode cX12_comes 53 = .ok (.iload 6, 2) := by decide +kernel
theorem dX12_comes_55 : decode cX12_comes 55 = .ok (.aload_n 0, 1) := by decide +kernel
theorem dX12_comes_56 : decode cX12_comes 56 = .ok (.getfield 39, 3) := by decide +kernel
theorem dX12_comes_59 : decode cX12_comes 59 = .ok (.iconst 1, 1) := by decide +kernel
theorem dX12_comes_60 : decode cX12_comes 60 = .ok (.iaload, 1) := by decide +kernel
theorem dX12_comes_61 : decode cX12_comes 61 = .ok (.if_icmp .ge 33, 3) := by decide +kernel
theorem dX12_comes_64 : decode cX12_comes 64 = .ok (.iload_n 3, 1) := by decide +kernel
theorem dX12_comes_65 : decode cX12_comes 65 = .ok (.iload 6, 2) := by decide +kernel
theorem dX12_comes_67 : decode cX12_comes 67 = .ok (.invokestatic 295, 3) := by decide +kernel
theorem dX12_comes_70 : decode cX12_comes 70 = .ok (.ifCond .eq 18, 3) := by decide +kernel
theorem dX12_comes_73 : decode cX12_comes 73 = .ok (.iload 5, 2) := by decide +kernel
theorem dX12_comes_75 : decode cX12_comes 75 = .ok (.aload_n 0, 1) := by decide +kernel
theorem dX12_comes_76 : decode cX12_comes 76 = .ok (.getfield 39, 3) := by decide +kernel
theorem dX12_comes_79 : decode cX12_comes 79 = .ok (.bipush 53, 2) := by decide +kernel
theorem dX12_comes_81 : decode cX12_comes 81 = .ok (.iload 6, 2) := by decide +kernel
theorem dX12_comes_83 : decode cX12_comes 83 = .ok (.iadd, 1) := by decide +kernel
theorem dX12_comes_84 : decode cX12_comes 84 = .ok (.iaload, 1) := by decide +kernel
theorem dX12_comes_85 : decode cX12_comes 85 = .ok (.ior, 1) := by decide +kernel
theorem dX12_comes_86 : decode cX12_comes 86 = .ok (.istore 5, 2) := by decide +kernel
theorem dX12_comes_88 : decode cX12_comes 88 = .ok (.iinc 6 1, 3) := by decide +kernel
theorem dX12_comes_91 : decode cX12_comes 91 = .ok (.goto (-38), 3) := by decide +kernel
theorem dX12_comes_94 : decode cX12_comes 94 = .ok (.iload 5, 2) := by decide +kernel
theorem dX12_comes_96 : decode cX12_comes 96 = .ok (.istore_n 3, 1) := by decide +kernel
theorem dX12_comes_97 : decode cX12_comes 97 = .ok (.iinc 4 1, 3) := by decide +kernel
theorem dX12_comes_100 : decode cX12_comes 100 = .ok (.goto (-71), 3) := by decide +kernel
theorem dX12_comes_103 : decode cX12_comes 103 = .ok (.bipush (-2), 2) := by decide +kernel
theorem dX12_comes_105 : decode cX12_comes 105 = .ok (.ireturn, 1) := by decide +kernel
def m_comes_L53 (N : Nat) (M : jMem) (x5 : Int) (x6 : Int) (h29 : (Int × Int) → Option Int) (h53 : (Int × Int) → Option Int) : Int × Int → Option Int
  | (x8, x9) => (if x9 < (M 10 1) then (m_isOf N x5 x9 M).bind fun r10 => (if r10 = 0 then h53 (x8, (w32 (x9 + 1))) else jchk (0 ≤ (w32 (53 + x9)) ∧ (w32 (53 + x9)) < 112) <| jlt ((jor x8 ((M 10 ((w32 (53 + x9))))))) fun v12 => h53 (v12, (w32 (x9 + 1)))) else h29 (x8, (w32 (x6 + 1))))
def m_comes_L29 (N : Nat) (a2 : Int) (M : jMem) (h29 : (Int × Int) → Option Int) : Int × Int → Option Int
  | (x5, x6) => (if x6 < 7 then (m_isOf N x5 a2 M).bind fun r7 => (if r7 = 0 then jfix N (m_comes_L53 N M x5 x6 h29) (x5, 0) else some x6) else some ((-2)))
def m_comes (N : Nat) (a1 a2 : Int) (M : jMem) : Option Int := (m_isOne N a1 M).bind fun r1 => (if r1 = 0 then some ((-1)) else (m_isOne N a2 M).bind fun r2 => (if r2 = 0 then some ((-1)) else (m_farmOf N a1 M).bind fun r3 => jlt ((jshl 1 r3)) fun v4 => jfix N (m_comes_L29 N a2 M) (v4, 0)))
theorem c_m_comes {l : Launch} {g : jG} (N : Nat) (a1 a2 : Int) (M : jMem)  : ∀ o, m_comes N a1 a2 M = some o → jCt l g jTM yX12_comes cX12_comes 7 (some .int) 0 3 [(2, 0), (0, a1), (0, a2)] M (o, M) := by
  refine jMet (own := RX12) (em := (fun r => (r, M))) (L := [(0, 2, 0), (1, 0, a1), (2, 0, a2)]) (by decide +kernel) rfl (Nat.le_of_ble_eq_true rfl) rfl (fun K hR => ?_)
  unfold m_comes
  refine z_aload_n (pc := 0) hR 0 dX12_comes_0 rfl rfl ?_
  refine z_iload_n (pc := 1) hR 1 dX12_comes_1 rfl rfl ?_
  refine z_callvp (pc := 2) hR (As := [(0, a1)]) (st := []) jm_X12_isOne jl_RX12_298 kmo_0 (by decide) rfl (by decide) (c_m_isOne N a1 M) rfl (by decide) (by decide) rfl (Nat.le_of_ble_eq_true rfl) dX12_comes_2 (fun r1 => ?_)
  refine z_ifeq (pc := 5) (tgt := 16) hR dX12_comes_5 (by decide) ?_ ?_
  · refine z_iconst (pc := 16) hR dX12_comes_16 rfl ?_
    exact z_ireturn (pc := 17) hR rfl rfl dX12_comes_17 rfl
  · refine z_aload_n (pc := 8) hR 0 dX12_comes_8 rfl rfl ?_
    refine z_iload_n (pc := 9) hR 2 dX12_comes_9 rfl rfl ?_
    refine z_callvp (pc := 10) hR (As := [(0, a2)]) (st := []) jm_X12_isOne jl_RX12_298 kmo_0 (by decide) rfl (by decide) (c_m_isOne N a2 M) rfl (by decide) (by decide) rfl (Nat.le_of_ble_eq_true rfl) dX12_comes_10 (fun r2 => ?_)
    refine z_ifne (pc := 13) (tgt := 18) hR dX12_comes_13 (by decide) ?_ ?_
    · refine z_iconst (pc := 18) hR dX12_comes_18 rfl ?_
      refine z_aload_n (pc := 19) hR 0 dX12_comes_19 rfl rfl ?_
      refine z_iload_n (pc := 20) hR 1 dX12_comes_20 rfl rfl ?_
      refine z_callvp (pc := 21) hR (As := [(0, a1)]) (st := [(0, 1)]) jm_X12_farmOf jl_RX12_310 kmo_0 (by decide) rfl (by decide) (c_m_farmOf N a1 M) rfl (by decide) (by decide) rfl (Nat.le_of_ble_eq_true rfl) dX12_comes_21 (fun r3 => ?_)
      refine z_ishl (pc := 24) hR dX12_comes_24 ?_
      refine z_let1 (fun v4 => ?_)
      refine z_istore_n (pc := 25) hR (lv' := [(3, 0, v4), (0, 2, 0), (1, 0, a1), (2, 0, a2)]) dX12_comes_25 rfl (by decide) rfl ?_
      refine z_iconst (pc := 26) hR dX12_comes_26 rfl ?_
      refine z_istore (pc := 27) hR (lv' := [(4, 0, 0), (3, 0, v4), (0, 2, 0), (1, 0, a1), (2, 0, a2)]) dX12_comes_27 (by decide) rfl ?_
      refine z_pick (pc := 29) (lv' := [(0, 2, 0), (2, 0, a2), (3, 0, v4), (4, 0, 0)]) hR [2, 4, 1, 0] rfl ?_
      refine z_fix (σ := Int × Int) (lv := fun s => [(0, 2, 0), (2, 0, a2), (3, 0, s.1), (4, 0, s.2)]) (st := fun _ => []) (M := fun _ => M) (fun h29 hh29 => ?_) N (v4, 0)
      rintro ⟨x5, x6⟩
      show jZ K (fun r => (r, M)) 29 [(0, 2, 0), (2, 0, a2), (3, 0, x5), (4, 0, x6)] [] M _
      unfold m_comes_L29
      refine z_iload (pc := 29) hR 3 dX12_comes_29 rfl ?_
      refine z_bipush (pc := 31) hR dX12_comes_31 rfl ?_
      refine z_icmpge (pc := 33) (tgt := 103) hR dX12_comes_33 (by decide) ?_ ?_
      · refine z_bipush (pc := 103) hR dX12_comes_103 rfl ?_
        exact z_ireturn (pc := 105) hR rfl rfl dX12_comes_105 rfl
      · refine z_iload_n (pc := 36) hR 2 dX12_comes_36 rfl rfl ?_
        refine z_iload_n (pc := 37) hR 1 dX12_comes_37 rfl rfl ?_
        refine z_callsp (pc := 38) hR (As := [(0, x5), (0, a2)]) (st := []) jm_X12_isOf jl_RX12_295 (by decide) (c_m_isOf N x5 a2 M) rfl (by decide) (by decide) rfl (Nat.le_of_ble_eq_true rfl) dX12_comes_38 (fun r7 => ?_)
        refine z_ifeq (pc := 41) (tgt := 47) hR dX12_comes_41 (by decide) ?_ ?_
        · refine z_iload_n (pc := 47) hR 2 dX12_comes_47 rfl rfl ?_
          refine z_istore (pc := 48) hR (lv' := [(5, 0, x5), (0, 2, 0), (2, 0, a2), (3, 0, x5), (4, 0, x6)]) dX12_comes_48 (by decide) rfl ?_
          refine z_iconst (pc := 50) hR dX12_comes_50 rfl ?_
          refine z_istore (pc := 51) hR (lv' := [(6, 0, 0), (5, 0, x5), (0, 2, 0), (2, 0, a2), (3, 0, x5), (4, 0, x6)]) dX12_comes_51 (by decide) rfl ?_
          refine z_pick (pc := 53) (lv' := [(0, 2, 0), (2, 0, a2), (3, 0, x5), (4, 0, x6), (5, 0, x5), (6, 0, 0)]) hR [2, 3, 4, 5, 1, 0] rfl ?_
          refine z_fix (σ := Int × Int) (lv := fun s => [(0, 2, 0), (2, 0, a2), (3, 0, x5), (4, 0, x6), (5, 0, s.1), (6, 0, s.2)]) (st := fun _ => []) (M := fun _ => M) (fun h53 hh53 => ?_) N (x5, 0)
          rintro ⟨x8, x9⟩
          show jZ K (fun r => (r, M)) 53 [(0, 2, 0), (2, 0, a2), (3, 0, x5), (4, 0, x6), (5, 0, x8), (6, 0, x9)] [] M _
          unfold m_comes_L53
          refine z_iload (pc := 53) hR 5 dX12_comes_53 rfl ?_
          refine z_aload_n (pc := 55) hR 0 dX12_comes_55 rfl rfl ?_
          refine z_getr (pc := 56) hR (c0 := 10) (r := 10) jf_RX12_39 kmo_0 (by decide) rfl rfl dX12_comes_56 ?_
          refine z_iconst (pc := 59) hR dX12_comes_59 rfl ?_
          refine z_iald (pc := 60) hR (n := 112) kma_10 (by decide) (by decide) dX12_comes_60 ?_
          refine z_icmpge (pc := 61) (tgt := 94) hR dX12_comes_61 (by decide) ?_ ?_
          · refine z_iload (pc := 94) hR 4 dX12_comes_94 rfl ?_
            refine z_istore_n (pc := 96) hR (lv' := [(3, 0, x8), (0, 2, 0), (2, 0, a2), (4, 0, x6), (5, 0, x8), (6, 0, x9)]) dX12_comes_96 rfl (by decide) rfl ?_
            refine z_iinc (pc := 97) hR (j := 3) (lv' := [(4, 0, (w32 (x6 + 1))), (3, 0, x8), (0, 2, 0), (2, 0, a2), (5, 0, x8), (6, 0, x9)]) dX12_comes_97 rfl (by decide) rfl ?_
            refine z_goto (pc := 100) (tgt := 29) hR dX12_comes_100 (by decide) ?_
            refine z_pick (pc := 29) (lv' := [(0, 2, 0), (2, 0, a2), (3, 0, x8), (4, 0, (w32 (x6 + 1)))]) hR [2, 3, 1, 0] rfl ?_
            exact hh29 (x8, (w32 (x6 + 1)))
          · refine z_iload_n (pc := 64) hR 2 dX12_comes_64 rfl rfl ?_
            refine z_iload (pc := 65) hR 5 dX12_comes_65 rfl ?_
            refine z_callsp (pc := 67) hR (As := [(0, x5), (0, x9)]) (st := []) jm_X12_isOf jl_RX12_295 (by decide) (c_m_isOf N x5 x9 M) rfl (by decide) (by decide) rfl (Nat.le_of_ble_eq_true rfl) dX12_comes_67 (fun r10 => ?_)
            refine z_ifeq (pc := 70) (tgt := 88) hR dX12_comes_70 (by decide) ?_ ?_
            · refine z_iinc (pc := 88) hR (j := 5) (lv' := [(6, 0, (w32 (x9 + 1))), (0, 2, 0), (2, 0, a2), (3, 0, x5), (4, 0, x6), (5, 0, x8)]) dX12_comes_88 rfl (by decide) rfl ?_
              refine z_goto (pc := 91) (tgt := 53) hR dX12_comes_91 (by decide) ?_
              refine z_pick (pc := 53) (lv' := [(0, 2, 0), (2, 0, a2), (3, 0, x5), (4, 0, x6), (5, 0, x8), (6, 0, (w32 (x9 + 1)))]) hR [1, 2, 3, 4, 5, 0] rfl ?_
              exact hh53 (x8, (w32 (x9 + 1)))
            · refine z_iload (pc := 73) hR 4 dX12_comes_73 rfl ?_
              refine z_aload_n (pc := 75) hR 0 dX12_comes_75 rfl rfl ?_
              refine z_getr (pc := 76) hR (c0 := 10) (r := 10) jf_RX12_39 kmo_0 (by decide) rfl rfl dX12_comes_76 ?_
              refine z_bipush (pc := 79) hR dX12_comes_79 rfl ?_
              refine z_iload (pc := 81) hR 5 dX12_comes_81 rfl ?_
              refine z_iadd (pc := 83) hR dX12_comes_83 ?_
              refine z_chk (fun hc11 => ?_)
              refine z_iald (pc := 84) hR (n := 112) kma_10 hc11.1 hc11.2 dX12_comes_84 ?_
              refine z_ior (pc := 85) hR dX12_comes_85 ?_
              refine z_let1 (fun v12 => ?_)
              refine z_istore (pc := 86) hR (lv' := [(5, 0, v12), (0, 2, 0), (2, 0, a2), (3, 0, x5), (4, 0, x6), (6, 0, x9)]) dX12_comes_86 (by decide) rfl ?_
              refine z_iinc (pc := 88) hR (j := 5) (lv' := [(6, 0, (w32 (x9 + 1))), (5, 0, v12), (0, 2, 0), (2, 0, a2), (3, 0, x5), (4, 0, x6)]) dX12_comes_88 rfl (by decide) rfl ?_
              refine z_goto (pc := 91) (tgt := 53) hR dX12_comes_91 (by decide) ?_
              refine z_pick (pc := 53) (lv' := [(0, 2, 0), (2, 0, a2), (3, 0, x5), (4, 0, x6), (5, 0, v12), (6, 0, (w32 (x9 + 1)))]) hR [2, 3, 4, 5, 1, 0] rfl ?_
              exact hh53 (v12, (w32 (x9 + 1)))
        · refine z_iload (pc := 44) hR 3 dX12_comes_44 rfl ?_
          exact z_ireturn (pc := 46) hR rfl rfl dX12_comes_46 rfl
    · refine z_iconst (pc := 16) hR dX12_comes_16 rfl ?_
      exact z_ireturn (pc := 17) hR rfl rfl dX12_comes_17 rfl
theorem dX12_rings_0 : decode cX12_rings 0 = .ok (.aload_n 0, 1) := by decide +kernel
theorem dX12_rings_1 : decode cX12_rings 1 = .ok (.invokevirtual 313, 3) := by decide +kernel
theorem dX12_rings_4 : decode cX12_rings 4 = .ok (.ifCond .eq 13, 3) := by decide +kernel
theorem dX12_rings_7 : decode cX12_rings 7 = .ok (.iload_n 1, 1) := by decide +kernel
theorem dX12_rings_8 : decode cX12_rings 8 = .ok (.i2l, 1) := by decide +kernel
theorem dX12_rings_9 : decode cX12_rings 9 = .ok (.lconst 0, 1) := by decide +kernel
theorem dX12_rings_10 : decode cX12_rings 10 = .ok (.lconst 1, 1) := by decide +kernel
theorem dX12_rings_11 : decode cX12_rings 11 = .ok (.invokestatic 127, 3) := by decide +kernel
theorem dX12_rings_14 : decode cX12_rings 14 = .ok (.ifCond .ne 5, 3) := by decide +kernel
theorem dX12_rings_17 : decode cX12_rings 17 = .ok (.iconst (-1), 1) := by decide +kernel
theorem dX12_rings_18 : decode cX12_rings 18 = .ok (.ireturn, 1) := by decide +kernel
theorem dX12_rings_19 : decode cX12_rings 19 = .ok (.iconst 0, 1) := by decide +kernel
theorem dX12_rings_20 : decode cX12_rings 20 = .ok (.istore_n 2, 1) := by decide +kernel
theorem dX12_rings_21 : decode cX12_rings 21 = .ok (.iconst 0, 1) := by decide +kernel
theorem dX12_rings_22 : decode cX12_rings 22 = .ok (.istore_n 3, 1) := by decide +kernel
theorem dX12_rings_23 : decode cX12_rings 23 = .ok (.iconst 0, 1) := by decide +kernel
theorem dX12_rings_24 : decode cX12_rings 24 = .ok (.istore 4, 2) := by decide +kernel
theorem dX12_rings_26 : decode cX12_rings 26 = .ok (.iload 4, 2) := by decide +kernel
theorem dX12_rings_28 : decode cX12_rings 28 = .ok (.aload_n 0, 1) := by decide +kernel
theorem dX12_rings_29 : decode cX12_rings 29 = .ok (.getfield 39, 3) := by decide +kernel
theorem dX12_rings_32 : decode cX12_rings 32 = .ok (.iconst 1, 1) := by decide +kernel
theorem dX12_rings_33 : decode cX12_rings 33 = .ok (.iaload, 1) := by decide +kernel
theorem dX12_rings_34 : decode cX12_rings 34 = .ok (.if_icmp .ge 74, 3) := by decide +kernel
theorem dX12_rings_37 : decode cX12_rings 37 = .ok (.iload_n 3, 1) := by decide +kernel
theorem dX12_rings_38 : decode cX12_rings 38 = .ok (.iload 4, 2) := by decide +kernel
theorem dX12_rings_40 : decode cX12_rings 40 = .ok (.invokestatic 295, 3) := by decide +kernel
theorem dX12_rings_43 : decode cX12_rings 43 = .ok (.ifCond .ne 59, 3) := by decide +kernel
theorem dX12_rings_46 : decode cX12_rings 46 = .ok (.aload_n 0, 1) := by decide +kernel
theorem dX12_rings_47 : decode cX12_rings 47 = .ok (.getfield 39, 3) := by decide +kernel
theorem dX12_rings_50 : decode cX12_rings 50 = .ok (.bipush 32, 2) := by decide +kernel
theorem dX12_rings_52 : decode cX12_rings 52 = .ok (.iload 4, 2) := by decide +kernel
theorem dX12_rings_54 : decode cX12_rings 54 = .ok (.iadd, 1) := by decide +kernel
theorem dX12_rings_55 : decode cX12_rings 55 = .ok (.iaload, 1) := by decide +kernel
theorem dX12_rings_56 : decode cX12_rings 56 = .ok (.iload 4, 2) := by decide +kernel
theorem dX12_rings_58 : decode cX12_rings 58 = .ok (.if_icmp .ne 6, 3) := by decide +kernel
theorem dX12_rings_61 : decode cX12_rings 61 = .ok (.goto 41, 3) := by decide +kernel
theorem dX12_rings_64 : decode cX12_rings 64 = .ok (.iinc 2 1, 3) := by decide +kernel
theorem dX12_rings_67 : decode cX12_rings 67 = .ok (.iload 4, 2) := by decide +kernel
theorem dX12_rings_69 : decode cX12_rings 69 = .ok (.istore 5, 2) := by decide +kernel
theorem dX12_rings_71 : decode cX12_rings 71 = .ok (.iload_n 3, 1) := by decide +kernel
theorem dX12_rings_72 : decode cX12_rings 72 = .ok (.iload 5, 2) := by decide +kernel
theorem dX12_rings_74 : decode cX12_rings 74 = .ok (.invokestatic 295, 3) := by decide +kernel
theorem dX12_rings_77 : decode cX12_rings 77 = .ok (.ifCond .ne 25, 3) := by decide +kernel
theorem dX12_rings_80 : decode cX12_rings 80 = .ok (.iload_n 3, 1) := by decide +kernel
theorem dX12_rings_81 : decode cX12_rings 81 = .ok (.iconst 1, 1) := by decide +kernel
theorem dX12_rings_82 : decode cX12_rings 82 = .ok (.iload 5, 2) := by decide +kernel
theorem dX12_rings_84 : decode cX12_rings 84 = .ok (.ishl, 1) := by decide +kernel
theorem dX12_rings_85 : decode cX12_rings 85 = .ok (.ior, 1) := by decide +kernel
theorem dX12_rings_86 : decode cX12_rings 86 = .ok (.istore_n 3, 1) := by decide +kernel
theorem dX12_rings_87 : decode cX12_rings 87 = .ok (.aload_n 0, 1) := by decide +kernel
theorem dX12_rings_88 : decode cX12_rings 88 = .ok (.getfield 39, 3) := by decide +kernel
theorem dX12_rings_91 : decode cX12_rings 91 = .ok (.bipush 32, 2) := by decide +kernel
theorem dX12_rings_93 : decode cX12_rings 93 = .ok (.iload 5, 2) := by decide +kernel
theorem dX12_rings_95 : decode cX12_rings 95 = .ok (.iadd, 1) := by decide +kernel
theorem dX12_rings_96 : decode cX12_rings 96 = .ok (.iaload, 1) := by decide +kernel
theorem dX12_rings_97 : decode cX12_rings 97 = .ok (.istore 5, 2) := by decide +kernel
theorem dX12_rings_99 : decode cX12_rings 99 = .ok (.goto (-28), 3) := by decide +kernel
theorem dX12_rings_102 : decode cX12_rings 102 = .ok (.iinc 4 1, 3) := by decide +kernel
theorem dX12_rings_105 : decode cX12_rings 105 = .ok (.goto (-79), 3) := by decide +kernel
theorem dX12_rings_108 : decode cX12_rings 108 = .ok (.iload_n 1, 1) := by decide +kernel
theorem dX12_rings_109 : decode cX12_rings 109 = .ok (.ifCond .ne 7, 3) := by decide +kernel
theorem dX12_rings_112 : decode cX12_rings 112 = .ok (.iload_n 2, 1) := by decide +kernel
theorem dX12_rings_113 : decode cX12_rings 113 = .ok (.goto 9, 3) := by decide +kernel
theorem dX12_rings_116 : decode cX12_rings 116 = .ok (.iload_n 3, 1) := by decide +kernel
theorem dX12_rings_117 : decode cX12_rings 117 = .ok (.invokestatic 326, 3) := by decide +kernel
theorem dX12_rings_120 : decode cX12_rings 120 = .ok (.iload_n 2, 1) := by decide +kernel
theorem dX12_rings_121 : decode cX12_rings 121 = .ok (.isub, 1) := by decide +kernel
theorem dX12_rings_122 : decode cX12_rings 122 = .ok (.ireturn, 1) := by decide +kernel
def m_rings_L71 (N : Nat) (M : jMem) (x3 : Int) (x5 : Int) (h26 : (Int × Int × Int) → Option Int) (h71 : (Int × Int) → Option Int) : Int × Int → Option Int
  | (x9, x10) => (m_isOf N x9 x10 M).bind fun r11 => (if r11 = 0 then jlt ((jor x9 ((jshl 1 x10)))) fun v12 => jchk (0 ≤ (w32 (32 + x10)) ∧ (w32 (32 + x10)) < 112) <| jlt ((M 10 ((w32 (32 + x10))))) fun v14 => h71 (v12, v14) else h26 ((w32 (x3 + 1)), x9, (w32 (x5 + 1))))
def m_rings_L26 (N : Nat) (a1 : Int) (M : jMem) (h26 : (Int × Int × Int) → Option Int) : Int × Int × Int → Option Int
  | (x3, x4, x5) => (if x5 < (M 10 1) then (m_isOf N x4 x5 M).bind fun r7 => (if r7 = 0 then jchk (0 ≤ (w32 (32 + x5)) ∧ (w32 (32 + x5)) < 112) <| (if (M 10 ((w32 (32 + x5)))) = x5 then h26 (x3, x4, (w32 (x5 + 1))) else jfix N (m_rings_L71 N M x3 x5 h26) (x4, x5)) else h26 (x3, x4, (w32 (x5 + 1)))) else (if a1 = 0 then some x3 else (m_bits N x4 M).bind fun r6 => some ((w32 (r6 - x3)))))
def m_rings (N : Nat) (a1 : Int) (M : jMem) : Option Int := (m_isParish N M).bind fun r1 => (if r1 = 0 then some ((-1)) else (m_in N a1 0 1 M).bind fun r2 => (if r2 = 0 then some ((-1)) else jfix N (m_rings_L26 N a1 M) (0, 0, 0)))
theorem c_m_rings {l : Launch} {g : jG} (N : Nat) (a1 : Int) (M : jMem)  : ∀ o, m_rings N a1 M = some o → jCt l g jTM yX12_rings cX12_rings 6 (some .int) 0 3 [(2, 0), (0, a1)] M (o, M) := by
  refine jMet (own := RX12) (em := (fun r => (r, M))) (L := [(0, 2, 0), (1, 0, a1)]) (by decide +kernel) rfl (Nat.le_of_ble_eq_true rfl) rfl (fun K hR => ?_)
  unfold m_rings
  refine z_aload_n (pc := 0) hR 0 dX12_rings_0 rfl rfl ?_
  refine z_callvp (pc := 1) hR (As := []) (st := []) jm_X12_isParish jl_RX12_313 kmo_0 (by decide) rfl (by decide) (c_m_isParish N M) rfl (by decide) (by decide) rfl (Nat.le_of_ble_eq_true rfl) dX12_rings_1 (fun r1 => ?_)
  refine z_ifeq (pc := 4) (tgt := 17) hR dX12_rings_4 (by decide) ?_ ?_
  · refine z_iconst (pc := 17) hR dX12_rings_17 rfl ?_
    exact z_ireturn (pc := 18) hR rfl rfl dX12_rings_18 rfl
  · refine z_iload_n (pc := 7) hR 1 dX12_rings_7 rfl rfl ?_
    refine z_i2l (pc := 8) hR dX12_rings_8 ?_
    refine z_lconst (pc := 9) hR (x := 0) dX12_rings_9 rfl ?_
    refine z_lconst (pc := 10) hR (x := 1) dX12_rings_10 rfl ?_
    refine z_callsp (pc := 11) hR (As := [(1, a1), (1, 0), (1, 1)]) (st := []) jm_X12_in jl_RX12_127 (by decide) (c_m_in N a1 0 1 M) rfl (by decide) (by decide) rfl (Nat.le_of_ble_eq_true rfl) dX12_rings_11 (fun r2 => ?_)
    refine z_ifne (pc := 14) (tgt := 19) hR dX12_rings_14 (by decide) ?_ ?_
    · refine z_iconst (pc := 19) hR dX12_rings_19 rfl ?_
      refine z_istore_n (pc := 20) hR (lv' := [(2, 0, 0), (0, 2, 0), (1, 0, a1)]) dX12_rings_20 rfl (by decide) rfl ?_
      refine z_iconst (pc := 21) hR dX12_rings_21 rfl ?_
      refine z_istore_n (pc := 22) hR (lv' := [(3, 0, 0), (2, 0, 0), (0, 2, 0), (1, 0, a1)]) dX12_rings_22 rfl (by decide) rfl ?_
      refine z_iconst (pc := 23) hR dX12_rings_23 rfl ?_
      refine z_istore (pc := 24) hR (lv' := [(4, 0, 0), (3, 0, 0), (2, 0, 0), (0, 2, 0), (1, 0, a1)]) dX12_rings_24 (by decide) rfl ?_
      refine z_pick (pc := 26) (lv' := [(0, 2, 0), (1, 0, a1), (2, 0, 0), (3, 0, 0), (4, 0, 0)]) hR [3, 4, 2, 1, 0] rfl ?_
      refine z_fix (σ := Int × Int × Int) (lv := fun s => [(0, 2, 0), (1, 0, a1), (2, 0, s.1), (3, 0, s.2.1), (4, 0, s.2.2)]) (st := fun _ => []) (M := fun _ => M) (fun h26 hh26 => ?_) N (0, 0, 0)
      rintro ⟨x3, x4, x5⟩
      show jZ K (fun r => (r, M)) 26 [(0, 2, 0), (1, 0, a1), (2, 0, x3), (3, 0, x4), (4, 0, x5)] [] M _
      unfold m_rings_L26
      refine z_iload (pc := 26) hR 4 dX12_rings_26 rfl ?_
      refine z_aload_n (pc := 28) hR 0 dX12_rings_28 rfl rfl ?_
      refine z_getr (pc := 29) hR (c0 := 10) (r := 10) jf_RX12_39 kmo_0 (by decide) rfl rfl dX12_rings_29 ?_
      refine z_iconst (pc := 32) hR dX12_rings_32 rfl ?_
      refine z_iald (pc := 33) hR (n := 112) kma_10 (by decide) (by decide) dX12_rings_33 ?_
      refine z_icmpge (pc := 34) (tgt := 108) hR dX12_rings_34 (by decide) ?_ ?_
      · refine z_iload_n (pc := 108) hR 1 dX12_rings_108 rfl rfl ?_
        refine z_ifne (pc := 109) (tgt := 116) hR dX12_rings_109 (by decide) ?_ ?_
        · refine z_iload_n (pc := 116) hR 3 dX12_rings_116 rfl rfl ?_
          refine z_callsp (pc := 117) hR (As := [(0, x4)]) (st := []) jm_X12_bits jl_RX12_326 (by decide) (c_m_bits N x4 M) rfl (by decide) (by decide) rfl (Nat.le_of_ble_eq_true rfl) dX12_rings_117 (fun r6 => ?_)
          refine z_iload_n (pc := 120) hR 2 dX12_rings_120 rfl rfl ?_
          refine z_isub (pc := 121) hR dX12_rings_121 ?_
          exact z_ireturn (pc := 122) hR rfl rfl dX12_rings_122 rfl
        · refine z_iload_n (pc := 112) hR 2 dX12_rings_112 rfl rfl ?_
          refine z_goto (pc := 113) (tgt := 122) hR dX12_rings_113 (by decide) ?_
          exact z_ireturn (pc := 122) hR rfl rfl dX12_rings_122 rfl
      · refine z_iload_n (pc := 37) hR 3 dX12_rings_37 rfl rfl ?_
        refine z_iload (pc := 38) hR 4 dX12_rings_38 rfl ?_
        refine z_callsp (pc := 40) hR (As := [(0, x4), (0, x5)]) (st := []) jm_X12_isOf jl_RX12_295 (by decide) (c_m_isOf N x4 x5 M) rfl (by decide) (by decide) rfl (Nat.le_of_ble_eq_true rfl) dX12_rings_40 (fun r7 => ?_)
        refine z_ifne (pc := 43) (tgt := 102) hR dX12_rings_43 (by decide) ?_ ?_
        · refine z_iinc (pc := 102) hR (j := 4) (lv' := [(4, 0, (w32 (x5 + 1))), (0, 2, 0), (1, 0, a1), (2, 0, x3), (3, 0, x4)]) dX12_rings_102 rfl (by decide) rfl ?_
          refine z_goto (pc := 105) (tgt := 26) hR dX12_rings_105 (by decide) ?_
          refine z_pick (pc := 26) (lv' := [(0, 2, 0), (1, 0, a1), (2, 0, x3), (3, 0, x4), (4, 0, (w32 (x5 + 1)))]) hR [1, 2, 3, 4, 0] rfl ?_
          exact hh26 (x3, x4, (w32 (x5 + 1)))
        · refine z_aload_n (pc := 46) hR 0 dX12_rings_46 rfl rfl ?_
          refine z_getr (pc := 47) hR (c0 := 10) (r := 10) jf_RX12_39 kmo_0 (by decide) rfl rfl dX12_rings_47 ?_
          refine z_bipush (pc := 50) hR dX12_rings_50 rfl ?_
          refine z_iload (pc := 52) hR 4 dX12_rings_52 rfl ?_
          refine z_iadd (pc := 54) hR dX12_rings_54 ?_
          refine z_chk (fun hc8 => ?_)
          refine z_iald (pc := 55) hR (n := 112) kma_10 hc8.1 hc8.2 dX12_rings_55 ?_
          refine z_iload (pc := 56) hR 4 dX12_rings_56 rfl ?_
          refine z_icmpne (pc := 58) (tgt := 64) hR dX12_rings_58 (by decide) ?_ ?_
          · refine z_iinc (pc := 64) hR (j := 2) (lv' := [(2, 0, (w32 (x3 + 1))), (0, 2, 0), (1, 0, a1), (3, 0, x4), (4, 0, x5)]) dX12_rings_64 rfl (by decide) rfl ?_
            refine z_iload (pc := 67) hR 4 dX12_rings_67 rfl ?_
            refine z_istore (pc := 69) hR (lv' := [(5, 0, x5), (2, 0, (w32 (x3 + 1))), (0, 2, 0), (1, 0, a1), (3, 0, x4), (4, 0, x5)]) dX12_rings_69 (by decide) rfl ?_
            refine z_pick (pc := 71) (lv' := [(0, 2, 0), (1, 0, a1), (2, 0, (w32 (x3 + 1))), (3, 0, x4), (4, 0, x5), (5, 0, x5)]) hR [2, 3, 1, 4, 5, 0] rfl ?_
            refine z_fix (σ := Int × Int) (lv := fun s => [(0, 2, 0), (1, 0, a1), (2, 0, (w32 (x3 + 1))), (3, 0, s.1), (4, 0, x5), (5, 0, s.2)]) (st := fun _ => []) (M := fun _ => M) (fun h71 hh71 => ?_) N (x4, x5)
            rintro ⟨x9, x10⟩
            show jZ K (fun r => (r, M)) 71 [(0, 2, 0), (1, 0, a1), (2, 0, (w32 (x3 + 1))), (3, 0, x9), (4, 0, x5), (5, 0, x10)] [] M _
            unfold m_rings_L71
            refine z_iload_n (pc := 71) hR 3 dX12_rings_71 rfl rfl ?_
            refine z_iload (pc := 72) hR 5 dX12_rings_72 rfl ?_
            refine z_callsp (pc := 74) hR (As := [(0, x9), (0, x10)]) (st := []) jm_X12_isOf jl_RX12_295 (by decide) (c_m_isOf N x9 x10 M) rfl (by decide) (by decide) rfl (Nat.le_of_ble_eq_true rfl) dX12_rings_74 (fun r11 => ?_)
            refine z_ifne (pc := 77) (tgt := 102) hR dX12_rings_77 (by decide) ?_ ?_
            · refine z_iinc (pc := 102) hR (j := 4) (lv' := [(4, 0, (w32 (x5 + 1))), (0, 2, 0), (1, 0, a1), (2, 0, (w32 (x3 + 1))), (3, 0, x9), (5, 0, x10)]) dX12_rings_102 rfl (by decide) rfl ?_
              refine z_goto (pc := 105) (tgt := 26) hR dX12_rings_105 (by decide) ?_
              refine z_pick (pc := 26) (lv' := [(0, 2, 0), (1, 0, a1), (2, 0, (w32 (x3 + 1))), (3, 0, x9), (4, 0, (w32 (x5 + 1)))]) hR [1, 2, 3, 4, 0] rfl ?_
              exact hh26 ((w32 (x3 + 1)), x9, (w32 (x5 + 1)))
            · refine z_iload_n (pc := 80) hR 3 dX12_rings_80 rfl rfl ?_
              refine z_iconst (pc := 81) hR dX12_rings_81 rfl ?_
              refine z_iload (pc := 82) hR 5 dX12_rings_82 rfl ?_
              refine z_ishl (pc := 84) hR dX12_rings_84 ?_
              refine z_ior (pc := 85) hR dX12_rings_85 ?_
              refine z_let1 (fun v12 => ?_)
              refine z_istore_n (pc := 86) hR (lv' := [(3, 0, v12), (0, 2, 0), (1, 0, a1), (2, 0, (w32 (x3 + 1))), (4, 0, x5), (5, 0, x10)]) dX12_rings_86 rfl (by decide) rfl ?_
              refine z_aload_n (pc := 87) hR 1 dX12_rings_87 rfl rfl ?_
              refine z_getr (pc := 88) hR (c0 := 10) (r := 10) jf_RX12_39 kmo_0 (by decide) rfl rfl dX12_rings_88 ?_
              refine z_bipush (pc := 91) hR dX12_rings_91 rfl ?_
              refine z_iload (pc := 93) hR 5 dX12_rings_93 rfl ?_
              refine z_iadd (pc := 95) hR dX12_rings_95 ?_
              refine z_chk (fun hc13 => ?_)
              refine z_iald (pc := 96) hR (n := 112) kma_10 hc13.1 hc13.2 dX12_rings_96 ?_
              refine z_let1 (fun v14 => ?_)
              refine z_istore (pc := 97) hR (lv' := [(5, 0, v14), (3, 0, v12), (0, 2, 0), (1, 0, a1), (2, 0, (w32 (x3 + 1))), (4, 0, x5)]) dX12_rings_97 (by decide) rfl ?_
              refine z_goto (pc := 99) (tgt := 71) hR dX12_rings_99 (by decide) ?_
              refine z_pick (pc := 71) (lv' := [(0, 2, 0), (1, 0, a1), (2, 0, (w32 (x3 + 1))), (3, 0, v12), (4, 0, x5), (5, 0, v14)]) hR [2, 3, 4, 1, 5, 0] rfl ?_
              exact hh71 (v12, v14)
          · refine z_goto (pc := 61) (tgt := 102) hR dX12_rings_61 (by decide) ?_
            refine z_iinc (pc := 102) hR (j := 4) (lv' := [(4, 0, (w32 (x5 + 1))), (0, 2, 0), (1, 0, a1), (2, 0, x3), (3, 0, x4)]) dX12_rings_102 rfl (by decide) rfl ?_
            refine z_goto (pc := 105) (tgt := 26) hR dX12_rings_105 (by decide) ?_
            refine z_pick (pc := 26) (lv' := [(0, 2, 0), (1, 0, a1), (2, 0, x3), (3, 0, x4), (4, 0, (w32 (x5 + 1)))]) hR [1, 2, 3, 4, 0] rfl ?_
            exact hh26 (x3, x4, (w32 (x5 + 1)))
    · refine z_iconst (pc := 17) hR dX12_rings_17 rfl ?_
      exact z_ireturn (pc := 18) hR rfl rfl dX12_rings_18 rfl
theorem dX12_keeps_0 : decode cX12_keeps 0 = .ok (.iconst 0, 1) := by decide +kernel
theorem dX12_keeps_1 : decode cX12_keeps 1 = .ok (.istore_n 1, 1) := by decide +kernel
theorem dX12_keeps_2 : decode cX12_keeps 2 = .ok (.iload_n 1, 1) := by decide +kernel
theorem dX12_keeps_3 : decode cX12_keeps 3 = .ok (.bipush 36, 2) := by decide +kernel
theorem dX12_keeps_5 : decode cX12_keeps 5 = .ok (.if_icmp .ge 24, 3) := by decide +kernel
theorem dX12_keeps_8 : decode cX12_keeps 8 = .ok (.aload_n 0, 1) := by decide +kernel
theorem dX12_keeps_9 : decode cX12_keeps 9 = .ok (.getfield 64, 3) := by decide +kernel
theorem dX12_keeps_12 : decode cX12_keeps 12 = .ok (.iload_n 1, 1) := by decide +kernel
theorem dX12_keeps_13 : decode cX12_keeps 13 = .ok (.aload_n 0, 1) := by decide +kernel
theorem dX12_keeps_14 : decode cX12_keeps 14 = .ok (.getfield 39, 3) := by decide +kernel
theorem dX12_keeps_17 : decode cX12_keeps 17 = .ok (.bipush 10, 2) := by decide +kernel
theorem dX12_keeps_19 : decode cX12_keeps 19 = .ok (.iload_n 1, 1) := by decide +kernel
theorem dX12_keeps_20 : decode cX12_keeps 20 = .ok (.iadd, 1) := by decide +kernel
theorem dX12_keeps_21 : decode cX12_keeps 21 = .ok (.iaload, 1) := by decide +kernel
theorem dX12_keeps_22 : decode cX12_keeps 22 = .ok (.iastore, 1) := by decide +kernel
theorem dX12_keeps_23 : decode cX12_keeps 23 = .ok (.iinc 1 1, 3) := by decide +kernel
theorem dX12_keeps_26 : decode cX12_keeps 26 = .ok (.goto (-24), 3) := by decide +kernel
theorem dX12_keeps_29 : decode cX12_keeps 29 = .ok (.return_, 1) := by decide +kernel
def m_keeps_L2 (N : Nat)  (h2 : (Int × jMem) → Option (Int × jMem)) : Int × jMem → Option (Int × jMem)
  | (x1, M2) => (if x1 < 36 then jchk (0 ≤ (w32 (10 + x1)) ∧ (w32 (10 + x1)) < 112) <| jchk (0 ≤ x1 ∧ x1 < 36) <| jlt (up M2 17 x1 ((M2 10 ((w32 (10 + x1)))))) fun M5 => h2 ((w32 (x1 + 1)), M5) else some (0, M2))
def m_keeps (N : Nat) (M : jMem) : Option (Int × jMem) := jfix N (m_keeps_L2 N) (0, M)
theorem c_m_keeps {l : Launch} {g : jG} (N : Nat) (M : jMem)  : ∀ o, m_keeps N  M = some o → jCt l g jTM yX12_keeps cX12_keeps 2 none 3 1 [(2, 0)] M o := by
  refine jMet (own := RX12) (em := id) (L := [(0, 2, 0)]) (by decide +kernel) rfl (Nat.le_of_ble_eq_true rfl) rfl (fun K hR => ?_)
  unfold m_keeps
  refine z_iconst (pc := 0) hR dX12_keeps_0 rfl ?_
  refine z_istore_n (pc := 1) hR (lv' := [(1, 0, 0), (0, 2, 0)]) dX12_keeps_1 rfl (by decide) rfl ?_
  refine z_pick (pc := 2) (lv' := [(0, 2, 0), (1, 0, 0)]) hR [1, 0] rfl ?_
  refine z_fix (σ := Int × jMem) (lv := fun s => [(0, 2, 0), (1, 0, s.1)]) (st := fun _ => []) (M := fun s => s.2) (fun h2 hh2 => ?_) N (0, M)
  rintro ⟨x1, M2⟩
  show jZ K id 2 [(0, 2, 0), (1, 0, x1)] [] M2 _
  unfold m_keeps_L2
  refine z_iload_n (pc := 2) hR 1 dX12_keeps_2 rfl rfl ?_
  refine z_bipush (pc := 3) hR dX12_keeps_3 rfl ?_
  refine z_icmpge (pc := 5) (tgt := 29) hR dX12_keeps_5 (by decide) ?_ ?_
  · exact z_return (x := 0) (pc := 29) hR rfl rfl dX12_keeps_29 rfl
  · refine z_aload_n (pc := 8) hR 0 dX12_keeps_8 rfl rfl ?_
    refine z_getr (pc := 9) hR (c0 := 17) (r := 17) jf_RX12_64 kmo_0 (by decide) rfl rfl dX12_keeps_9 ?_
    refine z_iload_n (pc := 12) hR 1 dX12_keeps_12 rfl rfl ?_
    refine z_aload_n (pc := 13) hR 0 dX12_keeps_13 rfl rfl ?_
    refine z_getr (pc := 14) hR (c0 := 10) (r := 10) jf_RX12_39 kmo_0 (by decide) rfl rfl dX12_keeps_14 ?_
    refine z_bipush (pc := 17) hR dX12_keeps_17 rfl ?_
    refine z_iload_n (pc := 19) hR 1 dX12_keeps_19 rfl rfl ?_
    refine z_iadd (pc := 20) hR dX12_keeps_20 ?_
    refine z_chk (fun hc3 => ?_)
    refine z_iald (pc := 21) hR (n := 112) kma_10 hc3.1 hc3.2 dX12_keeps_21 ?_
    refine z_chk (fun hc4 => ?_)
    refine z_iast (pc := 22) hR (n := 36) kma_17 hc4.1 hc4.2 dX12_keeps_22 (fun M5 => ?_)
    refine z_iinc (pc := 23) hR (j := 1) (lv' := [(1, 0, (w32 (x1 + 1))), (0, 2, 0)]) dX12_keeps_23 rfl (by decide) rfl ?_
    refine z_goto (pc := 26) (tgt := 2) hR dX12_keeps_26 (by decide) ?_
    refine z_pick (pc := 2) (lv' := [(0, 2, 0), (1, 0, (w32 (x1 + 1)))]) hR [1, 0] rfl ?_
    exact hh2 ((w32 (x1 + 1)), M5)
theorem dX12_laysBack_0 : decode cX12_laysBack 0 = .ok (.iconst 0, 1) := by decide +kernel
theorem dX12_laysBack_1 : decode cX12_laysBack 1 = .ok (.istore_n 1, 1) := by decide +kernel
theorem dX12_laysBack_2 : decode cX12_laysBack 2 = .ok (.iload_n 1, 1) := by decide +kernel
theorem dX12_laysBack_3 : decode cX12_laysBack 3 = .ok (.bipush 36, 2) := by decide +kernel
theorem dX12_laysBack_5 : decode cX12_laysBack 5 = .ok (.if_icmp .ge 24, 3) := by decide +kernel
theorem dX12_laysBack_8 : decode cX12_laysBack 8 = .ok (.aload_n 0, 1) := by decide +kernel
theorem dX12_laysBack_9 : decode cX12_laysBack 9 = .ok (.getfield 39, 3) := by decide +kernel
theorem dX12_laysBack_12 : decode cX12_laysBack 12 = .ok (.bipush 10, 2) := by decide +kernel
theorem dX12_laysBack_14 : decode cX12_laysBack 14 = .ok (.iload_n 1, 1) := by decide +kernel
theorem dX12_laysBack_15 : decode cX12_laysBack 15 = .ok (.iadd, 1) := by decide +kernel
theorem dX12_laysBack_16 : decode cX12_laysBack 16 = .ok (.aload_n 0, 1) := by decide +kernel
theorem dX12_laysBack_17 : decode cX12_laysBack 17 = .ok (.getfield 64, 3) := by decide +kernel
theorem dX12_laysBack_20 : decode cX12_laysBack 20 = .ok (.iload_n 1, 1) := by decide +kernel
theorem dX12_laysBack_21 : decode cX12_laysBack 21 = .ok (.iaload, 1) := by decide +kernel
theorem dX12_laysBack_22 : decode cX12_laysBack 22 = .ok (.iastore, 1) := by decide +kernel
theorem dX12_laysBack_23 : decode cX12_laysBack 23 = .ok (.iinc 1 1, 3) := by decide +kernel
theorem dX12_laysBack_26 : decode cX12_laysBack 26 = .ok (.goto (-24), 3) := by decide +kernel
theorem dX12_laysBack_29 : decode cX12_laysBack 29 = .ok (.return_, 1) := by decide +kernel
def m_laysBack_L2 (N : Nat)  (h2 : (Int × jMem) → Option (Int × jMem)) : Int × jMem → Option (Int × jMem)
  | (x1, M2) => (if x1 < 36 then jchk (0 ≤ x1 ∧ x1 < 36) <| jchk (0 ≤ (w32 (10 + x1)) ∧ (w32 (10 + x1)) < 112) <| jlt (up M2 10 ((w32 (10 + x1))) ((M2 17 x1))) fun M5 => h2 ((w32 (x1 + 1)), M5) else some (0, M2))
def m_laysBack (N : Nat) (M : jMem) : Option (Int × jMem) := jfix N (m_laysBack_L2 N) (0, M)
theorem c_m_laysBack {l : Launch} {g : jG} (N : Nat) (M : jMem)  : ∀ o, m_laysBack N  M = some o → jCt l g jTM yX12_laysBack cX12_laysBack 2 none 3 1 [(2, 0)] M o := by
  refine jMet (own := RX12) (em := id) (L := [(0, 2, 0)]) (by decide +kernel) rfl (Nat.le_of_ble_eq_true rfl) rfl (fun K hR => ?_)
  unfold m_laysBack
  refine z_iconst (pc := 0) hR dX12_laysBack_0 rfl ?_
  refine z_istore_n (pc := 1) hR (lv' := [(1, 0, 0), (0, 2, 0)]) dX12_laysBack_1 rfl (by decide) rfl ?_
  refine z_pick (pc := 2) (lv' := [(0, 2, 0), (1, 0, 0)]) hR [1, 0] rfl ?_
  refine z_fix (σ := Int × jMem) (lv := fun s => [(0, 2, 0), (1, 0, s.1)]) (st := fun _ => []) (M := fun s => s.2) (fun h2 hh2 => ?_) N (0, M)
  rintro ⟨x1, M2⟩
  show jZ K id 2 [(0, 2, 0), (1, 0, x1)] [] M2 _
  unfold m_laysBack_L2
  refine z_iload_n (pc := 2) hR 1 dX12_laysBack_2 rfl rfl ?_
  refine z_bipush (pc := 3) hR dX12_laysBack_3 rfl ?_
  refine z_icmpge (pc := 5) (tgt := 29) hR dX12_laysBack_5 (by decide) ?_ ?_
  · exact z_return (x := 0) (pc := 29) hR rfl rfl dX12_laysBack_29 rfl
  · refine z_aload_n (pc := 8) hR 0 dX12_laysBack_8 rfl rfl ?_
    refine z_getr (pc := 9) hR (c0 := 10) (r := 10) jf_RX12_39 kmo_0 (by decide) rfl rfl dX12_laysBack_9 ?_
    refine z_bipush (pc := 12) hR dX12_laysBack_12 rfl ?_
    refine z_iload_n (pc := 14) hR 1 dX12_laysBack_14 rfl rfl ?_
    refine z_iadd (pc := 15) hR dX12_laysBack_15 ?_
    refine z_aload_n (pc := 16) hR 0 dX12_laysBack_16 rfl rfl ?_
    refine z_getr (pc := 17) hR (c0 := 17) (r := 17) jf_RX12_64 kmo_0 (by decide) rfl rfl dX12_laysBack_17 ?_
    refine z_iload_n (pc := 20) hR 1 dX12_laysBack_20 rfl rfl ?_
    refine z_chk (fun hc3 => ?_)
    refine z_iald (pc := 21) hR (n := 36) kma_17 hc3.1 hc3.2 dX12_laysBack_21 ?_
    refine z_chk (fun hc4 => ?_)
    refine z_iast (pc := 22) hR (n := 112) kma_10 hc4.1 hc4.2 dX12_laysBack_22 (fun M5 => ?_)
    refine z_iinc (pc := 23) hR (j := 1) (lv' := [(1, 0, (w32 (x1 + 1))), (0, 2, 0)]) dX12_laysBack_23 rfl (by decide) rfl ?_
    refine z_goto (pc := 26) (tgt := 2) hR dX12_laysBack_26 (by decide) ?_
    refine z_pick (pc := 2) (lv' := [(0, 2, 0), (1, 0, (w32 (x1 + 1)))]) hR [1, 0] rfl ?_
    exact hh2 ((w32 (x1 + 1)), M5)
theorem dX12_ahead_0 : decode cX12_ahead 0 = .ok (.aload_n 0, 1) := by decide +kernel
theorem dX12_ahead_1 : decode cX12_ahead 1 = .ok (.invokevirtual 313, 3) := by decide +kernel
theorem dX12_ahead_4 : decode cX12_ahead 4 = .ok (.ifCond .eq 47, 3) := by decide +kernel
theorem dX12_ahead_7 : decode cX12_ahead 7 = .ok (.iload_n 2, 1) := by decide +kernel
theorem dX12_ahead_8 : decode cX12_ahead 8 = .ok (.i2l, 1) := by decide +kernel
theorem dX12_ahead_9 : decode cX12_ahead 9 = .ok (.lconst 0, 1) := by decide +kernel
theorem dX12_ahead_10 : decode cX12_ahead 10 = .ok (.ldc2_w 409, 3) := by decide +kernel
theorem dX12_ahead_13 : decode cX12_ahead 13 = .ok (.invokestatic 127, 3) := by decide +kernel
theorem dX12_ahead_16 : decode cX12_ahead 16 = .ok (.ifCond .eq 35, 3) := by decide +kernel
theorem dX12_ahead_19 : decode cX12_ahead 19 = .ok (.iload_n 3, 1) := by decide +kernel
theorem dX12_ahead_20 : decode cX12_ahead 20 = .ok (.i2l, 1) := by decide +kernel
theorem dX12_ahead_21 : decode cX12_ahead 21 = .ok (.lconst 0, 1) := by decide +kernel
theorem dX12_ahead_22 : decode cX12_ahead 22 = .ok (.ldc2_w 411, 3) := by decide +kernel
theorem dX12_ahead_25 : decode cX12_ahead 25 = .ok (.invokestatic 127, 3) := by decide +kernel
theorem dX12_ahead_28 : decode cX12_ahead 28 = .ok (.ifCond .eq 23, 3) := by decide +kernel
theorem dX12_ahead_31 : decode cX12_ahead 31 = .ok (.iload_n 3, 1) := by decide +kernel
theorem dX12_ahead_32 : decode cX12_ahead 32 = .ok (.i2l, 1) := by decide +kernel
theorem dX12_ahead_33 : decode cX12_ahead 33 = .ok (.lconst 1, 1) := by decide +kernel
theorem dX12_ahead_34 : decode cX12_ahead 34 = .ok (.ldc2_w 413, 3) := by decide +kernel
theorem dX12_ahead_37 : decode cX12_ahead 37 = .ok (.invokestatic 127, 3) := by decide +kernel
theorem dX12_ahead_40 : decode cX12_ahead 40 = .ok (.ifCond .eq 13, 3) := by decide +kernel
theorem dX12_ahead_43 : decode cX12_ahead 43 = .ok (.aload_n 0, 1) := by decide +kernel
theorem dX12_ahead_44 : decode cX12_ahead 44 = .ok (.iload_n 1, 1) := by decide +kernel
theorem dX12_ahead_45 : decode cX12_ahead 45 = .ok (.invokevirtual 298, 3) := by decide +kernel
theorem dX12_ahead_48 : decode cX12_ahead 48 = .ok (.ifCond .ne 5, 3) := by decide +kernel
theorem dX12_ahead_51 : decode cX12_ahead 51 = .ok (.iconst (-1), 1) := by decide +kernel
theorem dX12_ahead_52 : decode cX12_ahead 52 = .ok (.ireturn, 1) := by decide +kernel
theorem dX12_ahead_53 : decode cX12_ahead 53 = .ok (.aload_n 0, 1) := by decide +kernel
theorem dX12_ahead_54 : decode cX12_ahead 54 = .ok (.invokevirtual 415, 3) := by decide +kernel
theorem dX12_ahead_57 : decode cX12_ahead 57 = .ok (.aload_n 0, 1) := by decide +kernel
theorem dX12_ahead_58 : decode cX12_ahead 58 = .ok (.iload_n 2, 1) := by decide +kernel
theorem dX12_ahead_59 : decode cX12_ahead 59 = .ok (.invokevirtual 418, 3) := by decide +kernel
theorem dX12_ahead_62 : decode cX12_ahead 62 = .ok (.iload_n 3, 1) := by decide +kernel
theorem dX12_ahead_63 : decode cX12_ahead 63 = .ok (.ifCond .ne 10, 3) := by decide +kernel
theorem dX12_ahead_66 : decode cX12_ahead 66 = .ok (.aload_n 0, 1) := by decide +kernel
theorem dX12_ahead_67 : decode cX12_ahead 67 = .ok (.invokevirtual 316, 3) := by decide +kernel
theorem dX12_ahead_70 : decode cX12_ahead 70 = .ok (.goto 43, 3) := by decide +kernel
theorem dX12_ahead_73 : decode cX12_ahead 73 = .ok (.iload_n 3, 1) := by decide +kernel
theorem dX12_ahead_74 : decode cX12_ahead 74 = .ok (.iconst 1, 1) := by decide +kernel
theorem dX12_ahead_75 : decode cX12_ahead 75 = .ok (.if_icmp .ne 15, 3) := by decide +kernel
theorem dX12_ahead_78 : decode cX12_ahead 78 = .ok (.aload_n 0, 1) := by decide +kernel
theorem dX12_ahead_79 : decode cX12_ahead 79 = .ok (.getfield 39, 3) := by decide +kernel
theorem dX12_ahead_82 : decode cX12_ahead 82 = .ok (.bipush 25, 2) := by decide +kernel
theorem dX12_ahead_84 : decode cX12_ahead 84 = .ok (.iload_n 1, 1) := by decide +kernel
theorem dX12_ahead_85 : decode cX12_ahead 85 = .ok (.iadd, 1) := by decide +kernel
theorem dX12_ahead_86 : decode cX12_ahead 86 = .ok (.iaload, 1) := by decide +kernel
theorem dX12_ahead_87 : decode cX12_ahead 87 = .ok (.goto 26, 3) := by decide +kernel
theorem dX12_ahead_90 : decode cX12_ahead 90 = .ok (.iload_n 3, 1) := by decide +kernel
theorem dX12_ahead_91 : decode cX12_ahead 91 = .ok (.iconst 2, 1) := by decide +kernel
theorem dX12_ahead_92 : decode cX12_ahead 92 = .ok (.if_icmp .ne 15, 3) := by decide +kernel
theorem dX12_ahead_95 : decode cX12_ahead 95 = .ok (.aload_n 0, 1) := by decide +kernel
theorem dX12_ahead_96 : decode cX12_ahead 96 = .ok (.getfield 39, 3) := by decide +kernel
theorem dX12_ahead_99 : decode cX12_ahead 99 = .ok (.bipush 18, 2) := by decide +kernel
theorem dX12_ahead_101 : decode cX12_ahead 101 = .ok (.iload_n 1, 1) := by decide +kernel
theorem dX12_ahead_102 : decode cX12_ahead 102 = .ok (.iadd, 1) := by decide +kernel
theorem dX12_ahead_103 : decode cX12_ahead 103 = .ok (.iaload, 1) := by decide +kernel
theorem dX12_ahead_104 : decode cX12_ahead 104 = .ok (.goto 9, 3) := by decide +kernel
theorem dX12_ahead_107 : decode cX12_ahead 107 = .ok (.aload_n 0, 1) := by decide +kernel
theorem dX12_ahead_108 : decode cX12_ahead 108 = .ok (.bipush 39, 2) := by decide +kernel
theorem dX12_ahead_110 : decode cX12_ahead 110 = .ok (.invokevirtual 421, 3) := by decide +kernel
theorem dX12_ahead_113 : decode cX12_ahead 113 = .ok (.istore 4, 2) := by decide +kernel
theorem dX12_ahead_115 : decode cX12_ahead 115 = .ok (.aload_n 0, 1) := by decide +kernel
theorem dX12_ahead_116 : decode cX12_ahead 116 = .ok (.invokevirtual 424, 3) := by decide +kernel
theorem dX12_ahead_119 : decode cX12_ahead 119 = .ok (.iload 4, 2) := by decide +kernel
theorem dX12_ahead_121 : decode cX12_ahead 121 = .ok (.ireturn, 1) := by decide +kernel
def m_ahead (N : Nat) (a1 a2 a3 : Int) (M : jMem) : Option (Int × jMem) := (m_isParish N M).bind fun r1 => (if r1 = 0 then some ((-1), M) else (m_in N a2 0 100 M).bind fun r2 => (if r2 = 0 then some ((-1), M) else (m_in N a3 0 3 M).bind fun r3 => (if r3 = 0 then some ((-1), M) else (m_in N a3 1 2 M).bind fun r4 => jlt (fun (_ : Unit) => jbv (m_keeps N M) fun M5 => jbv (m_passesAll N a2 M5) fun M6 => jlt (fun (u7 : Int) => jbv (m_laysBack N M6) fun M8 => some (u7, M8)) fun j113 => (if a3 = 0 then (m_lieNow N M6).bind fun r12 => j113 r12 else (if a3 = 1 then jchk (0 ≤ (w32 (25 + a1)) ∧ (w32 (25 + a1)) < 112) <| j113 ((M6 10 ((w32 (25 + a1))))) else (if a3 = 2 then jchk (0 ≤ (w32 (18 + a1)) ∧ (w32 (18 + a1)) < 112) <| j113 ((M6 10 ((w32 (18 + a1))))) else (m_sumOver N 39 M6).bind fun r9 => j113 r9)))) fun j53 => (if r4 = 0 then j53 () else (m_isOne N a1 M).bind fun r13 => (if r13 = 0 then some ((-1), M) else j53 ())))))
theorem c_m_ahead {l : Launch} {g : jG} (N : Nat) (a1 a2 a3 : Int) (M : jMem)  : ∀ o, m_ahead N a1 a2 a3 M = some o → jCt l g jTM yX12_ahead cX12_ahead 5 (some .int) 0 15 [(2, 0), (0, a1), (0, a2), (0, a3)] M o := by
  refine jMet (own := RX12) (em := id) (L := [(0, 2, 0), (1, 0, a1), (2, 0, a2), (3, 0, a3)]) (by decide +kernel) rfl (Nat.le_of_ble_eq_true rfl) rfl (fun K hR => ?_)
  unfold m_ahead
  refine z_aload_n (pc := 0) hR 0 dX12_ahead_0 rfl rfl ?_
  refine z_callvp (pc := 1) hR (As := []) (st := []) jm_X12_isParish jl_RX12_313 kmo_0 (by decide) rfl (by decide) (c_m_isParish N M) rfl (by decide) (by decide) rfl (Nat.le_of_ble_eq_true rfl) dX12_ahead_1 (fun r1 => ?_)
  refine z_ifeq (pc := 4) (tgt := 51) hR dX12_ahead_4 (by decide) ?_ ?_
  · refine z_iconst (pc := 51) hR dX12_ahead_51 rfl ?_
    exact z_ireturn (pc := 52) hR rfl rfl dX12_ahead_52 rfl
  · refine z_iload_n (pc := 7) hR 2 dX12_ahead_7 rfl rfl ?_
    refine z_i2l (pc := 8) hR dX12_ahead_8 ?_
    refine z_lconst (pc := 9) hR (x := 0) dX12_ahead_9 rfl ?_
    refine z_ldc2 (pc := 10) hR (n := 100) jc_RX12_409 (by decide) rfl dX12_ahead_10 ?_
    refine z_callsp (pc := 13) hR (As := [(1, a2), (1, 0), (1, 100)]) (st := []) jm_X12_in jl_RX12_127 (by decide) (c_m_in N a2 0 100 M) rfl (by decide) (by decide) rfl (Nat.le_of_ble_eq_true rfl) dX12_ahead_13 (fun r2 => ?_)
    refine z_ifeq (pc := 16) (tgt := 51) hR dX12_ahead_16 (by decide) ?_ ?_
    · refine z_iconst (pc := 51) hR dX12_ahead_51 rfl ?_
      exact z_ireturn (pc := 52) hR rfl rfl dX12_ahead_52 rfl
    · refine z_iload_n (pc := 19) hR 3 dX12_ahead_19 rfl rfl ?_
      refine z_i2l (pc := 20) hR dX12_ahead_20 ?_
      refine z_lconst (pc := 21) hR (x := 0) dX12_ahead_21 rfl ?_
      refine z_ldc2 (pc := 22) hR (n := 3) jc_RX12_411 (by decide) rfl dX12_ahead_22 ?_
      refine z_callsp (pc := 25) hR (As := [(1, a3), (1, 0), (1, 3)]) (st := []) jm_X12_in jl_RX12_127 (by decide) (c_m_in N a3 0 3 M) rfl (by decide) (by decide) rfl (Nat.le_of_ble_eq_true rfl) dX12_ahead_25 (fun r3 => ?_)
      refine z_ifeq (pc := 28) (tgt := 51) hR dX12_ahead_28 (by decide) ?_ ?_
      · refine z_iconst (pc := 51) hR dX12_ahead_51 rfl ?_
        exact z_ireturn (pc := 52) hR rfl rfl dX12_ahead_52 rfl
      · refine z_iload_n (pc := 31) hR 3 dX12_ahead_31 rfl rfl ?_
        refine z_i2l (pc := 32) hR dX12_ahead_32 ?_
        refine z_lconst (pc := 33) hR (x := 1) dX12_ahead_33 rfl ?_
        refine z_ldc2 (pc := 34) hR (n := 2) jc_RX12_413 (by decide) rfl dX12_ahead_34 ?_
        refine z_callsp (pc := 37) hR (As := [(1, a3), (1, 1), (1, 2)]) (st := []) jm_X12_in jl_RX12_127 (by decide) (c_m_in N a3 1 2 M) rfl (by decide) (by decide) rfl (Nat.le_of_ble_eq_true rfl) dX12_ahead_37 (fun r4 => ?_)
        refine z_join (P := fun j => ∀ (_ : Unit), jZ K id 53 [(0, 2, 0), (1, 0, a1), (2, 0, a2), (3, 0, a3)] [] M (j ())) (fun _ => ?_) (fun j53 hj53 => ?_)
        · refine z_aload_n (pc := 53) hR 0 dX12_ahead_53 rfl rfl ?_
          refine z_callv0 (pc := 54) (rk' := 3) hR (As := []) (st := []) jm_X12_keeps jl_RX12_415 kmo_0 (by decide) rfl (c_m_keeps N M) rfl (by decide) (by decide) rfl (Nat.le_of_ble_eq_true rfl) dX12_ahead_54 (fun M5 => ?_)
          refine z_aload_n (pc := 57) hR 0 dX12_ahead_57 rfl rfl ?_
          refine z_iload_n (pc := 58) hR 2 dX12_ahead_58 rfl rfl ?_
          refine z_callv0 (pc := 59) (rk' := 3) hR (As := [(0, a2)]) (st := []) jm_X12_passesAll jl_RX12_418 kmo_0 (by decide) rfl (c_m_passesAll N a2 M5) rfl (by decide) (by decide) rfl (Nat.le_of_ble_eq_true rfl) dX12_ahead_59 (fun M6 => ?_)
          refine z_iload_n (pc := 62) hR 3 dX12_ahead_62 rfl rfl ?_
          refine z_join (P := fun j => ∀ (u7 : Int), jZ K id 113 [(0, 2, 0)] [(0, u7)] M6 (j u7)) (fun u7 => ?_) (fun j113 hj113 => ?_)
          · refine z_istore (pc := 113) hR (lv' := [(4, 0, u7), (0, 2, 0)]) dX12_ahead_113 (by decide) rfl ?_
            refine z_aload_n (pc := 115) hR 1 dX12_ahead_115 rfl rfl ?_
            refine z_callv0 (pc := 116) (rk' := 3) hR (As := []) (st := []) jm_X12_laysBack jl_RX12_424 kmo_0 (by decide) rfl (c_m_laysBack N M6) rfl (by decide) (by decide) rfl (Nat.le_of_ble_eq_true rfl) dX12_ahead_116 (fun M8 => ?_)
            refine z_iload (pc := 119) hR 0 dX12_ahead_119 rfl ?_
            exact z_ireturn (pc := 121) hR rfl rfl dX12_ahead_121 rfl
          refine z_ifne (pc := 63) (tgt := 73) hR dX12_ahead_63 (by decide) ?_ ?_
          · refine z_iload_n (pc := 73) hR 3 dX12_ahead_73 rfl rfl ?_
            refine z_iconst (pc := 74) hR dX12_ahead_74 rfl ?_
            refine z_icmpne (pc := 75) (tgt := 90) hR dX12_ahead_75 (by decide) ?_ ?_
            · refine z_iload_n (pc := 90) hR 3 dX12_ahead_90 rfl rfl ?_
              refine z_iconst (pc := 91) hR dX12_ahead_91 rfl ?_
              refine z_icmpne (pc := 92) (tgt := 107) hR dX12_ahead_92 (by decide) ?_ ?_
              · refine z_aload_n (pc := 107) hR 0 dX12_ahead_107 rfl rfl ?_
                refine z_bipush (pc := 108) hR dX12_ahead_108 rfl ?_
                refine z_callvp (pc := 110) hR (As := [(0, 39)]) (st := []) jm_X12_sumOver jl_RX12_421 kmo_0 (by decide) rfl (by decide) (c_m_sumOver N 39 M6) rfl (by decide) (by decide) rfl (Nat.le_of_ble_eq_true rfl) dX12_ahead_110 (fun r9 => ?_)
                refine z_pick (pc := 113) (lv' := [(0, 2, 0)]) hR [0] rfl ?_
                exact hj113 r9
              · refine z_aload_n (pc := 95) hR 0 dX12_ahead_95 rfl rfl ?_
                refine z_getr (pc := 96) hR (c0 := 10) (r := 10) jf_RX12_39 kmo_0 (by decide) rfl rfl dX12_ahead_96 ?_
                refine z_bipush (pc := 99) hR dX12_ahead_99 rfl ?_
                refine z_iload_n (pc := 101) hR 1 dX12_ahead_101 rfl rfl ?_
                refine z_iadd (pc := 102) hR dX12_ahead_102 ?_
                refine z_chk (fun hc10 => ?_)
                refine z_iald (pc := 103) hR (n := 112) kma_10 hc10.1 hc10.2 dX12_ahead_103 ?_
                refine z_goto (pc := 104) (tgt := 113) hR dX12_ahead_104 (by decide) ?_
                refine z_pick (pc := 113) (lv' := [(0, 2, 0)]) hR [0] rfl ?_
                exact hj113 ((M6 10 ((w32 (18 + a1)))))
            · refine z_aload_n (pc := 78) hR 0 dX12_ahead_78 rfl rfl ?_
              refine z_getr (pc := 79) hR (c0 := 10) (r := 10) jf_RX12_39 kmo_0 (by decide) rfl rfl dX12_ahead_79 ?_
              refine z_bipush (pc := 82) hR dX12_ahead_82 rfl ?_
              refine z_iload_n (pc := 84) hR 1 dX12_ahead_84 rfl rfl ?_
              refine z_iadd (pc := 85) hR dX12_ahead_85 ?_
              refine z_chk (fun hc11 => ?_)
              refine z_iald (pc := 86) hR (n := 112) kma_10 hc11.1 hc11.2 dX12_ahead_86 ?_
              refine z_goto (pc := 87) (tgt := 113) hR dX12_ahead_87 (by decide) ?_
              refine z_pick (pc := 113) (lv' := [(0, 2, 0)]) hR [0] rfl ?_
              exact hj113 ((M6 10 ((w32 (25 + a1)))))
          · refine z_aload_n (pc := 66) hR 0 dX12_ahead_66 rfl rfl ?_
            refine z_callvp (pc := 67) hR (As := []) (st := []) jm_X12_lieNow jl_RX12_316 kmo_0 (by decide) rfl (by decide) (c_m_lieNow N M6) rfl (by decide) (by decide) rfl (Nat.le_of_ble_eq_true rfl) dX12_ahead_67 (fun r12 => ?_)
            refine z_goto (pc := 70) (tgt := 113) hR dX12_ahead_70 (by decide) ?_
            refine z_pick (pc := 113) (lv' := [(0, 2, 0)]) hR [0] rfl ?_
            exact hj113 r12
        refine z_ifeq (pc := 40) (tgt := 53) hR dX12_ahead_40 (by decide) ?_ ?_
        · exact hj53 ()
        · refine z_aload_n (pc := 43) hR 0 dX12_ahead_43 rfl rfl ?_
          refine z_iload_n (pc := 44) hR 1 dX12_ahead_44 rfl rfl ?_
          refine z_callvp (pc := 45) hR (As := [(0, a1)]) (st := []) jm_X12_isOne jl_RX12_298 kmo_0 (by decide) rfl (by decide) (c_m_isOne N a1 M) rfl (by decide) (by decide) rfl (Nat.le_of_ble_eq_true rfl) dX12_ahead_45 (fun r13 => ?_)
          refine z_ifne (pc := 48) (tgt := 53) hR dX12_ahead_48 (by decide) ?_ ?_
          · exact hj53 ()
          · refine z_iconst (pc := 51) hR dX12_ahead_51 rfl ?_
            exact z_ireturn (pc := 52) hR rfl rfl dX12_ahead_52 rfl
theorem dX12_dry_0 : decode cX12_dry 0 = .ok (.aload_n 0, 1) := by decide +kernel
theorem dX12_dry_1 : decode cX12_dry 1 = .ok (.iload_n 1, 1) := by decide +kernel
theorem dX12_dry_2 : decode cX12_dry 2 = .ok (.invokevirtual 298, 3) := by decide +kernel
theorem dX12_dry_5 : decode cX12_dry 5 = .ok (.ifCond .ne 5, 3) := by decide +kernel
theorem dX12_dry_8 : decode cX12_dry 8 = .ok (.iconst (-1), 1) := by decide +kernel
theorem dX12_dry_9 : decode cX12_dry 9 = .ok (.ireturn, 1) := by decide +kernel
theorem dX12_dry_10 : decode cX12_dry 10 = .ok (.bipush (-2), 2) := by decide +kernel
theorem dX12_dry_12 : decode cX12_dry 12 = .ok (.istore_n 2, 1) := by decide +kernel
theorem dX12_dry_13 : decode cX12_dry 13 = .ok (.aload_n 0, 1) := by decide +kernel
theorem dX12_dry_14 : decode cX12_dry 14 = .ok (.invokevirtual 415, 3) := by decide +kernel
theorem dX12_dry_17 : decode cX12_dry 17 = .ok (.iconst 0, 1) := by decide +kernel
theorem dX12_dry_18 : decode cX12_dry 18 = .ok (.istore_n 3, 1) := by decide +kernel
theorem dX12_dry_19 : decode cX12_dry 19 = .ok (.iload_n 3, 1) := by decide +kernel
theorem dX12_dry_20 : decode cX12_dry 20 = .ok (.sipush 200, 3) := by decide +kernel
theorem dX12_dry_23 : decode cX12_dry 23 = .ok (.if_icmp .ge 39, 3) := by decide +kernel
theorem dX12_dry_26 : decode cX12_dry 26 = .ok (.iload_n 2, 1) := by decide +kernel
theorem dX12_dry_27 : decode cX12_dry 27 = .ok (.ifCond .ge 35, 3) := by decide +kernel
theorem dX12_dry_30 : decode cX12_dry 30 = .ok (.aload_n 0, 1) := by decide +kernel
theorem dX12_dry_31 : decode cX12_dry 31 = .ok (.invokevirtual 362, 3) := by decide +kernel
theorem dX12_dry_34 : decode cX12_dry 34 = .ok (.pop, 1) := by decide +kernel
theorem dX12_dry_35 : decode cX12_dry 35 = .ok (.aload_n 0, 1) := by decide +kernel
theorem dX12_dry_36 : decode cX12_dry 36 = .ok (.getfield 344, 3) := by decide +kernel
theorem dX12_dry_39 : decode cX12_dry 39 = .ok (.iload_n 1, 1) := by decide +kernel
theorem dX12_dry_40 : decode cX12_dry 40 = .ok (.invokestatic 295, 3) := by decide +kernel
theorem dX12_dry_43 : decode cX12_dry 43 = .ok (.ifCond .eq 13, 3) := by decide +kernel
theorem dX12_dry_46 : decode cX12_dry 46 = .ok (.aload_n 0, 1) := by decide +kernel
theorem dX12_dry_47 : decode cX12_dry 47 = .ok (.getfield 39, 3) := by decide +kernel
theorem dX12_dry_50 : decode cX12_dry 50 = .ok (.bipush 10, 2) := by decide +kernel
theorem dX12_dry_52 : decode cX12_dry 52 = .ok (.iaload, 1) := by decide +kernel
theorem dX12_dry_53 : decode cX12_dry 53 = .ok (.iconst 1, 1) := by decide +kernel
theorem dX12_dry_54 : decode cX12_dry 54 = .ok (.isub, 1) := by decide +kernel
theorem dX12_dry_55 : decode cX12_dry 55 = .ok (.istore_n 2, 1) := by decide +kernel
theorem dX12_dry_56 : decode cX12_dry 56 = .ok (.iinc 3 1, 3) := by decide +kernel
theorem dX12_dry_59 : decode cX12_dry 59 = .ok (.goto (-40), 3) := by decide +kernel
theorem dX12_dry_62 : decode cX12_dry 62 = .ok (.aload_n 0, 1) := by decide +kernel
theorem dX12_dry_63 : decode cX12_dry 63 = .ok (.invokevirtual 424, 3) := by decide +kernel
theorem dX12_dry_66 : decode cX12_dry 66 = .ok (.iload_n 2, 1) := by decide +kernel
theorem dX12_dry_67 : decode cX12_dry 67 = .ok (.ireturn, 1) := by decide +kernel
def m_dry_L19 (N : Nat) (a1 : Int) (h19 : (Int × Int × jMem) → Option (Int × jMem)) : Int × Int × jMem → Option (Int × jMem)
  | (x3, x4, M5) => jlt (fun (_ : Unit) => jbv (m_laysBack N M5) fun M6 => some (x3, M6)) fun j62 => (if x4 < 200 then (if x3 < 0 then jb1 (m_passes N M5) fun r7 M8 => (m_isOf N ((M8 0 24)) a1 M8).bind fun r9 => (if r9 = 0 then h19 (x3, (w32 (x4 + 1)), M8) else jlt ((w32 (((M8 10 10)) - 1))) fun v10 => h19 (v10, (w32 (x4 + 1)), M8)) else j62 ()) else j62 ())
def m_dry (N : Nat) (a1 : Int) (M : jMem) : Option (Int × jMem) := (m_isOne N a1 M).bind fun r1 => (if r1 = 0 then some ((-1), M) else jbv (m_keeps N M) fun M2 => jfix N (m_dry_L19 N a1) ((-2), 0, M2))
theorem c_m_dry {l : Launch} {g : jG} (N : Nat) (a1 : Int) (M : jMem)  : ∀ o, m_dry N a1 M = some o → jCt l g jTM yX12_dry cX12_dry 4 (some .int) 0 13 [(2, 0), (0, a1)] M o := by
  refine jMet (own := RX12) (em := id) (L := [(0, 2, 0), (1, 0, a1)]) (by decide +kernel) rfl (Nat.le_of_ble_eq_true rfl) rfl (fun K hR => ?_)
  unfold m_dry
  refine z_aload_n (pc := 0) hR 0 dX12_dry_0 rfl rfl ?_
  refine z_iload_n (pc := 1) hR 1 dX12_dry_1 rfl rfl ?_
  refine z_callvp (pc := 2) hR (As := [(0, a1)]) (st := []) jm_X12_isOne jl_RX12_298 kmo_0 (by decide) rfl (by decide) (c_m_isOne N a1 M) rfl (by decide) (by decide) rfl (Nat.le_of_ble_eq_true rfl) dX12_dry_2 (fun r1 => ?_)
  refine z_ifne (pc := 5) (tgt := 10) hR dX12_dry_5 (by decide) ?_ ?_
  · refine z_bipush (pc := 10) hR dX12_dry_10 rfl ?_
    refine z_istore_n (pc := 12) hR (lv' := [(2, 0, (-2)), (0, 2, 0), (1, 0, a1)]) dX12_dry_12 rfl (by decide) rfl ?_
    refine z_aload_n (pc := 13) hR 1 dX12_dry_13 rfl rfl ?_
    refine z_callv0 (pc := 14) (rk' := 3) hR (As := []) (st := []) jm_X12_keeps jl_RX12_415 kmo_0 (by decide) rfl (c_m_keeps N M) rfl (by decide) (by decide) rfl (Nat.le_of_ble_eq_true rfl) dX12_dry_14 (fun M2 => ?_)
    refine z_iconst (pc := 17) hR dX12_dry_17 rfl ?_
    refine z_istore_n (pc := 18) hR (lv' := [(3, 0, 0), (2, 0, (-2)), (0, 2, 0), (1, 0, a1)]) dX12_dry_18 rfl (by decide) rfl ?_
    refine z_pick (pc := 19) (lv' := [(0, 2, 0), (1, 0, a1), (2, 0, (-2)), (3, 0, 0)]) hR [2, 3, 1, 0] rfl ?_
    refine z_fix (σ := Int × Int × jMem) (lv := fun s => [(0, 2, 0), (1, 0, a1), (2, 0, s.1), (3, 0, s.2.1)]) (st := fun _ => []) (M := fun s => s.2.2) (fun h19 hh19 => ?_) N ((-2), 0, M2)
    rintro ⟨x3, x4, M5⟩
    show jZ K id 19 [(0, 2, 0), (1, 0, a1), (2, 0, x3), (3, 0, x4)] [] M5 _
    unfold m_dry_L19
    refine z_iload_n (pc := 19) hR 3 dX12_dry_19 rfl rfl ?_
    refine z_sipush (pc := 20) hR dX12_dry_20 rfl ?_
    refine z_join (P := fun j => ∀ (_ : Unit), jZ K id 62 [(0, 2, 0), (2, 0, x3)] [] M5 (j ())) (fun _ => ?_) (fun j62 hj62 => ?_)
    · refine z_aload_n (pc := 62) hR 0 dX12_dry_62 rfl rfl ?_
      refine z_callv0 (pc := 63) (rk' := 3) hR (As := []) (st := []) jm_X12_laysBack jl_RX12_424 kmo_0 (by decide) rfl (c_m_laysBack N M5) rfl (by decide) (by decide) rfl (Nat.le_of_ble_eq_true rfl) dX12_dry_63 (fun M6 => ?_)
      refine z_iload_n (pc := 66) hR 1 dX12_dry_66 rfl rfl ?_
      exact z_ireturn (pc := 67) hR rfl rfl dX12_dry_67 rfl
    refine z_icmpge (pc := 23) (tgt := 62) hR dX12_dry_23 (by decide) ?_ ?_
    · refine z_pick (pc := 62) (lv' := [(0, 2, 0), (2, 0, x3)]) hR [0, 2] rfl ?_
      exact hj62 ()
    · refine z_iload_n (pc := 26) hR 2 dX12_dry_26 rfl rfl ?_
      refine z_ifge (pc := 27) (tgt := 62) hR dX12_dry_27 (by decide) ?_ ?_
      · refine z_pick (pc := 62) (lv' := [(0, 2, 0), (2, 0, x3)]) hR [0, 2] rfl ?_
        exact hj62 ()
      · refine z_aload_n (pc := 30) hR 0 dX12_dry_30 rfl rfl ?_
        refine z_callv1 (pc := 31) hR (As := []) (st := []) jm_X12_passes jl_RX12_362 kmo_0 (by decide) rfl (by decide) (c_m_passes N M5) rfl (by decide) (by decide) rfl (Nat.le_of_ble_eq_true rfl) dX12_dry_31 (fun r7 M8 => ?_)
        refine z_pop (pc := 34) hR dX12_dry_34 (by decide) ?_
        refine z_aload_n (pc := 35) hR 0 dX12_dry_35 rfl rfl ?_
        refine z_geti (pc := 36) hR (j := 24) jf_RX12_344 kmo_0 (by decide) rfl rfl dX12_dry_36 ?_
        refine z_iload_n (pc := 39) hR 1 dX12_dry_39 rfl rfl ?_
        refine z_callsp (pc := 40) hR (As := [(0, (M8 0 24)), (0, a1)]) (st := []) jm_X12_isOf jl_RX12_295 (by decide) (c_m_isOf N ((M8 0 24)) a1 M8) rfl (by decide) (by decide) rfl (Nat.le_of_ble_eq_true rfl) dX12_dry_40 (fun r9 => ?_)
        refine z_ifeq (pc := 43) (tgt := 56) hR dX12_dry_43 (by decide) ?_ ?_
        · refine z_iinc (pc := 56) hR (j := 3) (lv' := [(3, 0, (w32 (x4 + 1))), (0, 2, 0), (1, 0, a1), (2, 0, x3)]) dX12_dry_56 rfl (by decide) rfl ?_
          refine z_goto (pc := 59) (tgt := 19) hR dX12_dry_59 (by decide) ?_
          refine z_pick (pc := 19) (lv' := [(0, 2, 0), (1, 0, a1), (2, 0, x3), (3, 0, (w32 (x4 + 1)))]) hR [1, 2, 3, 0] rfl ?_
          exact hh19 (x3, (w32 (x4 + 1)), M8)
        · refine z_aload_n (pc := 46) hR 0 dX12_dry_46 rfl rfl ?_
          refine z_getr (pc := 47) hR (c0 := 10) (r := 10) jf_RX12_39 kmo_0 (by decide) rfl rfl dX12_dry_47 ?_
          refine z_bipush (pc := 50) hR dX12_dry_50 rfl ?_
          refine z_iald (pc := 52) hR (n := 112) kma_10 (by decide) (by decide) dX12_dry_52 ?_
          refine z_iconst (pc := 53) hR dX12_dry_53 rfl ?_
          refine z_isub (pc := 54) hR dX12_dry_54 ?_
          refine z_let1 (fun v10 => ?_)
          refine z_istore_n (pc := 55) hR (lv' := [(2, 0, v10), (0, 2, 0), (1, 0, a1), (3, 0, x4)]) dX12_dry_55 rfl (by decide) rfl ?_
          refine z_iinc (pc := 56) hR (j := 3) (lv' := [(3, 0, (w32 (x4 + 1))), (2, 0, v10), (0, 2, 0), (1, 0, a1)]) dX12_dry_56 rfl (by decide) rfl ?_
          refine z_goto (pc := 59) (tgt := 19) hR dX12_dry_59 (by decide) ?_
          refine z_pick (pc := 19) (lv' := [(0, 2, 0), (1, 0, a1), (2, 0, v10), (3, 0, (w32 (x4 + 1)))]) hR [2, 3, 1, 0] rfl ?_
          exact hh19 (v10, (w32 (x4 + 1)), M8)
  · refine z_iconst (pc := 8) hR dX12_dry_8 rfl ?_
    exact z_ireturn (pc := 9) hR rfl rfl dX12_dry_9 rfl
theorem dX12_home_0 : decode cX12_home 0 = .ok (.aload_n 0, 1) := by decide +kernel
theorem dX12_home_1 : decode cX12_home 1 = .ok (.invokevirtual 313, 3) := by decide +kernel
theorem dX12_home_4 : decode cX12_home 4 = .ok (.ifCond .ne 5, 3) := by decide +kernel
theorem dX12_home_7 : decode cX12_home 7 = .ok (.iconst (-1), 1) := by decide +kernel
theorem dX12_home_8 : decode cX12_home 8 = .ok (.ireturn, 1) := by decide +kernel
theorem dX12_home_9 : decode cX12_home 9 = .ok (.bipush (-2), 2) := by decide +kernel
theorem dX12_home_11 : decode cX12_home 11 = .ok (.istore_n 1, 1) := by decide +kernel
theorem dX12_home_12 : decode cX12_home 12 = .ok (.aload_n 0, 1) := by decide +kernel
theorem dX12_home_13 : decode cX12_home 13 = .ok (.invokevirtual 415, 3) := by decide +kernel
theorem dX12_home_16 : decode cX12_home 16 = .ok (.iconst 0, 1) := by decide +kernel
theorem dX12_home_17 : decode cX12_home 17 = .ok (.istore_n 2, 1) := by decide +kernel
theorem dX12_home_18 : decode cX12_home 18 = .ok (.iload_n 2, 1) := by decide +kernel
theorem dX12_home_19 : decode cX12_home 19 = .ok (.sipush 200, 3) := by decide +kernel
theorem dX12_home_22 : decode cX12_home 22 = .ok (.if_icmp .ge 44, 3) := by decide +kernel
theorem dX12_home_25 : decode cX12_home 25 = .ok (.iload_n 1, 1) := by decide +kernel
theorem dX12_home_26 : decode cX12_home 26 = .ok (.ifCond .ge 40, 3) := by decide +kernel
theorem dX12_home_29 : decode cX12_home 29 = .ok (.aload_n 0, 1) := by decide +kernel
theorem dX12_home_30 : decode cX12_home 30 = .ok (.invokevirtual 362, 3) := by decide +kernel
theorem dX12_home_33 : decode cX12_home 33 = .ok (.pop, 1) := by decide +kernel
theorem dX12_home_34 : decode cX12_home 34 = .ok (.aload_n 0, 1) := by decide +kernel
theorem dX12_home_35 : decode cX12_home 35 = .ok (.invokevirtual 323, 3) := by decide +kernel
theorem dX12_home_38 : decode cX12_home 38 = .ok (.invokestatic 326, 3) := by decide +kernel
theorem dX12_home_41 : decode cX12_home 41 = .ok (.aload_n 0, 1) := by decide +kernel
theorem dX12_home_42 : decode cX12_home 42 = .ok (.getfield 39, 3) := by decide +kernel
theorem dX12_home_45 : decode cX12_home 45 = .ok (.iconst 1, 1) := by decide +kernel
theorem dX12_home_46 : decode cX12_home 46 = .ok (.iaload, 1) := by decide +kernel
theorem dX12_home_47 : decode cX12_home 47 = .ok (.if_icmp .ne 13, 3) := by decide +kernel
theorem dX12_home_50 : decode cX12_home 50 = .ok (.aload_n 0, 1) := by decide +kernel
theorem dX12_home_51 : decode cX12_home 51 = .ok (.getfield 39, 3) := by decide +kernel
theorem dX12_home_54 : decode cX12_home 54 = .ok (.bipush 10, 2) := by decide +kernel
theorem dX12_home_56 : decode cX12_home 56 = .ok (.iaload, 1) := by decide +kernel
theorem dX12_home_57 : decode cX12_home 57 = .ok (.iconst 1, 1) := by decide +kernel
theorem dX12_home_58 : decode cX12_home 58 = .ok (.isub, 1) := by decide +kernel
theorem dX12_home_59 : decode cX12_home 59 = .ok (.istore_n 1, 1) := by decide +kernel
theorem dX12_home_60 : decode cX12_home 60 = .ok (.iinc 2 1, 3) := by decide +kernel
theorem dX12_home_63 : decode cX12_home 63 = .ok (.goto (-45), 3) := by decide +kernel
theorem dX12_home_66 : decode cX12_home 66 = .ok (.aload_n 0, 1) := by decide +kernel
theorem dX12_home_67 : decode cX12_home 67 = .ok (.invokevirtual 424, 3) := by decide +kernel
theorem dX12_home_70 : decode cX12_home 70 = .ok (.iload_n 1, 1) := by decide +kernel
theorem dX12_home_71 : decode cX12_home 71 = .ok (.ireturn, 1) := by decide +kernel
def m_home_L18 (N : Nat)  (h18 : (Int × Int × jMem) → Option (Int × jMem)) : Int × Int × jMem → Option (Int × jMem)
  | (x3, x4, M5) => jlt (fun (_ : Unit) => jbv (m_laysBack N M5) fun M6 => some (x3, M6)) fun j66 => (if x4 < 200 then (if x3 < 0 then jb1 (m_passes N M5) fun r7 M8 => (m_homeOnes N M8).bind fun r9 => (m_bits N r9 M8).bind fun r10 => (if r10 = (M8 10 1) then jlt ((w32 (((M8 10 10)) - 1))) fun v11 => h18 (v11, (w32 (x4 + 1)), M8) else h18 (x3, (w32 (x4 + 1)), M8)) else j66 ()) else j66 ())
def m_home (N : Nat) (M : jMem) : Option (Int × jMem) := (m_isParish N M).bind fun r1 => (if r1 = 0 then some ((-1), M) else jbv (m_keeps N M) fun M2 => jfix N (m_home_L18 N) ((-2), 0, M2))
theorem c_m_home {l : Launch} {g : jG} (N : Nat) (M : jMem)  : ∀ o, m_home N  M = some o → jCt l g jTM yX12_home cX12_home 3 (some .int) 0 13 [(2, 0)] M o := by
  refine jMet (own := RX12) (em := id) (L := [(0, 2, 0)]) (by decide +kernel) rfl (Nat.le_of_ble_eq_true rfl) rfl (fun K hR => ?_)
  unfold m_home
  refine z_aload_n (pc := 0) hR 0 dX12_home_0 rfl rfl ?_
  refine z_callvp (pc := 1) hR (As := []) (st := []) jm_X12_isParish jl_RX12_313 kmo_0 (by decide) rfl (by decide) (c_m_isParish N M) rfl (by decide) (by decide) rfl (Nat.le_of_ble_eq_true rfl) dX12_home_1 (fun r1 => ?_)
  refine z_ifne (pc := 4) (tgt := 9) hR dX12_home_4 (by decide) ?_ ?_
  · refine z_bipush (pc := 9) hR dX12_home_9 rfl ?_
    refine z_istore_n (pc := 11) hR (lv' := [(1, 0, (-2)), (0, 2, 0)]) dX12_home_11 rfl (by decide) rfl ?_
    refine z_aload_n (pc := 12) hR 1 dX12_home_12 rfl rfl ?_
    refine z_callv0 (pc := 13) (rk' := 3) hR (As := []) (st := []) jm_X12_keeps jl_RX12_415 kmo_0 (by decide) rfl (c_m_keeps N M) rfl (by decide) (by decide) rfl (Nat.le_of_ble_eq_true rfl) dX12_home_13 (fun M2 => ?_)
    refine z_iconst (pc := 16) hR dX12_home_16 rfl ?_
    refine z_istore_n (pc := 17) hR (lv' := [(2, 0, 0), (1, 0, (-2)), (0, 2, 0)]) dX12_home_17 rfl (by decide) rfl ?_
    refine z_pick (pc := 18) (lv' := [(0, 2, 0), (1, 0, (-2)), (2, 0, 0)]) hR [2, 1, 0] rfl ?_
    refine z_fix (σ := Int × Int × jMem) (lv := fun s => [(0, 2, 0), (1, 0, s.1), (2, 0, s.2.1)]) (st := fun _ => []) (M := fun s => s.2.2) (fun h18 hh18 => ?_) N ((-2), 0, M2)
    rintro ⟨x3, x4, M5⟩
    show jZ K id 18 [(0, 2, 0), (1, 0, x3), (2, 0, x4)] [] M5 _
    unfold m_home_L18
    refine z_iload_n (pc := 18) hR 2 dX12_home_18 rfl rfl ?_
    refine z_sipush (pc := 19) hR dX12_home_19 rfl ?_
    refine z_join (P := fun j => ∀ (_ : Unit), jZ K id 66 [(0, 2, 0), (1, 0, x3)] [] M5 (j ())) (fun _ => ?_) (fun j66 hj66 => ?_)
    · refine z_aload_n (pc := 66) hR 0 dX12_home_66 rfl rfl ?_
      refine z_callv0 (pc := 67) (rk' := 3) hR (As := []) (st := []) jm_X12_laysBack jl_RX12_424 kmo_0 (by decide) rfl (c_m_laysBack N M5) rfl (by decide) (by decide) rfl (Nat.le_of_ble_eq_true rfl) dX12_home_67 (fun M6 => ?_)
      refine z_iload_n (pc := 70) hR 1 dX12_home_70 rfl rfl ?_
      exact z_ireturn (pc := 71) hR rfl rfl dX12_home_71 rfl
    refine z_icmpge (pc := 22) (tgt := 66) hR dX12_home_22 (by decide) ?_ ?_
    · refine z_pick (pc := 66) (lv' := [(0, 2, 0), (1, 0, x3)]) hR [0, 1] rfl ?_
      exact hj66 ()
    · refine z_iload_n (pc := 25) hR 1 dX12_home_25 rfl rfl ?_
      refine z_ifge (pc := 26) (tgt := 66) hR dX12_home_26 (by decide) ?_ ?_
      · refine z_pick (pc := 66) (lv' := [(0, 2, 0), (1, 0, x3)]) hR [0, 1] rfl ?_
        exact hj66 ()
      · refine z_aload_n (pc := 29) hR 0 dX12_home_29 rfl rfl ?_
        refine z_callv1 (pc := 30) hR (As := []) (st := []) jm_X12_passes jl_RX12_362 kmo_0 (by decide) rfl (by decide) (c_m_passes N M5) rfl (by decide) (by decide) rfl (Nat.le_of_ble_eq_true rfl) dX12_home_30 (fun r7 M8 => ?_)
        refine z_pop (pc := 33) hR dX12_home_33 (by decide) ?_
        refine z_aload_n (pc := 34) hR 0 dX12_home_34 rfl rfl ?_
        refine z_callvp (pc := 35) hR (As := []) (st := []) jm_X12_homeOnes jl_RX12_323 kmo_0 (by decide) rfl (by decide) (c_m_homeOnes N M8) rfl (by decide) (by decide) rfl (Nat.le_of_ble_eq_true rfl) dX12_home_35 (fun r9 => ?_)
        refine z_callsp (pc := 38) hR (As := [(0, r9)]) (st := []) jm_X12_bits jl_RX12_326 (by decide) (c_m_bits N r9 M8) rfl (by decide) (by decide) rfl (Nat.le_of_ble_eq_true rfl) dX12_home_38 (fun r10 => ?_)
        refine z_aload_n (pc := 41) hR 0 dX12_home_41 rfl rfl ?_
        refine z_getr (pc := 42) hR (c0 := 10) (r := 10) jf_RX12_39 kmo_0 (by decide) rfl rfl dX12_home_42 ?_
        refine z_iconst (pc := 45) hR dX12_home_45 rfl ?_
        refine z_iald (pc := 46) hR (n := 112) kma_10 (by decide) (by decide) dX12_home_46 ?_
        refine z_icmpne (pc := 47) (tgt := 60) hR dX12_home_47 (by decide) ?_ ?_
        · refine z_iinc (pc := 60) hR (j := 2) (lv' := [(2, 0, (w32 (x4 + 1))), (0, 2, 0), (1, 0, x3)]) dX12_home_60 rfl (by decide) rfl ?_
          refine z_goto (pc := 63) (tgt := 18) hR dX12_home_63 (by decide) ?_
          refine z_pick (pc := 18) (lv' := [(0, 2, 0), (1, 0, x3), (2, 0, (w32 (x4 + 1)))]) hR [1, 2, 0] rfl ?_
          exact hh18 (x3, (w32 (x4 + 1)), M8)
        · refine z_aload_n (pc := 50) hR 0 dX12_home_50 rfl rfl ?_
          refine z_getr (pc := 51) hR (c0 := 10) (r := 10) jf_RX12_39 kmo_0 (by decide) rfl rfl dX12_home_51 ?_
          refine z_bipush (pc := 54) hR dX12_home_54 rfl ?_
          refine z_iald (pc := 56) hR (n := 112) kma_10 (by decide) (by decide) dX12_home_56 ?_
          refine z_iconst (pc := 57) hR dX12_home_57 rfl ?_
          refine z_isub (pc := 58) hR dX12_home_58 ?_
          refine z_let1 (fun v11 => ?_)
          refine z_istore_n (pc := 59) hR (lv' := [(1, 0, v11), (0, 2, 0), (2, 0, x4)]) dX12_home_59 rfl (by decide) rfl ?_
          refine z_iinc (pc := 60) hR (j := 2) (lv' := [(2, 0, (w32 (x4 + 1))), (1, 0, v11), (0, 2, 0)]) dX12_home_60 rfl (by decide) rfl ?_
          refine z_goto (pc := 63) (tgt := 18) hR dX12_home_63 (by decide) ?_
          refine z_pick (pc := 18) (lv' := [(0, 2, 0), (1, 0, v11), (2, 0, (w32 (x4 + 1)))]) hR [2, 1, 0] rfl ?_
          exact hh18 (v11, (w32 (x4 + 1)), M8)
  · refine z_iconst (pc := 7) hR dX12_home_7 rfl ?_
    exact z_ireturn (pc := 8) hR rfl rfl dX12_home_8 rfl
theorem dX12_homeIn_0 : decode cX12_homeIn 0 = .ok (.aload_n 0, 1) := by decide +kernel
theorem dX12_homeIn_1 : decode cX12_homeIn 1 = .ok (.iload_n 1, 1) := by decide +kernel
theorem dX12_homeIn_2 : decode cX12_homeIn 2 = .ok (.invokevirtual 418, 3) := by decide +kernel
theorem dX12_homeIn_5 : decode cX12_homeIn 5 = .ok (.aload_n 0, 1) := by decide +kernel
theorem dX12_homeIn_6 : decode cX12_homeIn 6 = .ok (.invokevirtual 323, 3) := by decide +kernel
theorem dX12_homeIn_9 : decode cX12_homeIn 9 = .ok (.invokestatic 326, 3) := by decide +kernel
theorem dX12_homeIn_12 : decode cX12_homeIn 12 = .ok (.istore_n 2, 1) := by decide +kernel
theorem dX12_homeIn_13 : decode cX12_homeIn 13 = .ok (.aload_n 0, 1) := by decide +kernel
theorem dX12_homeIn_14 : decode cX12_homeIn 14 = .ok (.invokevirtual 424, 3) := by decide +kernel
theorem dX12_homeIn_17 : decode cX12_homeIn 17 = .ok (.iload_n 2, 1) := by decide +kernel
theorem dX12_homeIn_18 : decode cX12_homeIn 18 = .ok (.ireturn, 1) := by decide +kernel
def m_homeIn (N : Nat) (a1 : Int) (M : jMem) : Option (Int × jMem) := jbv (m_passesAll N a1 M) fun M1 => (m_homeOnes N M1).bind fun r2 => (m_bits N r2 M1).bind fun r3 => jbv (m_laysBack N M1) fun M4 => some (r3, M4)
theorem c_m_homeIn {l : Launch} {g : jG} (N : Nat) (a1 : Int) (M : jMem)  : ∀ o, m_homeIn N a1 M = some o → jCt l g jTM yX12_homeIn cX12_homeIn 3 (some .int) 0 15 [(2, 0), (0, a1)] M o := by
  refine jMet (own := RX12) (em := id) (L := [(0, 2, 0), (1, 0, a1)]) (by decide +kernel) rfl (Nat.le_of_ble_eq_true rfl) rfl (fun K hR => ?_)
  unfold m_homeIn
  refine z_aload_n (pc := 0) hR 0 dX12_homeIn_0 rfl rfl ?_
  refine z_iload_n (pc := 1) hR 1 dX12_homeIn_1 rfl rfl ?_
  refine z_callv0 (pc := 2) (rk' := 3) hR (As := [(0, a1)]) (st := []) jm_X12_passesAll jl_RX12_418 kmo_0 (by decide) rfl (c_m_passesAll N a1 M) rfl (by decide) (by decide) rfl (Nat.le_of_ble_eq_true rfl) dX12_homeIn_2 (fun M1 => ?_)
  refine z_aload_n (pc := 5) hR 0 dX12_homeIn_5 rfl rfl ?_
  refine z_callvp (pc := 6) hR (As := []) (st := []) jm_X12_homeOnes jl_RX12_323 kmo_0 (by decide) rfl (by decide) (c_m_homeOnes N M1) rfl (by decide) (by decide) rfl (Nat.le_of_ble_eq_true rfl) dX12_homeIn_6 (fun r2 => ?_)
  refine z_callsp (pc := 9) hR (As := [(0, r2)]) (st := []) jm_X12_bits jl_RX12_326 (by decide) (c_m_bits N r2 M1) rfl (by decide) (by decide) rfl (Nat.le_of_ble_eq_true rfl) dX12_homeIn_9 (fun r3 => ?_)
  refine z_istore_n (pc := 12) hR (lv' := [(2, 0, r3), (0, 2, 0), (1, 0, a1)]) dX12_homeIn_12 rfl (by decide) rfl ?_
  refine z_aload_n (pc := 13) hR 1 dX12_homeIn_13 rfl rfl ?_
  refine z_callv0 (pc := 14) (rk' := 3) hR (As := []) (st := []) jm_X12_laysBack jl_RX12_424 kmo_0 (by decide) rfl (c_m_laysBack N M1) rfl (by decide) (by decide) rfl (Nat.le_of_ble_eq_true rfl) dX12_homeIn_14 (fun M4 => ?_)
  refine z_iload_n (pc := 17) hR 0 dX12_homeIn_17 rfl rfl ?_
  exact z_ireturn (pc := 18) hR rfl rfl dX12_homeIn_18 rfl
theorem dX12_heir_0 : decode cX12_heir 0 = .ok (.aload_n 0, 1) := by decide +kernel
theorem dX12_heir_1 : decode cX12_heir 1 = .ok (.invokevirtual 313, 3) := by decide +kernel
theorem dX12_heir_4 : decode cX12_heir 4 = .ok (.ifCond .eq 25, 3) := by decide +kernel
theorem dX12_heir_7 : decode cX12_heir 7 = .ok (.iload_n 1, 1) := by decide +kernel
theorem dX12_heir_8 : decode cX12_heir 8 = .ok (.i2l, 1) := by decide +kernel
theorem dX12_heir_9 : decode cX12_heir 9 = .ok (.lconst 1, 1) := by decide +kernel
theorem dX12_heir_10 : decode cX12_heir 10 = .ok (.ldc2_w 427, 3) := by decide +kernel
theorem dX12_heir_13 : decode cX12_heir 13 = .ok (.invokestatic 127, 3) := by decide +kernel
theorem dX12_heir_16 : decode cX12_heir 16 = .ok (.ifCond .eq 13, 3) := by decide +kernel
theorem dX12_heir_19 : decode cX12_heir 19 = .ok (.iload_n 2, 1) := by decide +kernel
theorem dX12_heir_20 : decode cX12_heir 20 = .ok (.i2l, 1) := by decide +kernel
theorem dX12_heir_21 : decode cX12_heir 21 = .ok (.lconst 0, 1) := by decide +kernel
theorem dX12_heir_22 : decode cX12_heir 22 = .ok (.lconst 1, 1) := by decide +kernel
theorem dX12_heir_23 : decode cX12_heir 23 = .ok (.invokestatic 127, 3) := by decide +kernel
theorem dX12_heir_26 : decode cX12_heir 26 = .ok (.ifCond .ne 6, 3) := by decide +kernel
theorem dX12_heir_29 : decode cX12_heir 29 = .ok (.bipush (-2), 2) := by decide +kernel
theorem dX12_heir_31 : decode cX12_heir 31 = .ok (.ireturn, 1) := by decide +kernel
theorem dX12_heir_32 : decode cX12_heir 32 = .ok (.aload_n 0, 1) := by decide +kernel
theorem dX12_heir_33 : decode cX12_heir 33 = .ok (.invokevirtual 415, 3) := by decide +kernel
theorem dX12_heir_36 : decode cX12_heir 36 = .ok (.iconst (-1), 1) := by decide +kernel
theorem dX12_heir_37 : decode cX12_heir 37 = .ok (.istore_n 3, 1) := by decide +kernel
theorem dX12_heir_38 : decode cX12_heir 38 = .ok (.aload_n 0, 1) := by decide +kernel
theorem dX12_heir_39 : decode cX12_heir 39 = .ok (.iload_n 1, 1) := by decide +kernel
theorem dX12_heir_40 : decode cX12_heir 40 = .ok (.invokevirtual 429, 3) := by decide +kernel
theorem dX12_heir_43 : decode cX12_heir 43 = .ok (.istore 4, 2) := by decide +kernel
theorem dX12_heir_45 : decode cX12_heir 45 = .ok (.iconst 0, 1) := by decide +kernel
theorem dX12_heir_46 : decode cX12_heir 46 = .ok (.istore 5, 2) := by decide +kernel
theorem dX12_heir_48 : decode cX12_heir 48 = .ok (.iload 5, 2) := by decide +kernel
theorem dX12_heir_50 : decode cX12_heir 50 = .ok (.aload_n 0, 1) := by decide +kernel
theorem dX12_heir_51 : decode cX12_heir 51 = .ok (.getfield 39, 3) := by decide +kernel
theorem dX12_heir_54 : decode cX12_heir 54 = .ok (.iconst 1, 1) := by decide +kernel
theorem dX12_heir_55 : decode cX12_heir 55 = .ok (.iaload, 1) := by decide +kernel
theorem dX12_heir_56 : decode cX12_heir 56 = .ok (.if_icmp .ge 39, 3) := by decide +kernel
theorem dX12_heir_59 : decode cX12_heir 59 = .ok (.aload_n 0, 1) := by decide +kernel
theorem dX12_heir_60 : decode cX12_heir 60 = .ok (.iload 5, 2) := by decide +kernel
theorem dX12_heir_62 : decode cX12_heir 62 = .ok (.invokevirtual 359, 3) := by decide +kernel
theorem dX12_heir_65 : decode cX12_heir 65 = .ok (.aload_n 0, 1) := by decide +kernel
theorem dX12_heir_66 : decode cX12_heir 66 = .ok (.iload_n 1, 1) := by decide +kernel
theorem dX12_heir_67 : decode cX12_heir 67 = .ok (.invokevirtual 429, 3) := by decide +kernel
theorem dX12_heir_70 : decode cX12_heir 70 = .ok (.istore 6, 2) := by decide +kernel
theorem dX12_heir_72 : decode cX12_heir 72 = .ok (.iload 6, 2) := by decide +kernel
theorem dX12_heir_74 : decode cX12_heir 74 = .ok (.iload 4, 2) := by decide +kernel
theorem dX12_heir_76 : decode cX12_heir 76 = .ok (.if_icmp .gt 6, 3) := by decide +kernel
theorem dX12_heir_79 : decode cX12_heir 79 = .ok (.goto 10, 3) := by decide +kernel
theorem dX12_heir_82 : decode cX12_heir 82 = .ok (.iload 5, 2) := by decide +kernel
theorem dX12_heir_84 : decode cX12_heir 84 = .ok (.istore_n 3, 1) := by decide +kernel
theorem dX12_heir_85 : decode cX12_heir 85 = .ok (.iload 6, 2) := by decide +kernel
theorem dX12_heir_87 : decode cX12_heir 87 = .ok (.istore 4, 2) := by decide +kernel
theorem dX12_heir_89 : decode cX12_heir 89 = .ok (.iinc 5 1, 3) := by decide +kernel
theorem dX12_heir_92 : decode cX12_heir 92 = .ok (.goto (-44), 3) := by decide +kernel
theorem dX12_heir_95 : decode cX12_heir 95 = .ok (.iload_n 2, 1) := by decide +kernel
theorem dX12_heir_96 : decode cX12_heir 96 = .ok (.ifCond .ne 7, 3) := by decide +kernel
theorem dX12_heir_99 : decode cX12_heir 99 = .ok (.iload_n 3, 1) := by decide +kernel
theorem dX12_heir_100 : decode cX12_heir 100 = .ok (.goto 5, 3) := by decide +kernel
theorem dX12_heir_103 : decode cX12_heir 103 = .ok (.iload 4, 2) := by decide +kernel
theorem dX12_heir_105 : decode cX12_heir 105 = .ok (.ireturn, 1) := by decide +kernel
def m_heir_L48 (N : Nat) (a1 : Int) (a2 : Int) (h48 : (Int × Int × Int × jMem) → Option (Int × jMem)) : Int × Int × Int × jMem → Option (Int × jMem)
  | (x7, x8, x9, M10) => (if x9 < (M10 10 1) then jbv (m_bears N x9 M10) fun M11 => jb1 (m_homeIn N a1 M11) fun r12 M13 => (if x8 < r12 then h48 (x9, r12, (w32 (x9 + 1)), M13) else h48 (x7, x8, (w32 (x9 + 1)), M13)) else (if a2 = 0 then some (x7, M10) else some (x8, M10)))
def m_heir (N : Nat) (a1 a2 : Int) (M : jMem) : Option (Int × jMem) := (m_isParish N M).bind fun r1 => (if r1 = 0 then some ((-2), M) else (m_in N a1 1 40 M).bind fun r2 => (if r2 = 0 then some ((-2), M) else (m_in N a2 0 1 M).bind fun r3 => (if r3 = 0 then some ((-2), M) else jbv (m_keeps N M) fun M4 => jb1 (m_homeIn N a1 M4) fun r5 M6 => jfix N (m_heir_L48 N a1 a2) ((-1), r5, 0, M6))))
theorem c_m_heir {l : Launch} {g : jG} (N : Nat) (a1 a2 : Int) (M : jMem)  : ∀ o, m_heir N a1 a2 M = some o → jCt l g jTM yX12_heir cX12_heir 7 (some .int) 0 17 [(2, 0), (0, a1), (0, a2)] M o := by
  refine jMet (own := RX12) (em := id) (L := [(0, 2, 0), (1, 0, a1), (2, 0, a2)]) (by decide +kernel) rfl (Nat.le_of_ble_eq_true rfl) rfl (fun K hR => ?_)
  unfold m_heir
  refine z_aload_n (pc := 0) hR 0 dX12_heir_0 rfl rfl ?_
  refine z_callvp (pc := 1) hR (As := []) (st := []) jm_X12_isParish jl_RX12_313 kmo_0 (by decide) rfl (by decide) (c_m_isParish N M) rfl (by decide) (by decide) rfl (Nat.le_of_ble_eq_true rfl) dX12_heir_1 (fun r1 => ?_)
  refine z_ifeq (pc := 4) (tgt := 29) hR dX12_heir_4 (by decide) ?_ ?_
  · refine z_bipush (pc := 29) hR dX12_heir_29 rfl ?_
    exact z_ireturn (pc := 31) hR rfl rfl dX12_heir_31 rfl
  · refine z_iload_n (pc := 7) hR 1 dX12_heir_7 rfl rfl ?_
    refine z_i2l (pc := 8) hR dX12_heir_8 ?_
    refine z_lconst (pc := 9) hR (x := 1) dX12_heir_9 rfl ?_
    refine z_ldc2 (pc := 10) hR (n := 40) jc_RX12_427 (by decide) rfl dX12_heir_10 ?_
    refine z_callsp (pc := 13) hR (As := [(1, a1), (1, 1), (1, 40)]) (st := []) jm_X12_in jl_RX12_127 (by decide) (c_m_in N a1 1 40 M) rfl (by decide) (by decide) rfl (Nat.le_of_ble_eq_true rfl) dX12_heir_13 (fun r2 => ?_)
    refine z_ifeq (pc := 16) (tgt := 29) hR dX12_heir_16 (by decide) ?_ ?_
    · refine z_bipush (pc := 29) hR dX12_heir_29 rfl ?_
      exact z_ireturn (pc := 31) hR rfl rfl dX12_heir_31 rfl
    · refine z_iload_n (pc := 19) hR 2 dX12_heir_19 rfl rfl ?_
      refine z_i2l (pc := 20) hR dX12_heir_20 ?_
      refine z_lconst (pc := 21) hR (x := 0) dX12_heir_21 rfl ?_
      refine z_lconst (pc := 22) hR (x := 1) dX12_heir_22 rfl ?_
      refine z_callsp (pc := 23) hR (As := [(1, a2), (1, 0), (1, 1)]) (st := []) jm_X12_in jl_RX12_127 (by decide) (c_m_in N a2 0 1 M) rfl (by decide) (by decide) rfl (Nat.le_of_ble_eq_true rfl) dX12_heir_23 (fun r3 => ?_)
      refine z_ifne (pc := 26) (tgt := 32) hR dX12_heir_26 (by decide) ?_ ?_
      · refine z_aload_n (pc := 32) hR 0 dX12_heir_32 rfl rfl ?_
        refine z_callv0 (pc := 33) (rk' := 3) hR (As := []) (st := []) jm_X12_keeps jl_RX12_415 kmo_0 (by decide) rfl (c_m_keeps N M) rfl (by decide) (by decide) rfl (Nat.le_of_ble_eq_true rfl) dX12_heir_33 (fun M4 => ?_)
        refine z_iconst (pc := 36) hR dX12_heir_36 rfl ?_
        refine z_istore_n (pc := 37) hR (lv' := [(3, 0, (-1)), (0, 2, 0), (1, 0, a1), (2, 0, a2)]) dX12_heir_37 rfl (by decide) rfl ?_
        refine z_aload_n (pc := 38) hR 1 dX12_heir_38 rfl rfl ?_
        refine z_iload_n (pc := 39) hR 2 dX12_heir_39 rfl rfl ?_
        refine z_callv1 (pc := 40) hR (As := [(0, a1)]) (st := []) jm_X12_homeIn jl_RX12_429 kmo_0 (by decide) rfl (by decide) (c_m_homeIn N a1 M4) rfl (by decide) (by decide) rfl (Nat.le_of_ble_eq_true rfl) dX12_heir_40 (fun r5 M6 => ?_)
        refine z_istore (pc := 43) hR (lv' := [(4, 0, r5), (3, 0, (-1)), (0, 2, 0), (1, 0, a1), (2, 0, a2)]) dX12_heir_43 (by decide) rfl ?_
        refine z_iconst (pc := 45) hR dX12_heir_45 rfl ?_
        refine z_istore (pc := 46) hR (lv' := [(5, 0, 0), (4, 0, r5), (3, 0, (-1)), (0, 2, 0), (1, 0, a1), (2, 0, a2)]) dX12_heir_46 (by decide) rfl ?_
        refine z_pick (pc := 48) (lv' := [(0, 2, 0), (1, 0, a1), (2, 0, a2), (3, 0, (-1)), (4, 0, r5), (5, 0, 0)]) hR [3, 4, 5, 2, 1, 0] rfl ?_
        refine z_fix (σ := Int × Int × Int × jMem) (lv := fun s => [(0, 2, 0), (1, 0, a1), (2, 0, a2), (3, 0, s.1), (4, 0, s.2.1), (5, 0, s.2.2.1)]) (st := fun _ => []) (M := fun s => s.2.2.2) (fun h48 hh48 => ?_) N ((-1), r5, 0, M6)
        rintro ⟨x7, x8, x9, M10⟩
        show jZ K id 48 [(0, 2, 0), (1, 0, a1), (2, 0, a2), (3, 0, x7), (4, 0, x8), (5, 0, x9)] [] M10 _
        unfold m_heir_L48
        refine z_iload (pc := 48) hR 5 dX12_heir_48 rfl ?_
        refine z_aload_n (pc := 50) hR 0 dX12_heir_50 rfl rfl ?_
        refine z_getr (pc := 51) hR (c0 := 10) (r := 10) jf_RX12_39 kmo_0 (by decide) rfl rfl dX12_heir_51 ?_
        refine z_iconst (pc := 54) hR dX12_heir_54 rfl ?_
        refine z_iald (pc := 55) hR (n := 112) kma_10 (by decide) (by decide) dX12_heir_55 ?_
        refine z_icmpge (pc := 56) (tgt := 95) hR dX12_heir_56 (by decide) ?_ ?_
        · refine z_iload_n (pc := 95) hR 2 dX12_heir_95 rfl rfl ?_
          refine z_ifne (pc := 96) (tgt := 103) hR dX12_heir_96 (by decide) ?_ ?_
          · refine z_iload (pc := 103) hR 4 dX12_heir_103 rfl ?_
            exact z_ireturn (pc := 105) hR rfl rfl dX12_heir_105 rfl
          · refine z_iload_n (pc := 99) hR 3 dX12_heir_99 rfl rfl ?_
            refine z_goto (pc := 100) (tgt := 105) hR dX12_heir_100 (by decide) ?_
            exact z_ireturn (pc := 105) hR rfl rfl dX12_heir_105 rfl
        · refine z_aload_n (pc := 59) hR 0 dX12_heir_59 rfl rfl ?_
          refine z_iload (pc := 60) hR 5 dX12_heir_60 rfl ?_
          refine z_callv0 (pc := 62) (rk' := 3) hR (As := [(0, x9)]) (st := []) jm_X12_bears jl_RX12_359 kmo_0 (by decide) rfl (c_m_bears N x9 M10) rfl (by decide) (by decide) rfl (Nat.le_of_ble_eq_true rfl) dX12_heir_62 (fun M11 => ?_)
          refine z_aload_n (pc := 65) hR 0 dX12_heir_65 rfl rfl ?_
          refine z_iload_n (pc := 66) hR 1 dX12_heir_66 rfl rfl ?_
          refine z_callv1 (pc := 67) hR (As := [(0, a1)]) (st := []) jm_X12_homeIn jl_RX12_429 kmo_0 (by decide) rfl (by decide) (c_m_homeIn N a1 M11) rfl (by decide) (by decide) rfl (Nat.le_of_ble_eq_true rfl) dX12_heir_67 (fun r12 M13 => ?_)
          refine z_istore (pc := 70) hR (lv' := [(6, 0, r12), (0, 2, 0), (1, 0, a1), (2, 0, a2), (3, 0, x7), (4, 0, x8), (5, 0, x9)]) dX12_heir_70 (by decide) rfl ?_
          refine z_iload (pc := 72) hR 0 dX12_heir_72 rfl ?_
          refine z_iload (pc := 74) hR 5 dX12_heir_74 rfl ?_
          refine z_icmpgt (pc := 76) (tgt := 82) hR dX12_heir_76 (by decide) ?_ ?_
          · refine z_iload (pc := 82) hR 6 dX12_heir_82 rfl ?_
            refine z_istore_n (pc := 84) hR (lv' := [(3, 0, x9), (6, 0, r12), (0, 2, 0), (1, 0, a1), (2, 0, a2), (4, 0, x8), (5, 0, x9)]) dX12_heir_84 rfl (by decide) rfl ?_
            refine z_iload (pc := 85) hR 1 dX12_heir_85 rfl ?_
            refine z_istore (pc := 87) hR (lv' := [(4, 0, r12), (3, 0, x9), (6, 0, r12), (0, 2, 0), (1, 0, a1), (2, 0, a2), (5, 0, x9)]) dX12_heir_87 (by decide) rfl ?_
            refine z_iinc (pc := 89) hR (j := 6) (lv' := [(5, 0, (w32 (x9 + 1))), (4, 0, r12), (3, 0, x9), (6, 0, r12), (0, 2, 0), (1, 0, a1), (2, 0, a2)]) dX12_heir_89 rfl (by decide) rfl ?_
            refine z_goto (pc := 92) (tgt := 48) hR dX12_heir_92 (by decide) ?_
            refine z_pick (pc := 48) (lv' := [(0, 2, 0), (1, 0, a1), (2, 0, a2), (3, 0, x9), (4, 0, r12), (5, 0, (w32 (x9 + 1)))]) hR [4, 5, 6, 2, 1, 0] rfl ?_
            exact hh48 (x9, r12, (w32 (x9 + 1)), M13)
          · refine z_goto (pc := 79) (tgt := 89) hR dX12_heir_79 (by decide) ?_
            refine z_iinc (pc := 89) hR (j := 6) (lv' := [(5, 0, (w32 (x9 + 1))), (6, 0, r12), (0, 2, 0), (1, 0, a1), (2, 0, a2), (3, 0, x7), (4, 0, x8)]) dX12_heir_89 rfl (by decide) rfl ?_
            refine z_goto (pc := 92) (tgt := 48) hR dX12_heir_92 (by decide) ?_
            refine z_pick (pc := 48) (lv' := [(0, 2, 0), (1, 0, a1), (2, 0, a2), (3, 0, x7), (4, 0, x8), (5, 0, (w32 (x9 + 1)))]) hR [2, 3, 4, 5, 6, 0] rfl ?_
            exact hh48 (x7, x8, (w32 (x9 + 1)), M13)
      · refine z_bipush (pc := 29) hR dX12_heir_29 rfl ?_
        exact z_ireturn (pc := 31) hR rfl rfl dX12_heir_31 rfl
theorem dX12_isRest_0 : decode cX12_isRest 0 = .ok (.iconst 0, 1) := by decide +kernel
theorem dX12_isRest_1 : decode cX12_isRest 1 = .ok (.istore_n 3, 1) := by decide +kernel
theorem dX12_isRest_2 : decode cX12_isRest 2 = .ok (.iload_n 3, 1) := by decide +kernel
theorem dX12_isRest_3 : decode cX12_isRest 3 = .ok (.bipush 6, 2) := by decide +kernel
theorem dX12_isRest_5 : decode cX12_isRest 5 = .ok (.if_icmp .ge 73, 3) := by decide +kernel
theorem dX12_isRest_8 : decode cX12_isRest 8 = .ok (.aload_n 0, 1) := by decide +kernel
theorem dX12_isRest_9 : decode cX12_isRest 9 = .ok (.getfield 67, 3) := by decide +kernel
theorem dX12_isRest_12 : decode cX12_isRest 12 = .ok (.iconst 2, 1) := by decide +kernel
theorem dX12_isRest_13 : decode cX12_isRest 13 = .ok (.bipush 6, 2) := by decide +kernel
theorem dX12_isRest_15 : decode cX12_isRest 15 = .ok (.iload_n 3, 1) := by decide +kernel
theorem dX12_isRest_16 : decode cX12_isRest 16 = .ok (.imul, 1) := by decide +kernel
theorem dX12_isRest_17 : decode cX12_isRest 17 = .ok (.iload_n 2, 1) := by decide +kernel
theorem dX12_isRest_18 : decode cX12_isRest 18 = .ok (.iadd, 1) := by decide +kernel
theorem dX12_isRest_19 : decode cX12_isRest 19 = .ok (.imul, 1) := by decide +kernel
theorem dX12_isRest_20 : decode cX12_isRest 20 = .ok (.iaload, 1) := by decide +kernel
theorem dX12_isRest_21 : decode cX12_isRest 21 = .ok (.aload_n 0, 1) := by decide +kernel
theorem dX12_isRest_22 : decode cX12_isRest 22 = .ok (.getfield 67, 3) := by decide +kernel
theorem dX12_isRest_25 : decode cX12_isRest 25 = .ok (.iconst 2, 1) := by decide +kernel
theorem dX12_isRest_26 : decode cX12_isRest 26 = .ok (.bipush 6, 2) := by decide +kernel
theorem dX12_isRest_28 : decode cX12_isRest 28 = .ok (.iload_n 1, 1) := by decide +kernel
theorem dX12_isRest_29 : decode cX12_isRest 29 = .ok (.imul, 1) := by decide +kernel
theorem dX12_isRest_30 : decode cX12_isRest 30 = .ok (.iload_n 2, 1) := by decide +kernel
theorem dX12_isRest_31 : decode cX12_isRest 31 = .ok (.iadd, 1) := by decide +kernel
theorem dX12_isRest_32 : decode cX12_isRest 32 = .ok (.imul, 1) := by decide +kernel
theorem dX12_isRest_33 : decode cX12_isRest 33 = .ok (.iaload, 1) := by decide +kernel
theorem dX12_isRest_34 : decode cX12_isRest 34 = .ok (.if_icmp .gt 36, 3) := by decide +kernel
theorem dX12_isRest_37 : decode cX12_isRest 37 = .ok (.aload_n 0, 1) := by decide +kernel
theorem dX12_isRest_38 : decode cX12_isRest 38 = .ok (.getfield 67, 3) := by decide +kernel
theorem dX12_isRest_41 : decode cX12_isRest 41 = .ok (.iconst 2, 1) := by decide +kernel
theorem dX12_isRest_42 : decode cX12_isRest 42 = .ok (.bipush 6, 2) := by decide +kernel
theorem dX12_isRest_44 : decode cX12_isRest 44 = .ok (.iload_n 1, 1) := by decide +kernel
theorem dX12_isRest_45 : decode cX12_isRest 45 = .ok (.imul, 1) := by decide +kernel
theorem dX12_isRest_46 : decode cX12_isRest 46 = .ok (.iload_n 3, 1) := by decide +kernel
theorem dX12_isRest_47 : decode cX12_isRest 47 = .ok (.iadd, 1) := by decide +kernel
theorem dX12_isRest_48 : decode cX12_isRest 48 = .ok (.imul, 1) := by decide +kernel
theorem dX12_isRest_49 : decode cX12_isRest 49 = .ok (.iconst 1, 1) := by decide +kernel
theorem dX12_isRest_50 : decode cX12_isRest 50 = .ok (.iadd, 1) := by decide +kernel
theorem dX12_isRest_51 : decode cX12_isRest 51 = .ok (.iaload, 1) := by decide +kernel
theorem dX12_isRest_52 : decode cX12_isRest 52 = .ok (.aload_n 0, 1) := by decide +kernel
theorem dX12_isRest_53 : decode cX12_isRest 53 = .ok (.getfield 67, 3) := by decide +kernel
theorem dX12_isRest_56 : decode cX12_isRest 56 = .ok (.iconst 2, 1) := by decide +kernel
theorem dX12_isRest_57 : decode cX12_isRest 57 = .ok (.bipush 6, 2) := by decide +kernel
theorem dX12_isRest_59 : decode cX12_isRest 59 = .ok (.iload_n 1, 1) := by decide +kernel
theorem dX12_isRest_60 : decode cX12_isRest 60 = .ok (.imul, 1) := by decide +kernel
theorem dX12_isRest_61 : decode cX12_isRest 61 = .ok (.iload_n 2, 1) := by decide +kernel
theorem dX12_isRest_62 : decode cX12_isRest 62 = .ok (.iadd, 1) := by decide +kernel
theorem dX12_isRest_63 : decode cX12_isRest 63 = .ok (.imul, 1) := by decide +kernel
theorem dX12_isRest_64 : decode cX12_isRest 64 = .ok (.iconst 1, 1) := by decide +kernel
theorem dX12_isRest_65 : decode cX12_isRest 65 = .ok (.iadd, 1) := by decide +kernel
theorem dX12_isRest_66 : decode cX12_isRest 66 = .ok (.iaload, 1) := by decide +kernel
theorem dX12_isRest_67 : decode cX12_isRest 67 = .ok (.if_icmp .le 5, 3) := by decide +kernel
theorem dX12_isRest_70 : decode cX12_isRest 70 = .ok (.iconst 0, 1) := by decide +kernel
theorem dX12_isRest_71 : decode cX12_isRest 71 = .ok (.ireturn, 1) := by decide +kernel
theorem dX12_isRest_72 : decode cX12_isRest 72 = .ok (.iinc 3 1, 3) := by decide +kernel
theorem dX12_isRest_75 : decode cX12_isRest 75 = .ok (.goto (-73), 3) := by decide +kernel
theorem dX12_isRest_78 : decode cX12_isRest 78 = .ok (.iconst 1, 1) := by decide +kernel
theorem dX12_isRest_79 : decode cX12_isRest 79 = .ok (.ireturn, 1) := by decide +kernel
def m_isRest_L2 (N : Nat) (a1 : Int) (a2 : Int) (M : jMem) (h2 : Int → Option Int) : Int → Option Int
  | x1 => (if x1 < 6 then jchk (0 ≤ (w32 (2 * ((w32 (((w32 (6 * x1))) + a2))))) ∧ (w32 (2 * ((w32 (((w32 (6 * x1))) + a2))))) < 72) <| jchk (0 ≤ (w32 (2 * ((w32 (((w32 (6 * a1))) + a2))))) ∧ (w32 (2 * ((w32 (((w32 (6 * a1))) + a2))))) < 72) <| (if (M 18 ((w32 (2 * ((w32 (((w32 (6 * a1))) + a2))))))) < (M 18 ((w32 (2 * ((w32 (((w32 (6 * x1))) + a2))))))) then some 0 else jchk (0 ≤ (w32 (((w32 (2 * ((w32 (((w32 (6 * a1))) + x1)))))) + 1)) ∧ (w32 (((w32 (2 * ((w32 (((w32 (6 * a1))) + x1)))))) + 1)) < 72) <| jchk (0 ≤ (w32 (((w32 (2 * ((w32 (((w32 (6 * a1))) + a2)))))) + 1)) ∧ (w32 (((w32 (2 * ((w32 (((w32 (6 * a1))) + a2)))))) + 1)) < 72) <| (if (M 18 ((w32 (((w32 (2 * ((w32 (((w32 (6 * a1))) + a2)))))) + 1)))) < (M 18 ((w32 (((w32 (2 * ((w32 (((w32 (6 * a1))) + x1)))))) + 1)))) then some 0 else h2 ((w32 (x1 + 1))))) else some 1)
def m_isRest (N : Nat) (a1 a2 : Int) (M : jMem) : Option Int := jfix N (m_isRest_L2 N a1 a2 M) 0
theorem c_m_isRest {l : Launch} {g : jG} (N : Nat) (a1 a2 : Int) (M : jMem)  : ∀ o, m_isRest N a1 a2 M = some o → jCt l g jTM yX12_isRest cX12_isRest 4 (some .boolean) 0 1 [(2, 0), (0, a1), (0, a2)] M (o, M) := by
  refine jMet (own := RX12) (em := (fun r => (r, M))) (L := [(0, 2, 0), (1, 0, a1), (2, 0, a2)]) (by decide +kernel) rfl (Nat.le_of_ble_eq_true rfl) rfl (fun K hR => ?_)
  unfold m_isRest
  refine z_iconst (pc := 0) hR dX12_isRest_0 rfl ?_
  refine z_istore_n (pc := 1) hR (lv' := [(3, 0, 0), (0, 2, 0), (1, 0, a1), (2, 0, a2)]) dX12_isRest_1 rfl (by decide) rfl ?_
  refine z_pick (pc := 2) (lv' := [(0, 2, 0), (1, 0, a1), (2, 0, a2), (3, 0, 0)]) hR [1, 2, 3, 0] rfl ?_
  refine z_fix (σ := Int) (lv := fun s => [(0, 2, 0), (1, 0, a1), (2, 0, a2), (3, 0, s)]) (st := fun _ => []) (M := fun _ => M) (fun h2 hh2 => ?_) N 0
  intro x1
  show jZ K (fun r => (r, M)) 2 [(0, 2, 0), (1, 0, a1), (2, 0, a2), (3, 0, x1)] [] M _
  unfold m_isRest_L2
  refine z_iload_n (pc := 2) hR 3 dX12_isRest_2 rfl rfl ?_
  refine z_bipush (pc := 3) hR dX12_isRest_3 rfl ?_
  refine z_icmpge (pc := 5) (tgt := 78) hR dX12_isRest_5 (by decide) ?_ ?_
  · refine z_iconst (pc := 78) hR dX12_isRest_78 rfl ?_
    exact z_zreturn (pc := 79) hR rfl rfl (Or.inr rfl) dX12_isRest_79 rfl
  · refine z_aload_n (pc := 8) hR 0 dX12_isRest_8 rfl rfl ?_
    refine z_getr (pc := 9) hR (c0 := 18) (r := 18) jf_RX12_67 kmo_0 (by decide) rfl rfl dX12_isRest_9 ?_
    refine z_iconst (pc := 12) hR dX12_isRest_12 rfl ?_
    refine z_bipush (pc := 13) hR dX12_isRest_13 rfl ?_
    refine z_iload_n (pc := 15) hR 3 dX12_isRest_15 rfl rfl ?_
    refine z_imul (pc := 16) hR dX12_isRest_16 ?_
    refine z_iload_n (pc := 17) hR 2 dX12_isRest_17 rfl rfl ?_
    refine z_iadd (pc := 18) hR dX12_isRest_18 ?_
    refine z_imul (pc := 19) hR dX12_isRest_19 ?_
    refine z_chk (fun hc2 => ?_)
    refine z_iald (pc := 20) hR (n := 72) kma_18 hc2.1 hc2.2 dX12_isRest_20 ?_
    refine z_aload_n (pc := 21) hR 0 dX12_isRest_21 rfl rfl ?_
    refine z_getr (pc := 22) hR (c0 := 18) (r := 18) jf_RX12_67 kmo_0 (by decide) rfl rfl dX12_isRest_22 ?_
    refine z_iconst (pc := 25) hR dX12_isRest_25 rfl ?_
    refine z_bipush (pc := 26) hR dX12_isRest_26 rfl ?_
    refine z_iload_n (pc := 28) hR 1 dX12_isRest_28 rfl rfl ?_
    refine z_imul (pc := 29) hR dX12_isRest_29 ?_
    refine z_iload_n (pc := 30) hR 2 dX12_isRest_30 rfl rfl ?_
    refine z_iadd (pc := 31) hR dX12_isRest_31 ?_
    refine z_imul (pc := 32) hR dX12_isRest_32 ?_
    refine z_chk (fun hc3 => ?_)
    refine z_iald (pc := 33) hR (n := 72) kma_18 hc3.1 hc3.2 dX12_isRest_33 ?_
    refine z_icmpgt (pc := 34) (tgt := 70) hR dX12_isRest_34 (by decide) ?_ ?_
    · refine z_iconst (pc := 70) hR dX12_isRest_70 rfl ?_
      exact z_zreturn (pc := 71) hR rfl rfl (Or.inl rfl) dX12_isRest_71 rfl
    · refine z_aload_n (pc := 37) hR 0 dX12_isRest_37 rfl rfl ?_
      refine z_getr (pc := 38) hR (c0 := 18) (r := 18) jf_RX12_67 kmo_0 (by decide) rfl rfl dX12_isRest_38 ?_
      refine z_iconst (pc := 41) hR dX12_isRest_41 rfl ?_
      refine z_bipush (pc := 42) hR dX12_isRest_42 rfl ?_
      refine z_iload_n (pc := 44) hR 1 dX12_isRest_44 rfl rfl ?_
      refine z_imul (pc := 45) hR dX12_isRest_45 ?_
      refine z_iload_n (pc := 46) hR 3 dX12_isRest_46 rfl rfl ?_
      refine z_iadd (pc := 47) hR dX12_isRest_47 ?_
      refine z_imul (pc := 48) hR dX12_isRest_48 ?_
      refine z_iconst (pc := 49) hR dX12_isRest_49 rfl ?_
      refine z_iadd (pc := 50) hR dX12_isRest_50 ?_
      refine z_chk (fun hc4 => ?_)
      refine z_iald (pc := 51) hR (n := 72) kma_18 hc4.1 hc4.2 dX12_isRest_51 ?_
      refine z_aload_n (pc := 52) hR 0 dX12_isRest_52 rfl rfl ?_
      refine z_getr (pc := 53) hR (c0 := 18) (r := 18) jf_RX12_67 kmo_0 (by decide) rfl rfl dX12_isRest_53 ?_
      refine z_iconst (pc := 56) hR dX12_isRest_56 rfl ?_
      refine z_bipush (pc := 57) hR dX12_isRest_57 rfl ?_
      refine z_iload_n (pc := 59) hR 1 dX12_isRest_59 rfl rfl ?_
      refine z_imul (pc := 60) hR dX12_isRest_60 ?_
      refine z_iload_n (pc := 61) hR 2 dX12_isRest_61 rfl rfl ?_
      refine z_iadd (pc := 62) hR dX12_isRest_62 ?_
      refine z_imul (pc := 63) hR dX12_isRest_63 ?_
      refine z_iconst (pc := 64) hR dX12_isRest_64 rfl ?_
      refine z_iadd (pc := 65) hR dX12_isRest_65 ?_
      refine z_chk (fun hc5 => ?_)
      refine z_iald (pc := 66) hR (n := 72) kma_18 hc5.1 hc5.2 dX12_isRest_66 ?_
      refine z_icmple (pc := 67) (tgt := 72) hR dX12_isRest_67 (by decide) ?_ ?_
      · refine z_iinc (pc := 72) hR (j := 3) (lv' := [(3, 0, (w32 (x1 + 1))), (0, 2, 0), (1, 0, a1), (2, 0, a2)]) dX12_isRest_72 rfl (by decide) rfl ?_
        refine z_goto (pc := 75) (tgt := 2) hR dX12_isRest_75 (by decide) ?_
        refine z_pick (pc := 2) (lv' := [(0, 2, 0), (1, 0, a1), (2, 0, a2), (3, 0, (w32 (x1 + 1)))]) hR [1, 2, 3, 0] rfl ?_
        exact hh2 ((w32 (x1 + 1)))
      · refine z_iconst (pc := 70) hR dX12_isRest_70 rfl ?_
        exact z_zreturn (pc := 71) hR rfl rfl (Or.inl rfl) dX12_isRest_71 rfl
theorem dX12_getsNow_0 : decode cX12_getsNow 0 = .ok (.aload_n 0, 1) := by decide +kernel
theorem dX12_getsNow_1 : decode cX12_getsNow 1 = .ok (.getfield 46, 3) := by decide +kernel
theorem dX12_getsNow_4 : decode cX12_getsNow 4 = .ok (.iload_n 1, 1) := by decide +kernel
theorem dX12_getsNow_5 : decode cX12_getsNow 5 = .ok (.iaload, 1) := by decide +kernel
theorem dX12_getsNow_6 : decode cX12_getsNow 6 = .ok (.aload_n 0, 1) := by decide +kernel
theorem dX12_getsNow_7 : decode cX12_getsNow 7 = .ok (.getfield 39, 3) := by decide +kernel
theorem dX12_getsNow_10 : decode cX12_getsNow 10 = .ok (.bipush 25, 2) := by decide +kernel
theorem dX12_getsNow_12 : decode cX12_getsNow 12 = .ok (.aload_n 0, 1) := by decide +kernel
theorem dX12_getsNow_13 : decode cX12_getsNow 13 = .ok (.getfield 39, 3) := by decide +kernel
theorem dX12_getsNow_16 : decode cX12_getsNow 16 = .ok (.bipush 32, 2) := by decide +kernel
theorem dX12_getsNow_18 : decode cX12_getsNow 18 = .ok (.iload_n 1, 1) := by decide +kernel
theorem dX12_getsNow_19 : decode cX12_getsNow 19 = .ok (.iadd, 1) := by decide +kernel
theorem dX12_getsNow_20 : decode cX12_getsNow 20 = .ok (.iaload, 1) := by decide +kernel
theorem dX12_getsNow_21 : decode cX12_getsNow 21 = .ok (.iadd, 1) := by decide +kernel
theorem dX12_getsNow_22 : decode cX12_getsNow 22 = .ok (.iaload, 1) := by decide +kernel
theorem dX12_getsNow_23 : decode cX12_getsNow 23 = .ok (.ifCond .ne 7, 3) := by decide +kernel
theorem dX12_getsNow_26 : decode cX12_getsNow 26 = .ok (.iconst 3, 1) := by decide +kernel
theorem dX12_getsNow_27 : decode cX12_getsNow 27 = .ok (.goto 4, 3) := by decide +kernel
theorem dX12_getsNow_30 : decode cX12_getsNow 30 = .ok (.iconst 0, 1) := by decide +kernel
theorem dX12_getsNow_31 : decode cX12_getsNow 31 = .ok (.isub, 1) := by decide +kernel
theorem dX12_getsNow_32 : decode cX12_getsNow 32 = .ok (.ireturn, 1) := by decide +kernel
def m_getsNow (N : Nat) (a1 : Int) (M : jMem) : Option Int := jchk (0 ≤ a1 ∧ a1 < 7) <| jchk (0 ≤ (w32 (32 + a1)) ∧ (w32 (32 + a1)) < 112) <| jchk (0 ≤ (w32 (25 + ((M 10 ((w32 (32 + a1))))))) ∧ (w32 (25 + ((M 10 ((w32 (32 + a1))))))) < 112) <| (if (M 10 ((w32 (25 + ((M 10 ((w32 (32 + a1))))))))) = 0 then some ((w32 (((M 11 a1)) - 3))) else some ((w32 (((M 11 a1)) - 0))))
theorem c_m_getsNow {l : Launch} {g : jG} (N : Nat) (a1 : Int) (M : jMem)  : ∀ o, m_getsNow N a1 M = some o → jCt l g jTM yX12_getsNow cX12_getsNow 2 (some .int) 0 1 [(2, 0), (0, a1)] M (o, M) := by
  refine jMet (own := RX12) (em := (fun r => (r, M))) (L := [(0, 2, 0), (1, 0, a1)]) (by decide +kernel) rfl (Nat.le_of_ble_eq_true rfl) rfl (fun K hR => ?_)
  unfold m_getsNow
  refine z_aload_n (pc := 0) hR 0 dX12_getsNow_0 rfl rfl ?_
  refine z_getr (pc := 1) hR (c0 := 11) (r := 11) jf_RX12_46 kmo_0 (by decide) rfl rfl dX12_getsNow_1 ?_
  refine z_iload_n (pc := 4) hR 1 dX12_getsNow_4 rfl rfl ?_
  refine z_chk (fun hc1 => ?_)
  refine z_iald (pc := 5) hR (n := 7) kma_11 hc1.1 hc1.2 dX12_getsNow_5 ?_
  refine z_aload_n (pc := 6) hR 0 dX12_getsNow_6 rfl rfl ?_
  refine z_getr (pc := 7) hR (c0 := 10) (r := 10) jf_RX12_39 kmo_0 (by decide) rfl rfl dX12_getsNow_7 ?_
  refine z_bipush (pc := 10) hR dX12_getsNow_10 rfl ?_
  refine z_aload_n (pc := 12) hR 0 dX12_getsNow_12 rfl rfl ?_
  refine z_getr (pc := 13) hR (c0 := 10) (r := 10) jf_RX12_39 kmo_0 (by decide) rfl rfl dX12_getsNow_13 ?_
  refine z_bipush (pc := 16) hR dX12_getsNow_16 rfl ?_
  refine z_iload_n (pc := 18) hR 1 dX12_getsNow_18 rfl rfl ?_
  refine z_iadd (pc := 19) hR dX12_getsNow_19 ?_
  refine z_chk (fun hc2 => ?_)
  refine z_iald (pc := 20) hR (n := 112) kma_10 hc2.1 hc2.2 dX12_getsNow_20 ?_
  refine z_iadd (pc := 21) hR dX12_getsNow_21 ?_
  refine z_chk (fun hc3 => ?_)
  refine z_iald (pc := 22) hR (n := 112) kma_10 hc3.1 hc3.2 dX12_getsNow_22 ?_
  refine z_ifne (pc := 23) (tgt := 30) hR dX12_getsNow_23 (by decide) ?_ ?_
  · refine z_iconst (pc := 30) hR dX12_getsNow_30 rfl ?_
    refine z_isub (pc := 31) hR dX12_getsNow_31 ?_
    exact z_ireturn (pc := 32) hR rfl rfl dX12_getsNow_32 rfl
  · refine z_iconst (pc := 26) hR dX12_getsNow_26 rfl ?_
    refine z_goto (pc := 27) (tgt := 31) hR dX12_getsNow_27 (by decide) ?_
    refine z_isub (pc := 31) hR dX12_getsNow_31 ?_
    exact z_ireturn (pc := 32) hR rfl rfl dX12_getsNow_32 rfl
theorem dX12_fillsRest_0 : decode cX12_fillsRest 0 = .ok (.iconst 2, 1) := by decide +kernel
theorem dX12_fillsRest_1 : decode cX12_fillsRest 1 = .ok (.iload_n 3, 1) := by decide +kernel
theorem dX12_fillsRest_2 : decode cX12_fillsRest 2 = .ok (.imul, 1) := by decide +kernel
theorem dX12_fillsRest_3 : decode cX12_fillsRest 3 = .ok (.istore 5, 2) := by decide +kernel
theorem dX12_fillsRest_5 : decode cX12_fillsRest 5 = .ok (.aload_n 0, 1) := by decide +kernel
theorem dX12_fillsRest_6 : decode cX12_fillsRest 6 = .ok (.getfield 67, 3) := by decide +kernel
theorem dX12_fillsRest_9 : decode cX12_fillsRest 9 = .ok (.iload 5, 2) := by decide +kernel
theorem dX12_fillsRest_11 : decode cX12_fillsRest 11 = .ok (.iconst 0, 1) := by decide +kernel
theorem dX12_fillsRest_12 : decode cX12_fillsRest 12 = .ok (.iastore, 1) := by decide +kernel
theorem dX12_fillsRest_13 : decode cX12_fillsRest 13 = .ok (.aload_n 0, 1) := by decide +kernel
theorem dX12_fillsRest_14 : decode cX12_fillsRest 14 = .ok (.getfield 67, 3) := by decide +kernel
theorem dX12_fillsRest_17 : decode cX12_fillsRest 17 = .ok (.iload 5, 2) := by decide +kernel
theorem dX12_fillsRest_19 : decode cX12_fillsRest 19 = .ok (.iconst 1, 1) := by decide +kernel
theorem dX12_fillsRest_20 : decode cX12_fillsRest 20 = .ok (.iadd, 1) := by decide +kernel
theorem dX12_fillsRest_21 : decode cX12_fillsRest 21 = .ok (.iconst 0, 1) := by decide +kernel
theorem dX12_fillsRest_22 : decode cX12_fillsRest 22 = .ok (.iastore, 1) := by decide +kernel
theorem dX12_fillsRest_23 : decode cX12_fillsRest 23 = .ok (.aload_n 0, 1) := by decide +kernel
theorem dX12_fillsRest_24 : decode cX12_fillsRest 24 = .ok (.getfield 39, 3) := by decide +kernel
theorem dX12_fillsRest_27 : decode cX12_fillsRest 27 = .ok (.bipush 46, 2) := by decide +kernel
theorem dX12_fillsRest_29 : decode cX12_fillsRest 29 = .ok (.iload_n 1, 1) := by decide +kernel
theorem dX12_fillsRest_30 : decode cX12_fillsRest 30 = .ok (.iadd, 1) := by decide +kernel
theorem dX12_fillsRest_31 : decode cX12_fillsRest 31 = .ok (.iload_n 3, 1) := by decide +kernel
theorem dX12_fillsRest_32 : decode cX12_fillsRest 32 = .ok (.bipush 6, 2) := by decide +kernel
theorem dX12_fillsRest_34 : decode cX12_fillsRest 34 = .ok (.idiv, 1) := by decide +kernel
theorem dX12_fillsRest_35 : decode cX12_fillsRest 35 = .ok (.iastore, 1) := by decide +kernel
theorem dX12_fillsRest_36 : decode cX12_fillsRest 36 = .ok (.aload_n 0, 1) := by decide +kernel
theorem dX12_fillsRest_37 : decode cX12_fillsRest 37 = .ok (.getfield 39, 3) := by decide +kernel
theorem dX12_fillsRest_40 : decode cX12_fillsRest 40 = .ok (.bipush 46, 2) := by decide +kernel
theorem dX12_fillsRest_42 : decode cX12_fillsRest 42 = .ok (.iload_n 2, 1) := by decide +kernel
theorem dX12_fillsRest_43 : decode cX12_fillsRest 43 = .ok (.iadd, 1) := by decide +kernel
theorem dX12_fillsRest_44 : decode cX12_fillsRest 44 = .ok (.iload_n 3, 1) := by decide +kernel
theorem dX12_fillsRest_45 : decode cX12_fillsRest 45 = .ok (.bipush 6, 2) := by decide +kernel
theorem dX12_fillsRest_47 : decode cX12_fillsRest 47 = .ok (.irem, 1) := by decide +kernel
theorem dX12_fillsRest_48 : decode cX12_fillsRest 48 = .ok (.iastore, 1) := by decide +kernel
theorem dX12_fillsRest_49 : decode cX12_fillsRest 49 = .ok (.iconst 0, 1) := by decide +kernel
theorem dX12_fillsRest_50 : decode cX12_fillsRest 50 = .ok (.istore 6, 2) := by decide +kernel
theorem dX12_fillsRest_52 : decode cX12_fillsRest 52 = .ok (.iload 6, 2) := by decide +kernel
theorem dX12_fillsRest_54 : decode cX12_fillsRest 54 = .ok (.iload 4, 2) := by decide +kernel
theorem dX12_fillsRest_56 : decode cX12_fillsRest 56 = .ok (.if_icmp .ge 46, 3) := by decide +kernel
theorem dX12_fillsRest_59 : decode cX12_fillsRest 59 = .ok (.aload_n 0, 1) := by decide +kernel
theorem dX12_fillsRest_60 : decode cX12_fillsRest 60 = .ok (.invokevirtual 362, 3) := by decide +kernel
theorem dX12_fillsRest_63 : decode cX12_fillsRest 63 = .ok (.pop, 1) := by decide +kernel
theorem dX12_fillsRest_64 : decode cX12_fillsRest 64 = .ok (.aload_n 0, 1) := by decide +kernel
theorem dX12_fillsRest_65 : decode cX12_fillsRest 65 = .ok (.getfield 67, 3) := by decide +kernel
theorem dX12_fillsRest_68 : decode cX12_fillsRest 68 = .ok (.iload 5, 2) := by decide +kernel
theorem dX12_fillsRest_70 : decode cX12_fillsRest 70 = .ok (.dup2, 1) := by decide +kernel
theorem dX12_fillsRest_71 : decode cX12_fillsRest 71 = .ok (.iaload, 1) := by decide +kernel
theorem dX12_fillsRest_72 : decode cX12_fillsRest 72 = .ok (.aload_n 0, 1) := by decide +kernel
theorem dX12_fillsRest_73 : decode cX12_fillsRest 73 = .ok (.iload_n 1, 1) := by decide +kernel
theorem dX12_fillsRest_74 : decode cX12_fillsRest 74 = .ok (.invokevirtual 432, 3) := by decide +kernel
theorem dX12_fillsRest_77 : decode cX12_fillsRest 77 = .ok (.iadd, 1) := by decide +kernel
theorem dX12_fillsRest_78 : decode cX12_fillsRest 78 = .ok (.iastore, 1) := by decide +kernel
theorem dX12_fillsRest_79 : decode cX12_fillsRest 79 = .ok (.aload_n 0, 1) := by decide +kernel
theorem dX12_fillsRest_80 : decode cX12_fillsRest 80 = .ok (.getfield 67, 3) := by decide +kernel
theorem dX12_fillsRest_83 : decode cX12_fillsRest 83 = .ok (.iload 5, 2) := by decide +kernel
theorem dX12_fillsRest_85 : decode cX12_fillsRest 85 = .ok (.iconst 1, 1) := by decide +kernel
theorem dX12_fillsRest_86 : decode cX12_fillsRest 86 = .ok (.iadd, 1) := by decide +kernel
theorem dX12_fillsRest_87 : decode cX12_fillsRest 87 = .ok (.dup2, 1) := by decide +kernel
theorem dX12_fillsRest_88 : decode cX12_fillsRest 88 = .ok (.iaload, 1) := by decide +kernel
theorem dX12_fillsRest_89 : decode cX12_fillsRest 89 = .ok (.aload_n 0, 1) := by decide +kernel
theorem dX12_fillsRest_90 : decode cX12_fillsRest 90 = .ok (.iload_n 2, 1) := by decide +kernel
theorem dX12_fillsRest_91 : decode cX12_fillsRest 91 = .ok (.invokevirtual 432, 3) := by decide +kernel
theorem dX12_fillsRest_94 : decode cX12_fillsRest 94 = .ok (.iadd, 1) := by decide +kernel
theorem dX12_fillsRest_95 : decode cX12_fillsRest 95 = .ok (.iastore, 1) := by decide +kernel
theorem dX12_fillsRest_96 : decode cX12_fillsRest 96 = .ok (.iinc 6 1, 3) := by decide +kernel
theorem dX12_fillsRest_99 : decode cX12_fillsRest 99 = .ok (.goto (-47), 3) := by decide +kernel
theorem dX12_fillsRest_102 : decode cX12_fillsRest 102 = .ok (.aload_n 0, 1) := by decide +kernel
theorem dX12_fillsRest_103 : decode cX12_fillsRest 103 = .ok (.invokevirtual 424, 3) := by decide +kernel
theorem dX12_fillsRest_106 : decode cX12_fillsRest 106 = .ok (.return_, 1) := by decide +kernel
def m_fillsRest_L52 (N : Nat) (a1 : Int) (a2 : Int) (a4 : Int) (v1 : Int) (h52 : (Int × jMem) → Option (Int × jMem)) : Int × jMem → Option (Int × jMem)
  | (x10, M11) => (if x10 < a4 then jb1 (m_passes N M11) fun r13 M14 => jchk (0 ≤ v1 ∧ v1 < 72) <| (m_getsNow N a1 M14).bind fun r16 => jchk (0 ≤ v1 ∧ v1 < 72) <| jlt (up M14 18 v1 ((w32 (((M14 18 v1)) + r16)))) fun M18 => jchk (0 ≤ (w32 (v1 + 1)) ∧ (w32 (v1 + 1)) < 72) <| (m_getsNow N a2 M18).bind fun r20 => jchk (0 ≤ (w32 (v1 + 1)) ∧ (w32 (v1 + 1)) < 72) <| jlt (up M18 18 ((w32 (v1 + 1))) ((w32 (((M18 18 ((w32 (v1 + 1))))) + r20)))) fun M22 => h52 ((w32 (x10 + 1)), M22) else jbv (m_laysBack N M11) fun M12 => some (0, M12))
def m_fillsRest (N : Nat) (a1 a2 a3 a4 : Int) (M : jMem) : Option (Int × jMem) := jlt ((w32 (2 * a3))) fun v1 => jchk (0 ≤ v1 ∧ v1 < 72) <| jlt (up M 18 v1 0) fun M3 => jchk (0 ≤ (w32 (v1 + 1)) ∧ (w32 (v1 + 1)) < 72) <| jlt (up M3 18 ((w32 (v1 + 1))) 0) fun M5 => jchk (0 ≤ (w32 (46 + a1)) ∧ (w32 (46 + a1)) < 112) <| jlt (up M5 10 ((w32 (46 + a1))) ((w32 (a3.tdiv 6)))) fun M7 => jchk (0 ≤ (w32 (46 + a2)) ∧ (w32 (46 + a2)) < 112) <| jlt (up M7 10 ((w32 (46 + a2))) ((a3.tmod 6))) fun M9 => jfix N (m_fillsRest_L52 N a1 a2 a4 v1) (0, M9)
theorem c_m_fillsRest {l : Launch} {g : jG} (N : Nat) (a1 a2 a3 a4 : Int) (M : jMem)  : ∀ o, m_fillsRest N a1 a2 a3 a4 M = some o → jCt l g jTM yX12_fillsRest cX12_fillsRest 7 none 3 13 [(2, 0), (0, a1), (0, a2), (0, a3), (0, a4)] M o := by
  refine jMet (own := RX12) (em := id) (L := [(0, 2, 0), (1, 0, a1), (2, 0, a2), (3, 0, a3), (4, 0, a4)]) (by decide +kernel) rfl (Nat.le_of_ble_eq_true rfl) rfl (fun K hR => ?_)
  unfold m_fillsRest
  refine z_iconst (pc := 0) hR dX12_fillsRest_0 rfl ?_
  refine z_iload_n (pc := 1) hR 3 dX12_fillsRest_1 rfl rfl ?_
  refine z_imul (pc := 2) hR dX12_fillsRest_2 ?_
  refine z_let1 (fun v1 => ?_)
  refine z_istore (pc := 3) hR (lv' := [(5, 0, v1), (0, 2, 0), (1, 0, a1), (2, 0, a2), (3, 0, a3), (4, 0, a4)]) dX12_fillsRest_3 (by decide) rfl ?_
  refine z_aload_n (pc := 5) hR 1 dX12_fillsRest_5 rfl rfl ?_
  refine z_getr (pc := 6) hR (c0 := 18) (r := 18) jf_RX12_67 kmo_0 (by decide) rfl rfl dX12_fillsRest_6 ?_
  refine z_iload (pc := 9) hR 0 dX12_fillsRest_9 rfl ?_
  refine z_iconst (pc := 11) hR dX12_fillsRest_11 rfl ?_
  refine z_chk (fun hc2 => ?_)
  refine z_iast (pc := 12) hR (n := 72) kma_18 hc2.1 hc2.2 dX12_fillsRest_12 (fun M3 => ?_)
  refine z_aload_n (pc := 13) hR 1 dX12_fillsRest_13 rfl rfl ?_
  refine z_getr (pc := 14) hR (c0 := 18) (r := 18) jf_RX12_67 kmo_0 (by decide) rfl rfl dX12_fillsRest_14 ?_
  refine z_iload (pc := 17) hR 0 dX12_fillsRest_17 rfl ?_
  refine z_iconst (pc := 19) hR dX12_fillsRest_19 rfl ?_
  refine z_iadd (pc := 20) hR dX12_fillsRest_20 ?_
  refine z_iconst (pc := 21) hR dX12_fillsRest_21 rfl ?_
  refine z_chk (fun hc4 => ?_)
  refine z_iast (pc := 22) hR (n := 72) kma_18 hc4.1 hc4.2 dX12_fillsRest_22 (fun M5 => ?_)
  refine z_aload_n (pc := 23) hR 1 dX12_fillsRest_23 rfl rfl ?_
  refine z_getr (pc := 24) hR (c0 := 10) (r := 10) jf_RX12_39 kmo_0 (by decide) rfl rfl dX12_fillsRest_24 ?_
  refine z_bipush (pc := 27) hR dX12_fillsRest_27 rfl ?_
  refine z_iload_n (pc := 29) hR 2 dX12_fillsRest_29 rfl rfl ?_
  refine z_iadd (pc := 30) hR dX12_fillsRest_30 ?_
  refine z_iload_n (pc := 31) hR 4 dX12_fillsRest_31 rfl rfl ?_
  refine z_bipush (pc := 32) hR dX12_fillsRest_32 rfl ?_
  refine z_idiv (pc := 34) hR dX12_fillsRest_34 (by decide) ?_
  refine z_chk (fun hc6 => ?_)
  refine z_iast (pc := 35) hR (n := 112) kma_10 hc6.1 hc6.2 dX12_fillsRest_35 (fun M7 => ?_)
  refine z_aload_n (pc := 36) hR 1 dX12_fillsRest_36 rfl rfl ?_
  refine z_getr (pc := 37) hR (c0 := 10) (r := 10) jf_RX12_39 kmo_0 (by decide) rfl rfl dX12_fillsRest_37 ?_
  refine z_bipush (pc := 40) hR dX12_fillsRest_40 rfl ?_
  refine z_iload_n (pc := 42) hR 3 dX12_fillsRest_42 rfl rfl ?_
  refine z_iadd (pc := 43) hR dX12_fillsRest_43 ?_
  refine z_iload_n (pc := 44) hR 4 dX12_fillsRest_44 rfl rfl ?_
  refine z_bipush (pc := 45) hR dX12_fillsRest_45 rfl ?_
  refine z_irem (pc := 47) hR dX12_fillsRest_47 (by decide) ?_
  refine z_chk (fun hc8 => ?_)
  refine z_iast (pc := 48) hR (n := 112) kma_10 hc8.1 hc8.2 dX12_fillsRest_48 (fun M9 => ?_)
  refine z_iconst (pc := 49) hR dX12_fillsRest_49 rfl ?_
  refine z_istore (pc := 50) hR (lv' := [(6, 0, 0), (5, 0, v1), (0, 2, 0), (1, 0, a1), (2, 0, a2), (3, 0, a3), (4, 0, a4)]) dX12_fillsRest_50 (by decide) rfl ?_
  refine z_pick (pc := 52) (lv' := [(0, 2, 0), (1, 0, a1), (2, 0, a2), (4, 0, a4), (5, 0, v1), (6, 0, 0)]) hR [2, 3, 4, 6, 1, 0] rfl ?_
  refine z_fix (σ := Int × jMem) (lv := fun s => [(0, 2, 0), (1, 0, a1), (2, 0, a2), (4, 0, a4), (5, 0, v1), (6, 0, s.1)]) (st := fun _ => []) (M := fun s => s.2) (fun h52 hh52 => ?_) N (0, M9)
  rintro ⟨x10, M11⟩
  show jZ K id 52 [(0, 2, 0), (1, 0, a1), (2, 0, a2), (4, 0, a4), (5, 0, v1), (6, 0, x10)] [] M11 _
  unfold m_fillsRest_L52
  refine z_iload (pc := 52) hR 5 dX12_fillsRest_52 rfl ?_
  refine z_iload (pc := 54) hR 3 dX12_fillsRest_54 rfl ?_
  refine z_icmpge (pc := 56) (tgt := 102) hR dX12_fillsRest_56 (by decide) ?_ ?_
  · refine z_aload_n (pc := 102) hR 0 dX12_fillsRest_102 rfl rfl ?_
    refine z_callv0 (pc := 103) (rk' := 3) hR (As := []) (st := []) jm_X12_laysBack jl_RX12_424 kmo_0 (by decide) rfl (c_m_laysBack N M11) rfl (by decide) (by decide) rfl (Nat.le_of_ble_eq_true rfl) dX12_fillsRest_103 (fun M12 => ?_)
    exact z_return (x := 0) (pc := 106) hR rfl rfl dX12_fillsRest_106 rfl
  · refine z_aload_n (pc := 59) hR 0 dX12_fillsRest_59 rfl rfl ?_
    refine z_callv1 (pc := 60) hR (As := []) (st := []) jm_X12_passes jl_RX12_362 kmo_0 (by decide) rfl (by decide) (c_m_passes N M11) rfl (by decide) (by decide) rfl (Nat.le_of_ble_eq_true rfl) dX12_fillsRest_60 (fun r13 M14 => ?_)
    refine z_pop (pc := 63) hR dX12_fillsRest_63 (by decide) ?_
    refine z_aload_n (pc := 64) hR 0 dX12_fillsRest_64 rfl rfl ?_
    refine z_getr (pc := 65) hR (c0 := 18) (r := 18) jf_RX12_67 kmo_0 (by decide) rfl rfl dX12_fillsRest_65 ?_
    refine z_iload (pc := 68) hR 4 dX12_fillsRest_68 rfl ?_
    refine z_dup2 (pc := 70) hR dX12_fillsRest_70 (by decide) (by decide) ?_
    refine z_chk (fun hc15 => ?_)
    refine z_iald (pc := 71) hR (n := 72) kma_18 hc15.1 hc15.2 dX12_fillsRest_71 ?_
    refine z_aload_n (pc := 72) hR 0 dX12_fillsRest_72 rfl rfl ?_
    refine z_iload_n (pc := 73) hR 1 dX12_fillsRest_73 rfl rfl ?_
    refine z_callvp (pc := 74) hR (As := [(0, a1)]) (st := [(0, (M14 18 v1)), (0, v1), (2, 18)]) jm_X12_getsNow jl_RX12_432 kmo_0 (by decide) rfl (by decide) (c_m_getsNow N a1 M14) rfl (by decide) (by decide) rfl (Nat.le_of_ble_eq_true rfl) dX12_fillsRest_74 (fun r16 => ?_)
    refine z_iadd (pc := 77) hR dX12_fillsRest_77 ?_
    refine z_chk (fun hc17 => ?_)
    refine z_iast (pc := 78) hR (n := 72) kma_18 hc17.1 hc17.2 dX12_fillsRest_78 (fun M18 => ?_)
    refine z_aload_n (pc := 79) hR 0 dX12_fillsRest_79 rfl rfl ?_
    refine z_getr (pc := 80) hR (c0 := 18) (r := 18) jf_RX12_67 kmo_0 (by decide) rfl rfl dX12_fillsRest_80 ?_
    refine z_iload (pc := 83) hR 4 dX12_fillsRest_83 rfl ?_
    refine z_iconst (pc := 85) hR dX12_fillsRest_85 rfl ?_
    refine z_iadd (pc := 86) hR dX12_fillsRest_86 ?_
    refine z_dup2 (pc := 87) hR dX12_fillsRest_87 (by decide) (by decide) ?_
    refine z_chk (fun hc19 => ?_)
    refine z_iald (pc := 88) hR (n := 72) kma_18 hc19.1 hc19.2 dX12_fillsRest_88 ?_
    refine z_aload_n (pc := 89) hR 0 dX12_fillsRest_89 rfl rfl ?_
    refine z_iload_n (pc := 90) hR 2 dX12_fillsRest_90 rfl rfl ?_
    refine z_callvp (pc := 91) hR (As := [(0, a2)]) (st := [(0, (M18 18 ((w32 (v1 + 1))))), (0, (w32 (v1 + 1))), (2, 18)]) jm_X12_getsNow jl_RX12_432 kmo_0 (by decide) rfl (by decide) (c_m_getsNow N a2 M18) rfl (by decide) (by decide) rfl (Nat.le_of_ble_eq_true rfl) dX12_fillsRest_91 (fun r20 => ?_)
    refine z_iadd (pc := 94) hR dX12_fillsRest_94 ?_
    refine z_chk (fun hc21 => ?_)
    refine z_iast (pc := 95) hR (n := 72) kma_18 hc21.1 hc21.2 dX12_fillsRest_95 (fun M22 => ?_)
    refine z_iinc (pc := 96) hR (j := 5) (lv' := [(6, 0, (w32 (x10 + 1))), (0, 2, 0), (1, 0, a1), (2, 0, a2), (4, 0, a4), (5, 0, v1)]) dX12_fillsRest_96 rfl (by decide) rfl ?_
    refine z_goto (pc := 99) (tgt := 52) hR dX12_fillsRest_99 (by decide) ?_
    refine z_pick (pc := 52) (lv' := [(0, 2, 0), (1, 0, a1), (2, 0, a2), (4, 0, a4), (5, 0, v1), (6, 0, (w32 (x10 + 1)))]) hR [1, 2, 3, 4, 5, 0] rfl ?_
    exact hh52 ((w32 (x10 + 1)), M22)
theorem dX12_fillsRests_0 : decode cX12_fillsRests 0 = .ok (.aload_n 0, 1) := by decide +kernel
theorem dX12_fillsRests_1 : decode cX12_fillsRests 1 = .ok (.getfield 39, 3) := by decide +kernel
theorem dX12_fillsRests_4 : decode cX12_fillsRests 4 = .ok (.bipush 46, 2) := by decide +kernel
theorem dX12_fillsRests_6 : decode cX12_fillsRests 6 = .ok (.iload_n 1, 1) := by decide +kernel
theorem dX12_fillsRests_7 : decode cX12_fillsRests 7 = .ok (.iadd, 1) := by decide +kernel
theorem dX12_fillsRests_8 : decode cX12_fillsRests 8 = .ok (.iaload, 1) := by decide +kernel
theorem dX12_fillsRests_9 : decode cX12_fillsRests 9 = .ok (.istore 4, 2) := by decide +kernel
theorem dX12_fillsRests_11 : decode cX12_fillsRests 11 = .ok (.aload_n 0, 1) := by decide +kernel
theorem dX12_fillsRests_12 : decode cX12_fillsRests 12 = .ok (.getfield 39, 3) := by decide +kernel
theorem dX12_fillsRests_15 : decode cX12_fillsRests 15 = .ok (.bipush 46, 2) := by decide +kernel
theorem dX12_fillsRests_17 : decode cX12_fillsRests 17 = .ok (.iload_n 2, 1) := by decide +kernel
theorem dX12_fillsRests_18 : decode cX12_fillsRests 18 = .ok (.iadd, 1) := by decide +kernel
theorem dX12_fillsRests_19 : decode cX12_fillsRests 19 = .ok (.iaload, 1) := by decide +kernel
theorem dX12_fillsRests_20 : decode cX12_fillsRests 20 = .ok (.istore 5, 2) := by decide +kernel
theorem dX12_fillsRests_22 : decode cX12_fillsRests 22 = .ok (.aload_n 0, 1) := by decide +kernel
theorem dX12_fillsRests_23 : decode cX12_fillsRests 23 = .ok (.invokevirtual 415, 3) := by decide +kernel
theorem dX12_fillsRests_26 : decode cX12_fillsRests 26 = .ok (.iconst 0, 1) := by decide +kernel
theorem dX12_fillsRests_27 : decode cX12_fillsRests 27 = .ok (.istore 6, 2) := by decide +kernel
theorem dX12_fillsRests_29 : decode cX12_fillsRests 29 = .ok (.iload 6, 2) := by decide +kernel
theorem dX12_fillsRests_31 : decode cX12_fillsRests 31 = .ok (.bipush 36, 2) := by decide +kernel
theorem dX12_fillsRests_33 : decode cX12_fillsRests 33 = .ok (.if_icmp .ge 18, 3) := by decide +kernel
theorem dX12_fillsRests_36 : decode cX12_fillsRests 36 = .ok (.aload_n 0, 1) := by decide +kernel
theorem dX12_fillsRests_37 : decode cX12_fillsRests 37 = .ok (.iload_n 1, 1) := by decide +kernel
theorem dX12_fillsRests_38 : decode cX12_fillsRests 38 = .ok (.iload_n 2, 1) := by decide +kernel
theorem dX12_fillsRests_39 : decode cX12_fillsRests 39 = .ok (.iload 6, 2) := by decide +kernel
theorem dX12_fillsRests_41 : decode cX12_fillsRests 41 = .ok (.iload_n 3, 1) := by decide +kernel
theorem dX12_fillsRests_42 : decode cX12_fillsRests 42 = .ok (.invokevirtual 435, 3) := by decide +kernel
theorem dX12_fillsRests_45 : decode cX12_fillsRests 45 = .ok (.iinc 6 1, 3) := by decide +kernel
theorem dX12_fillsRests_48 : decode cX12_fillsRests 48 = .ok (.goto (-19), 3) := by decide +kernel
theorem dX12_fillsRests_51 : decode cX12_fillsRests 51 = .ok (.aload_n 0, 1) := by decide +kernel
theorem dX12_fillsRests_52 : decode cX12_fillsRests 52 = .ok (.getfield 39, 3) := by decide +kernel
theorem dX12_fillsRests_55 : decode cX12_fillsRests 55 = .ok (.bipush 46, 2) := by decide +kernel
theorem dX12_fillsRests_57 : decode cX12_fillsRests 57 = .ok (.iload_n 1, 1) := by decide +kernel
theorem dX12_fillsRests_58 : decode cX12_fillsRests 58 = .ok (.iadd, 1) := by decide +kernel
theorem dX12_fillsRests_59 : decode cX12_fillsRests 59 = .ok (.iload 4, 2) := by decide +kernel
theorem dX12_fillsRests_61 : decode cX12_fillsRests 61 = .ok (.iastore, 1) := by decide +kernel
theorem dX12_fillsRests_62 : decode cX12_fillsRests 62 = .ok (.aload_n 0, 1) := by decide +kernel
theorem dX12_fillsRests_63 : decode cX12_fillsRests 63 = .ok (.getfield 39, 3) := by decide +kernel
theorem dX12_fillsRests_66 : decode cX12_fillsRests 66 = .ok (.bipush 46, 2) := by decide +kernel
theorem dX12_fillsRests_68 : decode cX12_fillsRests 68 = .ok (.iload_n 2, 1) := by decide +kernel
theorem dX12_fillsRests_69 : decode cX12_fillsRests 69 = .ok (.iadd, 1) := by decide +kernel
theorem dX12_fillsRests_70 : decode cX12_fillsRests 70 = .ok (.iload 5, 2) := by decide +kernel
theorem dX12_fillsRests_72 : decode cX12_fillsRests 72 = .ok (.iastore, 1) := by decide +kernel
theorem dX12_fillsRests_73 : decode cX12_fillsRests 73 = .ok (.return_, 1) := by decide +kernel
def m_fillsRests_L29 (N : Nat) (a1 : Int) (a2 : Int) (a3 : Int) (v2 : Int) (v4 : Int) (h29 : (Int × jMem) → Option (Int × jMem)) : Int × jMem → Option (Int × jMem)
  | (x6, M7) => (if x6 < 36 then jbv (m_fillsRest N a1 a2 x6 a3 M7) fun M12 => h29 ((w32 (x6 + 1)), M12) else jchk (0 ≤ (w32 (46 + a1)) ∧ (w32 (46 + a1)) < 112) <| jlt (up M7 10 ((w32 (46 + a1))) v2) fun M9 => jchk (0 ≤ (w32 (46 + a2)) ∧ (w32 (46 + a2)) < 112) <| jlt (up M9 10 ((w32 (46 + a2))) v4) fun M11 => some (0, M11))
def m_fillsRests (N : Nat) (a1 a2 a3 : Int) (M : jMem) : Option (Int × jMem) := jchk (0 ≤ (w32 (46 + a1)) ∧ (w32 (46 + a1)) < 112) <| jlt ((M 10 ((w32 (46 + a1))))) fun v2 => jchk (0 ≤ (w32 (46 + a2)) ∧ (w32 (46 + a2)) < 112) <| jlt ((M 10 ((w32 (46 + a2))))) fun v4 => jbv (m_keeps N M) fun M5 => jfix N (m_fillsRests_L29 N a1 a2 a3 v2 v4) (0, M5)
theorem c_m_fillsRests {l : Launch} {g : jG} (N : Nat) (a1 a2 a3 : Int) (M : jMem)  : ∀ o, m_fillsRests N a1 a2 a3 M = some o → jCt l g jTM yX12_fillsRests cX12_fillsRests 7 none 3 15 [(2, 0), (0, a1), (0, a2), (0, a3)] M o := by
  refine jMet (own := RX12) (em := id) (L := [(0, 2, 0), (1, 0, a1), (2, 0, a2), (3, 0, a3)]) (by decide +kernel) rfl (Nat.le_of_ble_eq_true rfl) rfl (fun K hR => ?_)
  unfold m_fillsRests
  refine z_aload_n (pc := 0) hR 0 dX12_fillsRests_0 rfl rfl ?_
  refine z_getr (pc := 1) hR (c0 := 10) (r := 10) jf_RX12_39 kmo_0 (by decide) rfl rfl dX12_fillsRests_1 ?_
  refine z_bipush (pc := 4) hR dX12_fillsRests_4 rfl ?_
  refine z_iload_n (pc := 6) hR 1 dX12_fillsRests_6 rfl rfl ?_
  refine z_iadd (pc := 7) hR dX12_fillsRests_7 ?_
  refine z_chk (fun hc1 => ?_)
  refine z_iald (pc := 8) hR (n := 112) kma_10 hc1.1 hc1.2 dX12_fillsRests_8 ?_
  refine z_let1 (fun v2 => ?_)
  refine z_istore (pc := 9) hR (lv' := [(4, 0, v2), (0, 2, 0), (1, 0, a1), (2, 0, a2), (3, 0, a3)]) dX12_fillsRests_9 (by decide) rfl ?_
  refine z_aload_n (pc := 11) hR 1 dX12_fillsRests_11 rfl rfl ?_
  refine z_getr (pc := 12) hR (c0 := 10) (r := 10) jf_RX12_39 kmo_0 (by decide) rfl rfl dX12_fillsRests_12 ?_
  refine z_bipush (pc := 15) hR dX12_fillsRests_15 rfl ?_
  refine z_iload_n (pc := 17) hR 3 dX12_fillsRests_17 rfl rfl ?_
  refine z_iadd (pc := 18) hR dX12_fillsRests_18 ?_
  refine z_chk (fun hc3 => ?_)
  refine z_iald (pc := 19) hR (n := 112) kma_10 hc3.1 hc3.2 dX12_fillsRests_19 ?_
  refine z_let1 (fun v4 => ?_)
  refine z_istore (pc := 20) hR (lv' := [(5, 0, v4), (4, 0, v2), (0, 2, 0), (1, 0, a1), (2, 0, a2), (3, 0, a3)]) dX12_fillsRests_20 (by decide) rfl ?_
  refine z_aload_n (pc := 22) hR 2 dX12_fillsRests_22 rfl rfl ?_
  refine z_callv0 (pc := 23) (rk' := 3) hR (As := []) (st := []) jm_X12_keeps jl_RX12_415 kmo_0 (by decide) rfl (c_m_keeps N M) rfl (by decide) (by decide) rfl (Nat.le_of_ble_eq_true rfl) dX12_fillsRests_23 (fun M5 => ?_)
  refine z_iconst (pc := 26) hR dX12_fillsRests_26 rfl ?_
  refine z_istore (pc := 27) hR (lv' := [(6, 0, 0), (5, 0, v4), (4, 0, v2), (0, 2, 0), (1, 0, a1), (2, 0, a2), (3, 0, a3)]) dX12_fillsRests_27 (by decide) rfl ?_
  refine z_pick (pc := 29) (lv' := [(0, 2, 0), (1, 0, a1), (2, 0, a2), (3, 0, a3), (4, 0, v2), (5, 0, v4), (6, 0, 0)]) hR [3, 4, 5, 6, 2, 1, 0] rfl ?_
  refine z_fix (σ := Int × jMem) (lv := fun s => [(0, 2, 0), (1, 0, a1), (2, 0, a2), (3, 0, a3), (4, 0, v2), (5, 0, v4), (6, 0, s.1)]) (st := fun _ => []) (M := fun s => s.2) (fun h29 hh29 => ?_) N (0, M5)
  rintro ⟨x6, M7⟩
  show jZ K id 29 [(0, 2, 0), (1, 0, a1), (2, 0, a2), (3, 0, a3), (4, 0, v2), (5, 0, v4), (6, 0, x6)] [] M7 _
  unfold m_fillsRests_L29
  refine z_iload (pc := 29) hR 6 dX12_fillsRests_29 rfl ?_
  refine z_bipush (pc := 31) hR dX12_fillsRests_31 rfl ?_
  refine z_icmpge (pc := 33) (tgt := 51) hR dX12_fillsRests_33 (by decide) ?_ ?_
  · refine z_aload_n (pc := 51) hR 0 dX12_fillsRests_51 rfl rfl ?_
    refine z_getr (pc := 52) hR (c0 := 10) (r := 10) jf_RX12_39 kmo_0 (by decide) rfl rfl dX12_fillsRests_52 ?_
    refine z_bipush (pc := 55) hR dX12_fillsRests_55 rfl ?_
    refine z_iload_n (pc := 57) hR 1 dX12_fillsRests_57 rfl rfl ?_
    refine z_iadd (pc := 58) hR dX12_fillsRests_58 ?_
    refine z_iload (pc := 59) hR 4 dX12_fillsRests_59 rfl ?_
    refine z_chk (fun hc8 => ?_)
    refine z_iast (pc := 61) hR (n := 112) kma_10 hc8.1 hc8.2 dX12_fillsRests_61 (fun M9 => ?_)
    refine z_aload_n (pc := 62) hR 0 dX12_fillsRests_62 rfl rfl ?_
    refine z_getr (pc := 63) hR (c0 := 10) (r := 10) jf_RX12_39 kmo_0 (by decide) rfl rfl dX12_fillsRests_63 ?_
    refine z_bipush (pc := 66) hR dX12_fillsRests_66 rfl ?_
    refine z_iload_n (pc := 68) hR 2 dX12_fillsRests_68 rfl rfl ?_
    refine z_iadd (pc := 69) hR dX12_fillsRests_69 ?_
    refine z_iload (pc := 70) hR 5 dX12_fillsRests_70 rfl ?_
    refine z_chk (fun hc10 => ?_)
    refine z_iast (pc := 72) hR (n := 112) kma_10 hc10.1 hc10.2 dX12_fillsRests_72 (fun M11 => ?_)
    exact z_return (x := 0) (pc := 73) hR rfl rfl dX12_fillsRests_73 rfl
  · refine z_aload_n (pc := 36) hR 0 dX12_fillsRests_36 rfl rfl ?_
    refine z_iload_n (pc := 37) hR 1 dX12_fillsRests_37 rfl rfl ?_
    refine z_iload_n (pc := 38) hR 2 dX12_fillsRests_38 rfl rfl ?_
    refine z_iload (pc := 39) hR 6 dX12_fillsRests_39 rfl ?_
    refine z_iload_n (pc := 41) hR 3 dX12_fillsRests_41 rfl rfl ?_
    refine z_callv0 (pc := 42) (rk' := 3) hR (As := [(0, a1), (0, a2), (0, x6), (0, a3)]) (st := []) jm_X12_fillsRest jl_RX12_435 kmo_0 (by decide) rfl (c_m_fillsRest N a1 a2 x6 a3 M7) rfl (by decide) (by decide) rfl (Nat.le_of_ble_eq_true rfl) dX12_fillsRests_42 (fun M12 => ?_)
    refine z_iinc (pc := 45) hR (j := 6) (lv' := [(6, 0, (w32 (x6 + 1))), (0, 2, 0), (1, 0, a1), (2, 0, a2), (3, 0, a3), (4, 0, v2), (5, 0, v4)]) dX12_fillsRests_45 rfl (by decide) rfl ?_
    refine z_goto (pc := 48) (tgt := 29) hR dX12_fillsRests_48 (by decide) ?_
    refine z_pick (pc := 29) (lv' := [(0, 2, 0), (1, 0, a1), (2, 0, a2), (3, 0, a3), (4, 0, v2), (5, 0, v4), (6, 0, (w32 (x6 + 1)))]) hR [1, 2, 3, 4, 5, 6, 0] rfl ?_
    exact hh29 ((w32 (x6 + 1)), M12)
theorem dX12_rests_0 : decode cX12_rests 0 = .ok (.aload_n 0, 1) := by decide +kernel
theorem dX12_rests_1 : decode cX12_rests 1 = .ok (.iload_n 1, 1) := by decide +kernel
theorem dX12_rests_2 : decode cX12_rests 2 = .ok (.invokevirtual 298, 3) := by decide +kernel
theorem dX12_rests_5 : decode cX12_rests 5 = .ok (.ifCond .eq 41, 3) := by decide +kernel
theorem dX12_rests_8 : decode cX12_rests 8 = .ok (.aload_n 0, 1) := by decide +kernel
theorem dX12_rests_9 : decode cX12_rests 9 = .ok (.iload_n 2, 1) := by decide +kernel
theorem dX12_rests_10 : decode cX12_rests 10 = .ok (.invokevirtual 298, 3) := by decide +kernel
theorem dX12_rests_13 : decode cX12_rests 13 = .ok (.ifCond .eq 33, 3) := by decide +kernel
theorem dX12_rests_16 : decode cX12_rests 16 = .ok (.iload_n 1, 1) := by decide +kernel
theorem dX12_rests_17 : decode cX12_rests 17 = .ok (.iload_n 2, 1) := by decide +kernel
theorem dX12_rests_18 : decode cX12_rests 18 = .ok (.if_icmp .eq 28, 3) := by decide +kernel
theorem dX12_rests_21 : decode cX12_rests 21 = .ok (.iload_n 3, 1) := by decide +kernel
theorem dX12_rests_22 : decode cX12_rests 22 = .ok (.i2l, 1) := by decide +kernel
theorem dX12_rests_23 : decode cX12_rests 23 = .ok (.lconst 1, 1) := by decide +kernel
theorem dX12_rests_24 : decode cX12_rests 24 = .ok (.ldc2_w 439, 3) := by decide +kernel
theorem dX12_rests_27 : decode cX12_rests 27 = .ok (.invokestatic 127, 3) := by decide +kernel
theorem dX12_rests_30 : decode cX12_rests 30 = .ok (.ifCond .eq 16, 3) := by decide +kernel
theorem dX12_rests_33 : decode cX12_rests 33 = .ok (.iload 4, 2) := by decide +kernel
theorem dX12_rests_35 : decode cX12_rests 35 = .ok (.i2l, 1) := by decide +kernel
theorem dX12_rests_36 : decode cX12_rests 36 = .ok (.lconst 0, 1) := by decide +kernel
theorem dX12_rests_37 : decode cX12_rests 37 = .ok (.ldc2_w 413, 3) := by decide +kernel
theorem dX12_rests_40 : decode cX12_rests 40 = .ok (.invokestatic 127, 3) := by decide +kernel
theorem dX12_rests_43 : decode cX12_rests 43 = .ok (.ifCond .ne 5, 3) := by decide +kernel
theorem dX12_rests_46 : decode cX12_rests 46 = .ok (.iconst (-1), 1) := by decide +kernel
theorem dX12_rests_47 : decode cX12_rests 47 = .ok (.ireturn, 1) := by decide +kernel
theorem dX12_rests_48 : decode cX12_rests 48 = .ok (.aload_n 0, 1) := by decide +kernel
theorem dX12_rests_49 : decode cX12_rests 49 = .ok (.iload_n 1, 1) := by decide +kernel
theorem dX12_rests_50 : decode cX12_rests 50 = .ok (.iload_n 2, 1) := by decide +kernel
theorem dX12_rests_51 : decode cX12_rests 51 = .ok (.iload_n 3, 1) := by decide +kernel
theorem dX12_rests_52 : decode cX12_rests 52 = .ok (.invokevirtual 441, 3) := by decide +kernel
theorem dX12_rests_55 : decode cX12_rests 55 = .ok (.iconst 0, 1) := by decide +kernel
theorem dX12_rests_56 : decode cX12_rests 56 = .ok (.istore 5, 2) := by decide +kernel
theorem dX12_rests_58 : decode cX12_rests 58 = .ok (.iconst (-1), 1) := by decide +kernel
theorem dX12_rests_59 : decode cX12_rests 59 = .ok (.istore 6, 2) := by decide +kernel
theorem dX12_rests_61 : decode cX12_rests 61 = .ok (.bipush 35, 2) := by decide +kernel
theorem dX12_rests_63 : decode cX12_rests 63 = .ok (.istore 7, 2) := by decide +kernel
theorem dX12_rests_65 : decode cX12_rests 65 = .ok (.iload 7, 2) := by decide +kernel
theorem dX12_rests_67 : decode cX12_rests 67 = .ok (.ifCond .lt 36, 3) := by decide +kernel
theorem dX12_rests_70 : decode cX12_rests 70 = .ok (.aload_n 0, 1) := by decide +kernel
theorem dX12_rests_71 : decode cX12_rests 71 = .ok (.iload 7, 2) := by decide +kernel
theorem dX12_rests_73 : decode cX12_rests 73 = .ok (.bipush 6, 2) := by decide +kernel
theorem dX12_rests_75 : decode cX12_rests 75 = .ok (.idiv, 1) := by decide +kernel
theorem dX12_rests_76 : decode cX12_rests 76 = .ok (.iload 7, 2) := by decide +kernel
theorem dX12_rests_78 : decode cX12_rests 78 = .ok (.bipush 6, 2) := by decide +kernel
theorem dX12_rests_80 : decode cX12_rests 80 = .ok (.irem, 1) := by decide +kernel
theorem dX12_rests_81 : decode cX12_rests 81 = .ok (.invokevirtual 445, 3) := by decide +kernel
theorem dX12_rests_84 : decode cX12_rests 84 = .ok (.ifCond .ne 6, 3) := by decide +kernel
theorem dX12_rests_87 : decode cX12_rests 87 = .ok (.goto 10, 3) := by decide +kernel
theorem dX12_rests_90 : decode cX12_rests 90 = .ok (.iload 7, 2) := by decide +kernel
theorem dX12_rests_92 : decode cX12_rests 92 = .ok (.istore 6, 2) := by decide +kernel
theorem dX12_rests_94 : decode cX12_rests 94 = .ok (.iinc 5 1, 3) := by decide +kernel
theorem dX12_rests_97 : decode cX12_rests 97 = .ok (.iinc 7 (-1), 3) := by decide +kernel
theorem dX12_rests_100 : decode cX12_rests 100 = .ok (.goto (-35), 3) := by decide +kernel
theorem dX12_rests_103 : decode cX12_rests 103 = .ok (.iload 4, 2) := by decide +kernel
theorem dX12_rests_105 : decode cX12_rests 105 = .ok (.ifCond .ne 6, 3) := by decide +kernel
theorem dX12_rests_108 : decode cX12_rests 108 = .ok (.iload 5, 2) := by decide +kernel
theorem dX12_rests_110 : decode cX12_rests 110 = .ok (.ireturn, 1) := by decide +kernel
theorem dX12_rests_111 : decode cX12_rests 111 = .ok (.iload 6, 2) := by decide +kernel
theorem dX12_rests_113 : decode cX12_rests 113 = .ok (.ifCond .ge 8, 3) := by decide +kernel
theorem dX12_rests_116 : decode cX12_rests 116 = .ok (.bipush (-2), 2) := by decide +kernel
theorem dX12_rests_118 : decode cX12_rests 118 = .ok (.goto 22, 3) := by decide +kernel
theorem dX12_rests_121 : decode cX12_rests 121 = .ok (.iload 4, 2) := by decide +kernel
theorem dX12_rests_123 : decode cX12_rests 123 = .ok (.iconst 1, 1) := by decide +kernel
theorem dX12_rests_124 : decode cX12_rests 124 = .ok (.if_icmp .ne 11, 3) := by decide +kernel
theorem dX12_rests_127 : decode cX12_rests 127 = .ok (.iload 6, 2) := by decide +kernel
theorem dX12_rests_129 : decode cX12_rests 129 = .ok (.bipush 6, 2) := by decide +kernel
theorem dX12_rests_131 : decode cX12_rests 131 = .ok (.idiv, 1) := by decide +kernel
theorem dX12_rests_132 : decode cX12_rests 132 = .ok (.goto 8, 3) := by decide +kernel
theorem dX12_rests_135 : decode cX12_rests 135 = .ok (.iload 6, 2) := by decide +kernel
theorem dX12_rests_137 : decode cX12_rests 137 = .ok (.bipush 6, 2) := by decide +kernel
theorem dX12_rests_139 : decode cX12_rests 139 = .ok (.irem, 1) := by decide +kernel
theorem dX12_rests_140 : decode cX12_rests 140 = .ok (.ireturn, 1) := by decide +kernel
def m_rests_L65 (N : Nat) (a4 : Int) (M5 : jMem) (h65 : (Int × Int × Int) → Option (Int × jMem)) : Int × Int × Int → Option (Int × jMem)
  | (x6, x7, x8) => (if x8 < 0 then (if a4 = 0 then some (x6, M5) else (if x7 < 0 then some ((-2), M5) else (if a4 = 1 then some ((w32 (x7.tdiv 6)), M5) else some ((x7.tmod 6), M5)))) else (m_isRest N ((w32 (x8.tdiv 6))) ((x8.tmod 6)) M5).bind fun r9 => (if r9 = 0 then h65 (x6, x7, (w32 (x8 + (-1)))) else h65 ((w32 (x6 + 1)), x8, (w32 (x8 + (-1))))))
def m_rests (N : Nat) (a1 a2 a3 a4 : Int) (M : jMem) : Option (Int × jMem) := (m_isOne N a1 M).bind fun r1 => (if r1 = 0 then some ((-1), M) else (m_isOne N a2 M).bind fun r2 => (if r2 = 0 then some ((-1), M) else (if a1 = a2 then some ((-1), M) else (m_in N a3 1 20 M).bind fun r3 => (if r3 = 0 then some ((-1), M) else (m_in N a4 0 2 M).bind fun r4 => (if r4 = 0 then some ((-1), M) else jbv (m_fillsRests N a1 a2 a3 M) fun M5 => jfix N (m_rests_L65 N a4 M5) (0, (-1), 35))))))
theorem c_m_rests {l : Launch} {g : jG} (N : Nat) (a1 a2 a3 a4 : Int) (M : jMem)  : ∀ o, m_rests N a1 a2 a3 a4 M = some o → jCt l g jTM yX12_rests cX12_rests 8 (some .int) 0 17 [(2, 0), (0, a1), (0, a2), (0, a3), (0, a4)] M o := by
  refine jMet (own := RX12) (em := id) (L := [(0, 2, 0), (1, 0, a1), (2, 0, a2), (3, 0, a3), (4, 0, a4)]) (by decide +kernel) rfl (Nat.le_of_ble_eq_true rfl) rfl (fun K hR => ?_)
  unfold m_rests
  refine z_aload_n (pc := 0) hR 0 dX12_rests_0 rfl rfl ?_
  refine z_iload_n (pc := 1) hR 1 dX12_rests_1 rfl rfl ?_
  refine z_callvp (pc := 2) hR (As := [(0, a1)]) (st := []) jm_X12_isOne jl_RX12_298 kmo_0 (by decide) rfl (by decide) (c_m_isOne N a1 M) rfl (by decide) (by decide) rfl (Nat.le_of_ble_eq_true rfl) dX12_rests_2 (fun r1 => ?_)
  refine z_ifeq (pc := 5) (tgt := 46) hR dX12_rests_5 (by decide) ?_ ?_
  · refine z_iconst (pc := 46) hR dX12_rests_46 rfl ?_
    exact z_ireturn (pc := 47) hR rfl rfl dX12_rests_47 rfl
  · refine z_aload_n (pc := 8) hR 0 dX12_rests_8 rfl rfl ?_
    refine z_iload_n (pc := 9) hR 2 dX12_rests_9 rfl rfl ?_
    refine z_callvp (pc := 10) hR (As := [(0, a2)]) (st := []) jm_X12_isOne jl_RX12_298 kmo_0 (by decide) rfl (by decide) (c_m_isOne N a2 M) rfl (by decide) (by decide) rfl (Nat.le_of_ble_eq_true rfl) dX12_rests_10 (fun r2 => ?_)
    refine z_ifeq (pc := 13) (tgt := 46) hR dX12_rests_13 (by decide) ?_ ?_
    · refine z_iconst (pc := 46) hR dX12_rests_46 rfl ?_
      exact z_ireturn (pc := 47) hR rfl rfl dX12_rests_47 rfl
    · refine z_iload_n (pc := 16) hR 1 dX12_rests_16 rfl rfl ?_
      refine z_iload_n (pc := 17) hR 2 dX12_rests_17 rfl rfl ?_
      refine z_icmpeq (pc := 18) (tgt := 46) hR dX12_rests_18 (by decide) ?_ ?_
      · refine z_iconst (pc := 46) hR dX12_rests_46 rfl ?_
        exact z_ireturn (pc := 47) hR rfl rfl dX12_rests_47 rfl
      · refine z_iload_n (pc := 21) hR 3 dX12_rests_21 rfl rfl ?_
        refine z_i2l (pc := 22) hR dX12_rests_22 ?_
        refine z_lconst (pc := 23) hR (x := 1) dX12_rests_23 rfl ?_
        refine z_ldc2 (pc := 24) hR (n := 20) jc_RX12_439 (by decide) rfl dX12_rests_24 ?_
        refine z_callsp (pc := 27) hR (As := [(1, a3), (1, 1), (1, 20)]) (st := []) jm_X12_in jl_RX12_127 (by decide) (c_m_in N a3 1 20 M) rfl (by decide) (by decide) rfl (Nat.le_of_ble_eq_true rfl) dX12_rests_27 (fun r3 => ?_)
        refine z_ifeq (pc := 30) (tgt := 46) hR dX12_rests_30 (by decide) ?_ ?_
        · refine z_iconst (pc := 46) hR dX12_rests_46 rfl ?_
          exact z_ireturn (pc := 47) hR rfl rfl dX12_rests_47 rfl
        · refine z_iload (pc := 33) hR 4 dX12_rests_33 rfl ?_
          refine z_i2l (pc := 35) hR dX12_rests_35 ?_
          refine z_lconst (pc := 36) hR (x := 0) dX12_rests_36 rfl ?_
          refine z_ldc2 (pc := 37) hR (n := 2) jc_RX12_413 (by decide) rfl dX12_rests_37 ?_
          refine z_callsp (pc := 40) hR (As := [(1, a4), (1, 0), (1, 2)]) (st := []) jm_X12_in jl_RX12_127 (by decide) (c_m_in N a4 0 2 M) rfl (by decide) (by decide) rfl (Nat.le_of_ble_eq_true rfl) dX12_rests_40 (fun r4 => ?_)
          refine z_ifne (pc := 43) (tgt := 48) hR dX12_rests_43 (by decide) ?_ ?_
          · refine z_aload_n (pc := 48) hR 0 dX12_rests_48 rfl rfl ?_
            refine z_iload_n (pc := 49) hR 1 dX12_rests_49 rfl rfl ?_
            refine z_iload_n (pc := 50) hR 2 dX12_rests_50 rfl rfl ?_
            refine z_iload_n (pc := 51) hR 3 dX12_rests_51 rfl rfl ?_
            refine z_callv0 (pc := 52) (rk' := 3) hR (As := [(0, a1), (0, a2), (0, a3)]) (st := []) jm_X12_fillsRests jl_RX12_441 kmo_0 (by decide) rfl (c_m_fillsRests N a1 a2 a3 M) rfl (by decide) (by decide) rfl (Nat.le_of_ble_eq_true rfl) dX12_rests_52 (fun M5 => ?_)
            refine z_iconst (pc := 55) hR dX12_rests_55 rfl ?_
            refine z_istore (pc := 56) hR (lv' := [(5, 0, 0), (0, 2, 0), (1, 0, a1), (2, 0, a2), (3, 0, a3), (4, 0, a4)]) dX12_rests_56 (by decide) rfl ?_
            refine z_iconst (pc := 58) hR dX12_rests_58 rfl ?_
            refine z_istore (pc := 59) hR (lv' := [(6, 0, (-1)), (5, 0, 0), (0, 2, 0), (1, 0, a1), (2, 0, a2), (3, 0, a3), (4, 0, a4)]) dX12_rests_59 (by decide) rfl ?_
            refine z_bipush (pc := 61) hR dX12_rests_61 rfl ?_
            refine z_istore (pc := 63) hR (lv' := [(7, 0, 35), (6, 0, (-1)), (5, 0, 0), (0, 2, 0), (1, 0, a1), (2, 0, a2), (3, 0, a3), (4, 0, a4)]) dX12_rests_63 (by decide) rfl ?_
            refine z_pick (pc := 65) (lv' := [(0, 2, 0), (4, 0, a4), (5, 0, 0), (6, 0, (-1)), (7, 0, 35)]) hR [3, 7, 2, 1, 0] rfl ?_
            refine z_fix (σ := Int × Int × Int) (lv := fun s => [(0, 2, 0), (4, 0, a4), (5, 0, s.1), (6, 0, s.2.1), (7, 0, s.2.2)]) (st := fun _ => []) (M := fun _ => M5) (fun h65 hh65 => ?_) N (0, (-1), 35)
            rintro ⟨x6, x7, x8⟩
            show jZ K id 65 [(0, 2, 0), (4, 0, a4), (5, 0, x6), (6, 0, x7), (7, 0, x8)] [] M5 _
            unfold m_rests_L65
            refine z_iload (pc := 65) hR 4 dX12_rests_65 rfl ?_
            refine z_iflt (pc := 67) (tgt := 103) hR dX12_rests_67 (by decide) ?_ ?_
            · refine z_iload (pc := 103) hR 1 dX12_rests_103 rfl ?_
              refine z_ifne (pc := 105) (tgt := 111) hR dX12_rests_105 (by decide) ?_ ?_
              · refine z_iload (pc := 111) hR 3 dX12_rests_111 rfl ?_
                refine z_ifge (pc := 113) (tgt := 121) hR dX12_rests_113 (by decide) ?_ ?_
                · refine z_iload (pc := 121) hR 1 dX12_rests_121 rfl ?_
                  refine z_iconst (pc := 123) hR dX12_rests_123 rfl ?_
                  refine z_icmpne (pc := 124) (tgt := 135) hR dX12_rests_124 (by decide) ?_ ?_
                  · refine z_iload (pc := 135) hR 3 dX12_rests_135 rfl ?_
                    refine z_bipush (pc := 137) hR dX12_rests_137 rfl ?_
                    refine z_irem (pc := 139) hR dX12_rests_139 (by decide) ?_
                    exact z_ireturn (pc := 140) hR rfl rfl dX12_rests_140 rfl
                  · refine z_iload (pc := 127) hR 3 dX12_rests_127 rfl ?_
                    refine z_bipush (pc := 129) hR dX12_rests_129 rfl ?_
                    refine z_idiv (pc := 131) hR dX12_rests_131 (by decide) ?_
                    refine z_goto (pc := 132) (tgt := 140) hR dX12_rests_132 (by decide) ?_
                    exact z_ireturn (pc := 140) hR rfl rfl dX12_rests_140 rfl
                · refine z_bipush (pc := 116) hR dX12_rests_116 rfl ?_
                  refine z_goto (pc := 118) (tgt := 140) hR dX12_rests_118 (by decide) ?_
                  exact z_ireturn (pc := 140) hR rfl rfl dX12_rests_140 rfl
              · refine z_iload (pc := 108) hR 2 dX12_rests_108 rfl ?_
                exact z_ireturn (pc := 110) hR rfl rfl dX12_rests_110 rfl
            · refine z_aload_n (pc := 70) hR 0 dX12_rests_70 rfl rfl ?_
              refine z_iload (pc := 71) hR 4 dX12_rests_71 rfl ?_
              refine z_bipush (pc := 73) hR dX12_rests_73 rfl ?_
              refine z_idiv (pc := 75) hR dX12_rests_75 (by decide) ?_
              refine z_iload (pc := 76) hR 4 dX12_rests_76 rfl ?_
              refine z_bipush (pc := 78) hR dX12_rests_78 rfl ?_
              refine z_irem (pc := 80) hR dX12_rests_80 (by decide) ?_
              refine z_callvp (pc := 81) hR (As := [(0, (w32 (x8.tdiv 6))), (0, (x8.tmod 6))]) (st := []) jm_X12_isRest jl_RX12_445 kmo_0 (by decide) rfl (by decide) (c_m_isRest N ((w32 (x8.tdiv 6))) ((x8.tmod 6)) M5) rfl (by decide) (by decide) rfl (Nat.le_of_ble_eq_true rfl) dX12_rests_81 (fun r9 => ?_)
              refine z_ifne (pc := 84) (tgt := 90) hR dX12_rests_84 (by decide) ?_ ?_
              · refine z_iload (pc := 90) hR 4 dX12_rests_90 rfl ?_
                refine z_istore (pc := 92) hR (lv' := [(6, 0, x8), (0, 2, 0), (4, 0, a4), (5, 0, x6), (7, 0, x8)]) dX12_rests_92 (by decide) rfl ?_
                refine z_iinc (pc := 94) hR (j := 3) (lv' := [(5, 0, (w32 (x6 + 1))), (6, 0, x8), (0, 2, 0), (4, 0, a4), (7, 0, x8)]) dX12_rests_94 rfl (by decide) rfl ?_
                refine z_iinc (pc := 97) hR (j := 4) (lv' := [(7, 0, (w32 (x8 + (-1)))), (5, 0, (w32 (x6 + 1))), (6, 0, x8), (0, 2, 0), (4, 0, a4)]) dX12_rests_97 rfl (by decide) rfl ?_
                refine z_goto (pc := 100) (tgt := 65) hR dX12_rests_100 (by decide) ?_
                refine z_pick (pc := 65) (lv' := [(0, 2, 0), (4, 0, a4), (5, 0, (w32 (x6 + 1))), (6, 0, x8), (7, 0, (w32 (x8 + (-1))))]) hR [3, 4, 1, 2, 0] rfl ?_
                exact hh65 ((w32 (x6 + 1)), x8, (w32 (x8 + (-1))))
              · refine z_goto (pc := 87) (tgt := 97) hR dX12_rests_87 (by decide) ?_
                refine z_iinc (pc := 97) hR (j := 4) (lv' := [(7, 0, (w32 (x8 + (-1)))), (0, 2, 0), (4, 0, a4), (5, 0, x6), (6, 0, x7)]) dX12_rests_97 rfl (by decide) rfl ?_
                refine z_goto (pc := 100) (tgt := 65) hR dX12_rests_100 (by decide) ?_
                refine z_pick (pc := 65) (lv' := [(0, 2, 0), (4, 0, a4), (5, 0, x6), (6, 0, x7), (7, 0, (w32 (x8 + (-1))))]) hR [1, 2, 3, 4, 0] rfl ?_
                exact hh65 (x6, x7, (w32 (x8 + (-1))))
          · refine z_iconst (pc := 46) hR dX12_rests_46 rfl ?_
            exact z_ireturn (pc := 47) hR rfl rfl dX12_rests_47 rfl
theorem dX12_waterOf_0 : decode cX12_waterOf 0 = .ok (.aload_n 0, 1) := by decide +kernel
theorem dX12_waterOf_1 : decode cX12_waterOf 1 = .ok (.getfield 39, 3) := by decide +kernel
theorem dX12_waterOf_4 : decode cX12_waterOf 4 = .ok (.bipush 25, 2) := by decide +kernel
theorem dX12_waterOf_6 : decode cX12_waterOf 6 = .ok (.aload_n 0, 1) := by decide +kernel
theorem dX12_waterOf_7 : decode cX12_waterOf 7 = .ok (.getfield 39, 3) := by decide +kernel
theorem dX12_waterOf_10 : decode cX12_waterOf 10 = .ok (.bipush 32, 2) := by decide +kernel
theorem dX12_waterOf_12 : decode cX12_waterOf 12 = .ok (.iload_n 1, 1) := by decide +kernel
theorem dX12_waterOf_13 : decode cX12_waterOf 13 = .ok (.iadd, 1) := by decide +kernel
theorem dX12_waterOf_14 : decode cX12_waterOf 14 = .ok (.iaload, 1) := by decide +kernel
theorem dX12_waterOf_15 : decode cX12_waterOf 15 = .ok (.iadd, 1) := by decide +kernel
theorem dX12_waterOf_16 : decode cX12_waterOf 16 = .ok (.iaload, 1) := by decide +kernel
theorem dX12_waterOf_17 : decode cX12_waterOf 17 = .ok (.ireturn, 1) := by decide +kernel
def m_waterOf (N : Nat) (a1 : Int) (M : jMem) : Option Int := jchk (0 ≤ (w32 (32 + a1)) ∧ (w32 (32 + a1)) < 112) <| jchk (0 ≤ (w32 (25 + ((M 10 ((w32 (32 + a1))))))) ∧ (w32 (25 + ((M 10 ((w32 (32 + a1))))))) < 112) <| some ((M 10 ((w32 (25 + ((M 10 ((w32 (32 + a1))))))))))
theorem c_m_waterOf {l : Launch} {g : jG} (N : Nat) (a1 : Int) (M : jMem)  : ∀ o, m_waterOf N a1 M = some o → jCt l g jTM yX12_waterOf cX12_waterOf 2 (some .int) 0 1 [(2, 0), (0, a1)] M (o, M) := by
  refine jMet (own := RX12) (em := (fun r => (r, M))) (L := [(0, 2, 0), (1, 0, a1)]) (by decide +kernel) rfl (Nat.le_of_ble_eq_true rfl) rfl (fun K hR => ?_)
  unfold m_waterOf
  refine z_aload_n (pc := 0) hR 0 dX12_waterOf_0 rfl rfl ?_
  refine z_getr (pc := 1) hR (c0 := 10) (r := 10) jf_RX12_39 kmo_0 (by decide) rfl rfl dX12_waterOf_1 ?_
  refine z_bipush (pc := 4) hR dX12_waterOf_4 rfl ?_
  refine z_aload_n (pc := 6) hR 0 dX12_waterOf_6 rfl rfl ?_
  refine z_getr (pc := 7) hR (c0 := 10) (r := 10) jf_RX12_39 kmo_0 (by decide) rfl rfl dX12_waterOf_7 ?_
  refine z_bipush (pc := 10) hR dX12_waterOf_10 rfl ?_
  refine z_iload_n (pc := 12) hR 1 dX12_waterOf_12 rfl rfl ?_
  refine z_iadd (pc := 13) hR dX12_waterOf_13 ?_
  refine z_chk (fun hc1 => ?_)
  refine z_iald (pc := 14) hR (n := 112) kma_10 hc1.1 hc1.2 dX12_waterOf_14 ?_
  refine z_iadd (pc := 15) hR dX12_waterOf_15 ?_
  refine z_chk (fun hc2 => ?_)
  refine z_iald (pc := 16) hR (n := 112) kma_10 hc2.1 hc2.2 dX12_waterOf_16 ?_
  exact z_ireturn (pc := 17) hR rfl rfl dX12_waterOf_17 rfl
theorem dX12_pence_0 : decode cX12_pence 0 = .ok (.aload_n 0, 1) := by decide +kernel
theorem dX12_pence_1 : decode cX12_pence 1 = .ok (.iload_n 2, 1) := by decide +kernel
theorem dX12_pence_2 : decode cX12_pence 2 = .ok (.invokevirtual 298, 3) := by decide +kernel
theorem dX12_pence_5 : decode cX12_pence 5 = .ok (.ifCond .eq 15, 3) := by decide +kernel
theorem dX12_pence_8 : decode cX12_pence 8 = .ok (.iload_n 1, 1) := by decide +kernel
theorem dX12_pence_9 : decode cX12_pence 9 = .ok (.i2l, 1) := by decide +kernel
theorem dX12_pence_10 : decode cX12_pence 10 = .ok (.lconst 0, 1) := by decide +kernel
theorem dX12_pence_11 : decode cX12_pence 11 = .ok (.ldc2_w 448, 3) := by decide +kernel
theorem dX12_pence_14 : decode cX12_pence 14 = .ok (.invokestatic 127, 3) := by decide +kernel
theorem dX12_pence_17 : decode cX12_pence 17 = .ok (.ifCond .ne 5, 3) := by decide +kernel
theorem dX12_pence_20 : decode cX12_pence 20 = .ok (.iconst (-1), 1) := by decide +kernel
theorem dX12_pence_21 : decode cX12_pence 21 = .ok (.ireturn, 1) := by decide +kernel
theorem dX12_pence_22 : decode cX12_pence 22 = .ok (.aload_n 0, 1) := by decide +kernel
theorem dX12_pence_23 : decode cX12_pence 23 = .ok (.bipush 25, 2) := by decide +kernel
theorem dX12_pence_25 : decode cX12_pence 25 = .ok (.invokevirtual 421, 3) := by decide +kernel
theorem dX12_pence_28 : decode cX12_pence 28 = .ok (.istore_n 3, 1) := by decide +kernel
theorem dX12_pence_29 : decode cX12_pence 29 = .ok (.iload_n 3, 1) := by decide +kernel
theorem dX12_pence_30 : decode cX12_pence 30 = .ok (.ifCond .ne 5, 3) := by decide +kernel
theorem dX12_pence_33 : decode cX12_pence 33 = .ok (.iconst 0, 1) := by decide +kernel
theorem dX12_pence_34 : decode cX12_pence 34 = .ok (.ireturn, 1) := by decide +kernel
theorem dX12_pence_35 : decode cX12_pence 35 = .ok (.iload_n 1, 1) := by decide +kernel
theorem dX12_pence_36 : decode cX12_pence 36 = .ok (.aload_n 0, 1) := by decide +kernel
theorem dX12_pence_37 : decode cX12_pence 37 = .ok (.iload_n 2, 1) := by decide +kernel
theorem dX12_pence_38 : decode cX12_pence 38 = .ok (.invokevirtual 450, 3) := by decide +kernel
theorem dX12_pence_41 : decode cX12_pence 41 = .ok (.imul, 1) := by decide +kernel
theorem dX12_pence_42 : decode cX12_pence 42 = .ok (.istore 4, 2) := by decide +kernel
theorem dX12_pence_44 : decode cX12_pence 44 = .ok (.iload_n 1, 1) := by decide +kernel
theorem dX12_pence_45 : decode cX12_pence 45 = .ok (.istore 5, 2) := by decide +kernel
theorem dX12_pence_47 : decode cX12_pence 47 = .ok (.iconst 0, 1) := by decide +kernel
theorem dX12_pence_48 : decode cX12_pence 48 = .ok (.istore 6, 2) := by decide +kernel
theorem dX12_pence_50 : decode cX12_pence 50 = .ok (.iconst 0, 1) := by decide +kernel
theorem dX12_pence_51 : decode cX12_pence 51 = .ok (.istore 7, 2) := by decide +kernel
theorem dX12_pence_53 : decode cX12_pence 53 = .ok (.iload 7, 2) := by decide +kernel
theorem dX12_pence_55 : decode cX12_pence 55 = .ok (.aload_n 0, 1) := by decide +kernel
theorem dX12_pence_56 : decode cX12_pence 56 = .ok (.getfield 39, 3) := by decide +kernel
theorem dX12_pence_59 : decode cX12_pence 59 = .ok (.iconst 1, 1) := by decide +kernel
theorem dX12_pence_60 : decode cX12_pence 60 = .ok (.iaload, 1) := by decide +kernel
theorem dX12_pence_61 : decode cX12_pence 61 = .ok (.if_icmp .ge 66, 3) := by decide +kernel
theorem dX12_pence_64 : decode cX12_pence 64 = .ok (.iload_n 1, 1) := by decide +kernel
theorem dX12_pence_65 : decode cX12_pence 65 = .ok (.aload_n 0, 1) := by decide +kernel
theorem dX12_pence_66 : decode cX12_pence 66 = .ok (.iload 7, 2) := by decide +kernel
theorem dX12_pence_68 : decode cX12_pence 68 = .ok (.invokevirtual 450, 3) := by decide +kernel
theorem dX12_pence_71 : decode cX12_pence 71 = .ok (.imul, 1) := by decide +kernel
theorem dX12_pence_72 : decode cX12_pence 72 = .ok (.istore 8, 2) := by decide +kernel
theorem dX12_pence_74 : decode cX12_pence 74 = .ok (.iload 5, 2) := by decide +kernel
theorem dX12_pence_76 : decode cX12_pence 76 = .ok (.iload 8, 2) := by decide +kernel
theorem dX12_pence_78 : decode cX12_pence 78 = .ok (.iload_n 3, 1) := by decide +kernel
theorem dX12_pence_79 : decode cX12_pence 79 = .ok (.idiv, 1) := by decide +kernel
theorem dX12_pence_80 : decode cX12_pence 80 = .ok (.isub, 1) := by decide +kernel
theorem dX12_pence_81 : decode cX12_pence 81 = .ok (.istore 5, 2) := by decide +kernel
theorem dX12_pence_83 : decode cX12_pence 83 = .ok (.iload 6, 2) := by decide +kernel
theorem dX12_pence_85 : decode cX12_pence 85 = .ok (.iload 8, 2) := by decide +kernel
theorem dX12_pence_87 : decode cX12_pence 87 = .ok (.iload_n 3, 1) := by decide +kernel
theorem dX12_pence_88 : decode cX12_pence 88 = .ok (.irem, 1) := by decide +kernel
theorem dX12_pence_89 : decode cX12_pence 89 = .ok (.iload 4, 2) := by decide +kernel
theorem dX12_pence_91 : decode cX12_pence 91 = .ok (.iload_n 3, 1) := by decide +kernel
theorem dX12_pence_92 : decode cX12_pence 92 = .ok (.irem, 1) := by decide +kernel
theorem dX12_pence_93 : decode cX12_pence 93 = .ok (.if_icmp .gt 20, 3) := by decide +kernel
theorem dX12_pence_96 : decode cX12_pence 96 = .ok (.iload 8, 2) := by decide +kernel
theorem dX12_pence_98 : decode cX12_pence 98 = .ok (.iload_n 3, 1) := by decide +kernel
theorem dX12_pence_99 : decode cX12_pence 99 = .ok (.irem, 1) := by decide +kernel
theorem dX12_pence_100 : decode cX12_pence 100 = .ok (.iload 4, 2) := by decide +kernel
theorem dX12_pence_102 : decode cX12_pence 102 = .ok (.iload_n 3, 1) := by decide +kernel
theorem dX12_pence_103 : decode cX12_pence 103 = .ok (.irem, 1) := by decide +kernel
theorem dX12_pence_104 : decode cX12_pence 104 = .ok (.if_icmp .ne 13, 3) := by decide +kernel
theorem dX12_pence_107 : decode cX12_pence 107 = .ok (.iload 7, 2) := by decide +kernel
theorem dX12_pence_109 : decode cX12_pence 109 = .ok (.iload_n 2, 1) := by decide +kernel
theorem dX12_pence_110 : decode cX12_pence 110 = .ok (.if_icmp .ge 7, 3) := by decide +kernel
theorem dX12_pence_113 : decode cX12_pence 113 = .ok (.iconst 1, 1) := by decide +kernel
theorem dX12_pence_114 : decode cX12_pence 114 = .ok (.goto 4, 3) := by decide +kernel
theorem dX12_pence_117 : decode cX12_pence 117 = .ok (.iconst 0, 1) := by decide +kernel
theorem dX12_pence_118 : decode cX12_pence 118 = .ok (.iadd, 1) := by decide +kernel
theorem dX12_pence_119 : decode cX12_pence 119 = .ok (.istore 6, 2) := by decide +kernel
theorem dX12_pence_121 : decode cX12_pence 121 = .ok (.iinc 7 1, 3) := by decide +kernel
theorem dX12_pence_124 : decode cX12_pence 124 = .ok (.goto (-71), 3) := by decide +kernel
theorem dX12_pence_127 : decode cX12_pence 127 = .ok (.iload 4, 2) := by decide +kernel
theorem dX12_pence_129 : decode cX12_pence 129 = .ok (.iload_n 3, 1) := by decide +kernel
theorem dX12_pence_130 : decode cX12_pence 130 = .ok (.idiv, 1) := by decide +kernel
theorem dX12_pence_131 : decode cX12_pence 131 = .ok (.iload 6, 2) := by decide +kernel
theorem dX12_pence_133 : decode cX12_pence 133 = .ok (.iload 5, 2) := by decide +kernel
theorem dX12_pence_135 : decode cX12_pence 135 = .ok (.if_icmp .ge 7, 3) := by decide +kernel
theorem dX12_pence_138 : decode cX12_pence 138 = .ok (.iconst 1, 1) := by decide +kernel
theorem dX12_pence_139 : decode cX12_pence 139 = .ok (.goto 4, 3) := by decide +kernel
theorem dX12_pence_142 : decode cX12_pence 142 = .ok (.iconst 0, 1) := by decide +kernel
theorem dX12_pence_143 : decode cX12_pence 143 = .ok (.iadd, 1) := by decide +kernel
theorem dX12_pence_144 : decode cX12_pence 144 = .ok (.ireturn, 1) := by decide +kernel
def m_pence_L53 (N : Nat) (a1 : Int) (a2 : Int) (M : jMem) (r3 : Int) (v5 : Int) (h53 : (Int × Int × Int) → Option Int) : Int × Int × Int → Option Int
  | (x6, x7, x8) => (if x8 < (M 10 1) then (m_waterOf N x8 M).bind fun r10 => jlt ((w32 (a1 * r10))) fun v11 => jchk (r3 ≠ 0) <| jlt ((w32 (x6 - ((w32 (v11.tdiv r3)))))) fun v13 => jchk (r3 ≠ 0) <| jchk (r3 ≠ 0) <| (if (v5.tmod r3) < (v11.tmod r3) then jlt ((w32 (x7 + 1))) fun v16 => h53 (v13, v16, (w32 (x8 + 1))) else jchk (r3 ≠ 0) <| jchk (r3 ≠ 0) <| (if (v11.tmod r3) = (v5.tmod r3) then (if x8 < a2 then jlt ((w32 (x7 + 1))) fun v21 => h53 (v13, v21, (w32 (x8 + 1))) else jlt ((w32 (x7 + 0))) fun v20 => h53 (v13, v20, (w32 (x8 + 1)))) else jlt ((w32 (x7 + 0))) fun v19 => h53 (v13, v19, (w32 (x8 + 1))))) else jchk (r3 ≠ 0) <| (if x7 < x6 then some ((w32 (((w32 (v5.tdiv r3))) + 1))) else some ((w32 (((w32 (v5.tdiv r3))) + 0)))))
def m_pence (N : Nat) (a1 a2 : Int) (M : jMem) : Option Int := (m_isOne N a2 M).bind fun r1 => (if r1 = 0 then some ((-1)) else (m_in N a1 0 9999 M).bind fun r2 => (if r2 = 0 then some ((-1)) else (m_sumOver N 25 M).bind fun r3 => (if r3 = 0 then some 0 else (m_waterOf N a2 M).bind fun r4 => jlt ((w32 (a1 * r4))) fun v5 => jfix N (m_pence_L53 N a1 a2 M r3 v5) (a1, 0, 0))))
theorem c_m_pence {l : Launch} {g : jG} (N : Nat) (a1 a2 : Int) (M : jMem)  : ∀ o, m_pence N a1 a2 M = some o → jCt l g jTM yX12_pence cX12_pence 9 (some .int) 0 3 [(2, 0), (0, a1), (0, a2)] M (o, M) := by
  refine jMet (own := RX12) (em := (fun r => (r, M))) (L := [(0, 2, 0), (1, 0, a1), (2, 0, a2)]) (by decide +kernel) rfl (Nat.le_of_ble_eq_true rfl) rfl (fun K hR => ?_)
  unfold m_pence
  refine z_aload_n (pc := 0) hR 0 dX12_pence_0 rfl rfl ?_
  refine z_iload_n (pc := 1) hR 2 dX12_pence_1 rfl rfl ?_
  refine z_callvp (pc := 2) hR (As := [(0, a2)]) (st := []) jm_X12_isOne jl_RX12_298 kmo_0 (by decide) rfl (by decide) (c_m_isOne N a2 M) rfl (by decide) (by decide) rfl (Nat.le_of_ble_eq_true rfl) dX12_pence_2 (fun r1 => ?_)
  refine z_ifeq (pc := 5) (tgt := 20) hR dX12_pence_5 (by decide) ?_ ?_
  · refine z_iconst (pc := 20) hR dX12_pence_20 rfl ?_
    exact z_ireturn (pc := 21) hR rfl rfl dX12_pence_21 rfl
  · refine z_iload_n (pc := 8) hR 1 dX12_pence_8 rfl rfl ?_
    refine z_i2l (pc := 9) hR dX12_pence_9 ?_
    refine z_lconst (pc := 10) hR (x := 0) dX12_pence_10 rfl ?_
    refine z_ldc2 (pc := 11) hR (n := 9999) jc_RX12_448 (by decide) rfl dX12_pence_11 ?_
    refine z_callsp (pc := 14) hR (As := [(1, a1), (1, 0), (1, 9999)]) (st := []) jm_X12_in jl_RX12_127 (by decide) (c_m_in N a1 0 9999 M) rfl (by decide) (by decide) rfl (Nat.le_of_ble_eq_true rfl) dX12_pence_14 (fun r2 => ?_)
    refine z_ifne (pc := 17) (tgt := 22) hR dX12_pence_17 (by decide) ?_ ?_
    · refine z_aload_n (pc := 22) hR 0 dX12_pence_22 rfl rfl ?_
      refine z_bipush (pc := 23) hR dX12_pence_23 rfl ?_
      refine z_callvp (pc := 25) hR (As := [(0, 25)]) (st := []) jm_X12_sumOver jl_RX12_421 kmo_0 (by decide) rfl (by decide) (c_m_sumOver N 25 M) rfl (by decide) (by decide) rfl (Nat.le_of_ble_eq_true rfl) dX12_pence_25 (fun r3 => ?_)
      refine z_istore_n (pc := 28) hR (lv' := [(3, 0, r3), (0, 2, 0), (1, 0, a1), (2, 0, a2)]) dX12_pence_28 rfl (by decide) rfl ?_
      refine z_iload_n (pc := 29) hR 0 dX12_pence_29 rfl rfl ?_
      refine z_ifne (pc := 30) (tgt := 35) hR dX12_pence_30 (by decide) ?_ ?_
      · refine z_iload_n (pc := 35) hR 2 dX12_pence_35 rfl rfl ?_
        refine z_aload_n (pc := 36) hR 1 dX12_pence_36 rfl rfl ?_
        refine z_iload_n (pc := 37) hR 3 dX12_pence_37 rfl rfl ?_
        refine z_callvp (pc := 38) hR (As := [(0, a2)]) (st := [(0, a1)]) jm_X12_waterOf jl_RX12_450 kmo_0 (by decide) rfl (by decide) (c_m_waterOf N a2 M) rfl (by decide) (by decide) rfl (Nat.le_of_ble_eq_true rfl) dX12_pence_38 (fun r4 => ?_)
        refine z_imul (pc := 41) hR dX12_pence_41 ?_
        refine z_let1 (fun v5 => ?_)
        refine z_istore (pc := 42) hR (lv' := [(4, 0, v5), (3, 0, r3), (0, 2, 0), (1, 0, a1), (2, 0, a2)]) dX12_pence_42 (by decide) rfl ?_
        refine z_iload_n (pc := 44) hR 3 dX12_pence_44 rfl rfl ?_
        refine z_istore (pc := 45) hR (lv' := [(5, 0, a1), (4, 0, v5), (3, 0, r3), (0, 2, 0), (1, 0, a1), (2, 0, a2)]) dX12_pence_45 (by decide) rfl ?_
        refine z_iconst (pc := 47) hR dX12_pence_47 rfl ?_
        refine z_istore (pc := 48) hR (lv' := [(6, 0, 0), (5, 0, a1), (4, 0, v5), (3, 0, r3), (0, 2, 0), (1, 0, a1), (2, 0, a2)]) dX12_pence_48 (by decide) rfl ?_
        refine z_iconst (pc := 50) hR dX12_pence_50 rfl ?_
        refine z_istore (pc := 51) hR (lv' := [(7, 0, 0), (6, 0, 0), (5, 0, a1), (4, 0, v5), (3, 0, r3), (0, 2, 0), (1, 0, a1), (2, 0, a2)]) dX12_pence_51 (by decide) rfl ?_
        refine z_pick (pc := 53) (lv' := [(0, 2, 0), (1, 0, a1), (2, 0, a2), (3, 0, r3), (4, 0, v5), (5, 0, a1), (6, 0, 0), (7, 0, 0)]) hR [5, 6, 7, 4, 3, 2, 1, 0] rfl ?_
        refine z_fix (σ := Int × Int × Int) (lv := fun s => [(0, 2, 0), (1, 0, a1), (2, 0, a2), (3, 0, r3), (4, 0, v5), (5, 0, s.1), (6, 0, s.2.1), (7, 0, s.2.2)]) (st := fun _ => []) (M := fun _ => M) (fun h53 hh53 => ?_) N (a1, 0, 0)
        rintro ⟨x6, x7, x8⟩
        show jZ K (fun r => (r, M)) 53 [(0, 2, 0), (1, 0, a1), (2, 0, a2), (3, 0, r3), (4, 0, v5), (5, 0, x6), (6, 0, x7), (7, 0, x8)] [] M _
        unfold m_pence_L53
        refine z_iload (pc := 53) hR 7 dX12_pence_53 rfl ?_
        refine z_aload_n (pc := 55) hR 0 dX12_pence_55 rfl rfl ?_
        refine z_getr (pc := 56) hR (c0 := 10) (r := 10) jf_RX12_39 kmo_0 (by decide) rfl rfl dX12_pence_56 ?_
        refine z_iconst (pc := 59) hR dX12_pence_59 rfl ?_
        refine z_iald (pc := 60) hR (n := 112) kma_10 (by decide) (by decide) dX12_pence_60 ?_
        refine z_icmpge (pc := 61) (tgt := 127) hR dX12_pence_61 (by decide) ?_ ?_
        · refine z_iload (pc := 127) hR 4 dX12_pence_127 rfl ?_
          refine z_iload_n (pc := 129) hR 3 dX12_pence_129 rfl rfl ?_
          refine z_chk (fun hc9 => ?_)
          refine z_idiv (pc := 130) hR dX12_pence_130 hc9 ?_
          refine z_iload (pc := 131) hR 6 dX12_pence_131 rfl ?_
          refine z_iload (pc := 133) hR 5 dX12_pence_133 rfl ?_
          refine z_icmpge (pc := 135) (tgt := 142) hR dX12_pence_135 (by decide) ?_ ?_
          · refine z_iconst (pc := 142) hR dX12_pence_142 rfl ?_
            refine z_iadd (pc := 143) hR dX12_pence_143 ?_
            exact z_ireturn (pc := 144) hR rfl rfl dX12_pence_144 rfl
          · refine z_iconst (pc := 138) hR dX12_pence_138 rfl ?_
            refine z_goto (pc := 139) (tgt := 143) hR dX12_pence_139 (by decide) ?_
            refine z_iadd (pc := 143) hR dX12_pence_143 ?_
            exact z_ireturn (pc := 144) hR rfl rfl dX12_pence_144 rfl
        · refine z_iload_n (pc := 64) hR 1 dX12_pence_64 rfl rfl ?_
          refine z_aload_n (pc := 65) hR 0 dX12_pence_65 rfl rfl ?_
          refine z_iload (pc := 66) hR 7 dX12_pence_66 rfl ?_
          refine z_callvp (pc := 68) hR (As := [(0, x8)]) (st := [(0, a1)]) jm_X12_waterOf jl_RX12_450 kmo_0 (by decide) rfl (by decide) (c_m_waterOf N x8 M) rfl (by decide) (by decide) rfl (Nat.le_of_ble_eq_true rfl) dX12_pence_68 (fun r10 => ?_)
          refine z_imul (pc := 71) hR dX12_pence_71 ?_
          refine z_let1 (fun v11 => ?_)
          refine z_istore (pc := 72) hR (lv' := [(8, 0, v11), (0, 2, 0), (1, 0, a1), (2, 0, a2), (3, 0, r3), (4, 0, v5), (5, 0, x6), (6, 0, x7), (7, 0, x8)]) dX12_pence_72 (by decide) rfl ?_
          refine z_iload (pc := 74) hR 6 dX12_pence_74 rfl ?_
          refine z_iload (pc := 76) hR 0 dX12_pence_76 rfl ?_
          refine z_iload_n (pc := 78) hR 4 dX12_pence_78 rfl rfl ?_
          refine z_chk (fun hc12 => ?_)
          refine z_idiv (pc := 79) hR dX12_pence_79 hc12 ?_
          refine z_isub (pc := 80) hR dX12_pence_80 ?_
          refine z_let1 (fun v13 => ?_)
          refine z_istore (pc := 81) hR (lv' := [(5, 0, v13), (8, 0, v11), (0, 2, 0), (1, 0, a1), (2, 0, a2), (3, 0, r3), (4, 0, v5), (6, 0, x7), (7, 0, x8)]) dX12_pence_81 (by decide) rfl ?_
          refine z_iload (pc := 83) hR 7 dX12_pence_83 rfl ?_
          refine z_iload (pc := 85) hR 1 dX12_pence_85 rfl ?_
          refine z_iload_n (pc := 87) hR 5 dX12_pence_87 rfl rfl ?_
          refine z_chk (fun hc14 => ?_)
          refine z_irem (pc := 88) hR dX12_pence_88 hc14 ?_
          refine z_iload (pc := 89) hR 6 dX12_pence_89 rfl ?_
          refine z_iload_n (pc := 91) hR 5 dX12_pence_91 rfl rfl ?_
          refine z_chk (fun hc15 => ?_)
          refine z_irem (pc := 92) hR dX12_pence_92 hc15 ?_
          refine z_icmpgt (pc := 93) (tgt := 113) hR dX12_pence_93 (by decide) ?_ ?_
          · refine z_iconst (pc := 113) hR dX12_pence_113 rfl ?_
            refine z_goto (pc := 114) (tgt := 118) hR dX12_pence_114 (by decide) ?_
            refine z_iadd (pc := 118) hR dX12_pence_118 ?_
            refine z_let1 (fun v16 => ?_)
            refine z_istore (pc := 119) hR (lv' := [(6, 0, v16), (5, 0, v13), (8, 0, v11), (0, 2, 0), (1, 0, a1), (2, 0, a2), (3, 0, r3), (4, 0, v5), (7, 0, x8)]) dX12_pence_119 (by decide) rfl ?_
            refine z_iinc (pc := 121) hR (j := 8) (lv' := [(7, 0, (w32 (x8 + 1))), (6, 0, v16), (5, 0, v13), (8, 0, v11), (0, 2, 0), (1, 0, a1), (2, 0, a2), (3, 0, r3), (4, 0, v5)]) dX12_pence_121 rfl (by decide) rfl ?_
            refine z_goto (pc := 124) (tgt := 53) hR dX12_pence_124 (by decide) ?_
            refine z_pick (pc := 53) (lv' := [(0, 2, 0), (1, 0, a1), (2, 0, a2), (3, 0, r3), (4, 0, v5), (5, 0, v13), (6, 0, v16), (7, 0, (w32 (x8 + 1)))]) hR [4, 5, 6, 7, 8, 2, 1, 0] rfl ?_
            exact hh53 (v13, v16, (w32 (x8 + 1)))
          · refine z_iload (pc := 96) hR 1 dX12_pence_96 rfl ?_
            refine z_iload_n (pc := 98) hR 5 dX12_pence_98 rfl rfl ?_
            refine z_chk (fun hc17 => ?_)
            refine z_irem (pc := 99) hR dX12_pence_99 hc17 ?_
            refine z_iload (pc := 100) hR 6 dX12_pence_100 rfl ?_
            refine z_iload_n (pc := 102) hR 5 dX12_pence_102 rfl rfl ?_
            refine z_chk (fun hc18 => ?_)
            refine z_irem (pc := 103) hR dX12_pence_103 hc18 ?_
            refine z_icmpne (pc := 104) (tgt := 117) hR dX12_pence_104 (by decide) ?_ ?_
            · refine z_iconst (pc := 117) hR dX12_pence_117 rfl ?_
              refine z_iadd (pc := 118) hR dX12_pence_118 ?_
              refine z_let1 (fun v19 => ?_)
              refine z_istore (pc := 119) hR (lv' := [(6, 0, v19), (5, 0, v13), (8, 0, v11), (0, 2, 0), (1, 0, a1), (2, 0, a2), (3, 0, r3), (4, 0, v5), (7, 0, x8)]) dX12_pence_119 (by decide) rfl ?_
              refine z_iinc (pc := 121) hR (j := 8) (lv' := [(7, 0, (w32 (x8 + 1))), (6, 0, v19), (5, 0, v13), (8, 0, v11), (0, 2, 0), (1, 0, a1), (2, 0, a2), (3, 0, r3), (4, 0, v5)]) dX12_pence_121 rfl (by decide) rfl ?_
              refine z_goto (pc := 124) (tgt := 53) hR dX12_pence_124 (by decide) ?_
              refine z_pick (pc := 53) (lv' := [(0, 2, 0), (1, 0, a1), (2, 0, a2), (3, 0, r3), (4, 0, v5), (5, 0, v13), (6, 0, v19), (7, 0, (w32 (x8 + 1)))]) hR [4, 5, 6, 7, 8, 2, 1, 0] rfl ?_
              exact hh53 (v13, v19, (w32 (x8 + 1)))
            · refine z_iload (pc := 107) hR 8 dX12_pence_107 rfl ?_
              refine z_iload_n (pc := 109) hR 4 dX12_pence_109 rfl rfl ?_
              refine z_icmpge (pc := 110) (tgt := 117) hR dX12_pence_110 (by decide) ?_ ?_
              · refine z_iconst (pc := 117) hR dX12_pence_117 rfl ?_
                refine z_iadd (pc := 118) hR dX12_pence_118 ?_
                refine z_let1 (fun v20 => ?_)
                refine z_istore (pc := 119) hR (lv' := [(6, 0, v20), (5, 0, v13), (8, 0, v11), (0, 2, 0), (1, 0, a1), (2, 0, a2), (3, 0, r3), (4, 0, v5), (7, 0, x8)]) dX12_pence_119 (by decide) rfl ?_
                refine z_iinc (pc := 121) hR (j := 8) (lv' := [(7, 0, (w32 (x8 + 1))), (6, 0, v20), (5, 0, v13), (8, 0, v11), (0, 2, 0), (1, 0, a1), (2, 0, a2), (3, 0, r3), (4, 0, v5)]) dX12_pence_121 rfl (by decide) rfl ?_
                refine z_goto (pc := 124) (tgt := 53) hR dX12_pence_124 (by decide) ?_
                refine z_pick (pc := 53) (lv' := [(0, 2, 0), (1, 0, a1), (2, 0, a2), (3, 0, r3), (4, 0, v5), (5, 0, v13), (6, 0, v20), (7, 0, (w32 (x8 + 1)))]) hR [4, 5, 6, 7, 8, 2, 1, 0] rfl ?_
                exact hh53 (v13, v20, (w32 (x8 + 1)))
              · refine z_iconst (pc := 113) hR dX12_pence_113 rfl ?_
                refine z_goto (pc := 114) (tgt := 118) hR dX12_pence_114 (by decide) ?_
                refine z_iadd (pc := 118) hR dX12_pence_118 ?_
                refine z_let1 (fun v21 => ?_)
                refine z_istore (pc := 119) hR (lv' := [(6, 0, v21), (5, 0, v13), (8, 0, v11), (0, 2, 0), (1, 0, a1), (2, 0, a2), (3, 0, r3), (4, 0, v5), (7, 0, x8)]) dX12_pence_119 (by decide) rfl ?_
                refine z_iinc (pc := 121) hR (j := 8) (lv' := [(7, 0, (w32 (x8 + 1))), (6, 0, v21), (5, 0, v13), (8, 0, v11), (0, 2, 0), (1, 0, a1), (2, 0, a2), (3, 0, r3), (4, 0, v5)]) dX12_pence_121 rfl (by decide) rfl ?_
                refine z_goto (pc := 124) (tgt := 53) hR dX12_pence_124 (by decide) ?_
                refine z_pick (pc := 53) (lv' := [(0, 2, 0), (1, 0, a1), (2, 0, a2), (3, 0, r3), (4, 0, v5), (5, 0, v13), (6, 0, v21), (7, 0, (w32 (x8 + 1)))]) hR [4, 5, 6, 7, 8, 2, 1, 0] rfl ?_
                exact hh53 (v13, v21, (w32 (x8 + 1)))
      · refine z_iconst (pc := 33) hR dX12_pence_33 rfl ?_
        exact z_ireturn (pc := 34) hR rfl rfl dX12_pence_34 rfl
    · refine z_iconst (pc := 20) hR dX12_pence_20 rfl ?_
      exact z_ireturn (pc := 21) hR rfl rfl dX12_pence_21 rfl
theorem dX12_note_0 : decode cX12_note 0 = .ok (.iload_n 1, 1) := by decide +kernel
theorem dX12_note_1 : decode cX12_note 1 = .ok (.iconst (-1), 1) := by decide +kernel
theorem dX12_note_2 : decode cX12_note 2 = .ok (.if_icmp .ne 13, 3) := by decide +kernel
theorem dX12_note_5 : decode cX12_note 5 = .ok (.aload_n 0, 1) := by decide +kernel
theorem dX12_note_6 : decode cX12_note 6 = .ok (.getfield 39, 3) := by decide +kernel
theorem dX12_note_9 : decode cX12_note 9 = .ok (.bipush 111, 2) := by decide +kernel
theorem dX12_note_11 : decode cX12_note 11 = .ok (.iconst 0, 1) := by decide +kernel
theorem dX12_note_12 : decode cX12_note 12 = .ok (.iastore, 1) := by decide +kernel
theorem dX12_note_13 : decode cX12_note 13 = .ok (.iconst 0, 1) := by decide +kernel
theorem dX12_note_14 : decode cX12_note 14 = .ok (.ireturn, 1) := by decide +kernel
theorem dX12_note_15 : decode cX12_note 15 = .ok (.iload_n 1, 1) := by decide +kernel
theorem dX12_note_16 : decode cX12_note 16 = .ok (.i2l, 1) := by decide +kernel
theorem dX12_note_17 : decode cX12_note 17 = .ok (.lconst 0, 1) := by decide +kernel
theorem dX12_note_18 : decode cX12_note 18 = .ok (.ldc2_w 453, 3) := by decide +kernel
theorem dX12_note_21 : decode cX12_note 21 = .ok (.invokestatic 127, 3) := by decide +kernel
theorem dX12_note_24 : decode cX12_note 24 = .ok (.ifCond .eq 35, 3) := by decide +kernel
theorem dX12_note_27 : decode cX12_note 27 = .ok (.aload_n 0, 1) := by decide +kernel
theorem dX12_note_28 : decode cX12_note 28 = .ok (.iload_n 2, 1) := by decide +kernel
theorem dX12_note_29 : decode cX12_note 29 = .ok (.invokevirtual 298, 3) := by decide +kernel
theorem dX12_note_32 : decode cX12_note 32 = .ok (.ifCond .eq 27, 3) := by decide +kernel
theorem dX12_note_35 : decode cX12_note 35 = .ok (.iload_n 3, 1) := by decide +kernel
theorem dX12_note_36 : decode cX12_note 36 = .ok (.i2l, 1) := by decide +kernel
theorem dX12_note_37 : decode cX12_note 37 = .ok (.lconst 0, 1) := by decide +kernel
theorem dX12_note_38 : decode cX12_note 38 = .ok (.ldc2_w 453, 3) := by decide +kernel
theorem dX12_note_41 : decode cX12_note 41 = .ok (.invokestatic 127, 3) := by decide +kernel
theorem dX12_note_44 : decode cX12_note 44 = .ok (.ifCond .eq 15, 3) := by decide +kernel
theorem dX12_note_47 : decode cX12_note 47 = .ok (.aload_n 0, 1) := by decide +kernel
theorem dX12_note_48 : decode cX12_note 48 = .ok (.getfield 39, 3) := by decide +kernel
theorem dX12_note_51 : decode cX12_note 51 = .ok (.bipush 111, 2) := by decide +kernel
theorem dX12_note_53 : decode cX12_note 53 = .ok (.iaload, 1) := by decide +kernel
theorem dX12_note_54 : decode cX12_note 54 = .ok (.bipush 10, 2) := by decide +kernel
theorem dX12_note_56 : decode cX12_note 56 = .ok (.if_icmp .ne 6, 3) := by decide +kernel
theorem dX12_note_59 : decode cX12_note 59 = .ok (.bipush (-2), 2) := by decide +kernel
theorem dX12_note_61 : decode cX12_note 61 = .ok (.ireturn, 1) := by decide +kernel
theorem dX12_note_62 : decode cX12_note 62 = .ok (.bipush 81, 2) := by decide +kernel
theorem dX12_note_64 : decode cX12_note 64 = .ok (.iconst 3, 1) := by decide +kernel
theorem dX12_note_65 : decode cX12_note 65 = .ok (.aload_n 0, 1) := by decide +kernel
theorem dX12_note_66 : decode cX12_note 66 = .ok (.getfield 39, 3) := by decide +kernel
theorem dX12_note_69 : decode cX12_note 69 = .ok (.bipush 111, 2) := by decide +kernel
theorem dX12_note_71 : decode cX12_note 71 = .ok (.iaload, 1) := by decide +kernel
theorem dX12_note_72 : decode cX12_note 72 = .ok (.imul, 1) := by decide +kernel
theorem dX12_note_73 : decode cX12_note 73 = .ok (.iadd, 1) := by decide +kernel
theorem dX12_note_74 : decode cX12_note 74 = .ok (.istore 4, 2) := by decide +kernel
theorem dX12_note_76 : decode cX12_note 76 = .ok (.aload_n 0, 1) := by decide +kernel
theorem dX12_note_77 : decode cX12_note 77 = .ok (.getfield 39, 3) := by decide +kernel
theorem dX12_note_80 : decode cX12_note 80 = .ok (.iload 4, 2) := by decide +kernel
theorem dX12_note_82 : decode cX12_note 82 = .ok (.iload_n 1, 1) := by decide +kernel
theorem dX12_note_83 : decode cX12_note 83 = .ok (.iastore, 1) := by decide +kernel
theorem dX12_note_84 : decode cX12_note 84 = .ok (.aload_n 0, 1) := by decide +kernel
theorem dX12_note_85 : decode cX12_note 85 = .ok (.getfield 39, 3) := by decide +kernel
theorem dX12_note_88 : decode cX12_note 88 = .ok (.iload 4, 2) := by decide +kernel
theorem dX12_note_90 : decode cX12_note 90 = .ok (.iconst 1, 1) := by decide +kernel
theorem dX12_note_91 : decode cX12_note 91 = .ok (.iadd, 1) := by decide +kernel
theorem dX12_note_92 : decode cX12_note 92 = .ok (.iload_n 2, 1) := by decide +kernel
theorem dX12_note_93 : decode cX12_note 93 = .ok (.iastore, 1) := by decide +kernel
theorem dX12_note_94 : decode cX12_note 94 = .ok (.aload_n 0, 1) := by decide +kernel
theorem dX12_note_95 : decode cX12_note 95 = .ok (.getfield 39, 3) := by decide +kernel
theorem dX12_note_98 : decode cX12_note 98 = .ok (.iload 4, 2) := by decide +kernel
theorem dX12_note_100 : decode cX12_note 100 = .ok (.iconst 2, 1) := by decide +kernel
theorem dX12_note_101 : decode cX12_note 101 = .ok (.iadd, 1) := by decide +kernel
theorem dX12_note_102 : decode cX12_note 102 = .ok (.iload_n 3, 1) := by decide +kernel
theorem dX12_note_103 : decode cX12_note 103 = .ok (.iastore, 1) := by decide +kernel
theorem dX12_note_104 : decode cX12_note 104 = .ok (.aload_n 0, 1) := by decide +kernel
theorem dX12_note_105 : decode cX12_note 105 = .ok (.getfield 39, 3) := by decide +kernel
theorem dX12_note_108 : decode cX12_note 108 = .ok (.bipush 111, 2) := by decide +kernel
theorem dX12_note_110 : decode cX12_note 110 = .ok (.dup2, 1) := by decide +kernel
theorem dX12_note_111 : decode cX12_note 111 = .ok (.iaload, 1) := by decide +kernel
theorem dX12_note_112 : decode cX12_note 112 = .ok (.iconst 1, 1) := by decide +kernel
theorem dX12_note_113 : decode cX12_note 113 = .ok (.iadd, 1) := by decide +kernel
theorem dX12_note_114 : decode cX12_note 114 = .ok (.iastore, 1) := by decide +kernel
theorem dX12_note_115 : decode cX12_note 115 = .ok (.aload_n 0, 1) := by decide +kernel
theorem dX12_note_116 : decode cX12_note 116 = .ok (.getfield 39, 3) := by decide +kernel
theorem dX12_note_119 : decode cX12_note 119 = .ok (.bipush 111, 2) := by decide +kernel
theorem dX12_note_121 : decode cX12_note 121 = .ok (.iaload, 1) := by decide +kernel
theorem dX12_note_122 : decode cX12_note 122 = .ok (.ireturn, 1) := by decide +kernel
def m_note (N : Nat) (a1 a2 a3 : Int) (M : jMem) : Option (Int × jMem) := (if a1 = (-1) then jlt (up M 10 111 0) fun M12 => some (0, M12) else (m_in N a1 0 60 M).bind fun r1 => (if r1 = 0 then some ((-2), M) else (m_isOne N a2 M).bind fun r2 => (if r2 = 0 then some ((-2), M) else (m_in N a3 0 60 M).bind fun r3 => (if r3 = 0 then some ((-2), M) else (if (M 10 111) = 10 then some ((-2), M) else jlt ((w32 (81 + ((w32 (3 * ((M 10 111)))))))) fun v4 => jchk (0 ≤ v4 ∧ v4 < 112) <| jlt (up M 10 v4 a1) fun M6 => jchk (0 ≤ (w32 (v4 + 1)) ∧ (w32 (v4 + 1)) < 112) <| jlt (up M6 10 ((w32 (v4 + 1))) a2) fun M8 => jchk (0 ≤ (w32 (v4 + 2)) ∧ (w32 (v4 + 2)) < 112) <| jlt (up M8 10 ((w32 (v4 + 2))) a3) fun M10 => jlt (up M10 10 111 ((w32 (((M10 10 111)) + 1)))) fun M11 => some ((M11 10 111), M11))))))
theorem c_m_note {l : Launch} {g : jG} (N : Nat) (a1 a2 a3 : Int) (M : jMem)  : ∀ o, m_note N a1 a2 a3 M = some o → jCt l g jTM yX12_note cX12_note 5 (some .int) 0 3 [(2, 0), (0, a1), (0, a2), (0, a3)] M o := by
  refine jMet (own := RX12) (em := id) (L := [(0, 2, 0), (1, 0, a1), (2, 0, a2), (3, 0, a3)]) (by decide +kernel) rfl (Nat.le_of_ble_eq_true rfl) rfl (fun K hR => ?_)
  unfold m_note
  refine z_iload_n (pc := 0) hR 1 dX12_note_0 rfl rfl ?_
  refine z_iconst (pc := 1) hR dX12_note_1 rfl ?_
  refine z_icmpne (pc := 2) (tgt := 15) hR dX12_note_2 (by decide) ?_ ?_
  · refine z_iload_n (pc := 15) hR 1 dX12_note_15 rfl rfl ?_
    refine z_i2l (pc := 16) hR dX12_note_16 ?_
    refine z_lconst (pc := 17) hR (x := 0) dX12_note_17 rfl ?_
    refine z_ldc2 (pc := 18) hR (n := 60) jc_RX12_453 (by decide) rfl dX12_note_18 ?_
    refine z_callsp (pc := 21) hR (As := [(1, a1), (1, 0), (1, 60)]) (st := []) jm_X12_in jl_RX12_127 (by decide) (c_m_in N a1 0 60 M) rfl (by decide) (by decide) rfl (Nat.le_of_ble_eq_true rfl) dX12_note_21 (fun r1 => ?_)
    refine z_ifeq (pc := 24) (tgt := 59) hR dX12_note_24 (by decide) ?_ ?_
    · refine z_bipush (pc := 59) hR dX12_note_59 rfl ?_
      exact z_ireturn (pc := 61) hR rfl rfl dX12_note_61 rfl
    · refine z_aload_n (pc := 27) hR 0 dX12_note_27 rfl rfl ?_
      refine z_iload_n (pc := 28) hR 2 dX12_note_28 rfl rfl ?_
      refine z_callvp (pc := 29) hR (As := [(0, a2)]) (st := []) jm_X12_isOne jl_RX12_298 kmo_0 (by decide) rfl (by decide) (c_m_isOne N a2 M) rfl (by decide) (by decide) rfl (Nat.le_of_ble_eq_true rfl) dX12_note_29 (fun r2 => ?_)
      refine z_ifeq (pc := 32) (tgt := 59) hR dX12_note_32 (by decide) ?_ ?_
      · refine z_bipush (pc := 59) hR dX12_note_59 rfl ?_
        exact z_ireturn (pc := 61) hR rfl rfl dX12_note_61 rfl
      · refine z_iload_n (pc := 35) hR 3 dX12_note_35 rfl rfl ?_
        refine z_i2l (pc := 36) hR dX12_note_36 ?_
        refine z_lconst (pc := 37) hR (x := 0) dX12_note_37 rfl ?_
        refine z_ldc2 (pc := 38) hR (n := 60) jc_RX12_453 (by decide) rfl dX12_note_38 ?_
        refine z_callsp (pc := 41) hR (As := [(1, a3), (1, 0), (1, 60)]) (st := []) jm_X12_in jl_RX12_127 (by decide) (c_m_in N a3 0 60 M) rfl (by decide) (by decide) rfl (Nat.le_of_ble_eq_true rfl) dX12_note_41 (fun r3 => ?_)
        refine z_ifeq (pc := 44) (tgt := 59) hR dX12_note_44 (by decide) ?_ ?_
        · refine z_bipush (pc := 59) hR dX12_note_59 rfl ?_
          exact z_ireturn (pc := 61) hR rfl rfl dX12_note_61 rfl
        · refine z_aload_n (pc := 47) hR 0 dX12_note_47 rfl rfl ?_
          refine z_getr (pc := 48) hR (c0 := 10) (r := 10) jf_RX12_39 kmo_0 (by decide) rfl rfl dX12_note_48 ?_
          refine z_bipush (pc := 51) hR dX12_note_51 rfl ?_
          refine z_iald (pc := 53) hR (n := 112) kma_10 (by decide) (by decide) dX12_note_53 ?_
          refine z_bipush (pc := 54) hR dX12_note_54 rfl ?_
          refine z_icmpne (pc := 56) (tgt := 62) hR dX12_note_56 (by decide) ?_ ?_
          · refine z_bipush (pc := 62) hR dX12_note_62 rfl ?_
            refine z_iconst (pc := 64) hR dX12_note_64 rfl ?_
            refine z_aload_n (pc := 65) hR 0 dX12_note_65 rfl rfl ?_
            refine z_getr (pc := 66) hR (c0 := 10) (r := 10) jf_RX12_39 kmo_0 (by decide) rfl rfl dX12_note_66 ?_
            refine z_bipush (pc := 69) hR dX12_note_69 rfl ?_
            refine z_iald (pc := 71) hR (n := 112) kma_10 (by decide) (by decide) dX12_note_71 ?_
            refine z_imul (pc := 72) hR dX12_note_72 ?_
            refine z_iadd (pc := 73) hR dX12_note_73 ?_
            refine z_let1 (fun v4 => ?_)
            refine z_istore (pc := 74) hR (lv' := [(4, 0, v4), (0, 2, 0), (1, 0, a1), (2, 0, a2), (3, 0, a3)]) dX12_note_74 (by decide) rfl ?_
            refine z_aload_n (pc := 76) hR 1 dX12_note_76 rfl rfl ?_
            refine z_getr (pc := 77) hR (c0 := 10) (r := 10) jf_RX12_39 kmo_0 (by decide) rfl rfl dX12_note_77 ?_
            refine z_iload (pc := 80) hR 0 dX12_note_80 rfl ?_
            refine z_iload_n (pc := 82) hR 2 dX12_note_82 rfl rfl ?_
            refine z_chk (fun hc5 => ?_)
            refine z_iast (pc := 83) hR (n := 112) kma_10 hc5.1 hc5.2 dX12_note_83 (fun M6 => ?_)
            refine z_aload_n (pc := 84) hR 1 dX12_note_84 rfl rfl ?_
            refine z_getr (pc := 85) hR (c0 := 10) (r := 10) jf_RX12_39 kmo_0 (by decide) rfl rfl dX12_note_85 ?_
            refine z_iload (pc := 88) hR 0 dX12_note_88 rfl ?_
            refine z_iconst (pc := 90) hR dX12_note_90 rfl ?_
            refine z_iadd (pc := 91) hR dX12_note_91 ?_
            refine z_iload_n (pc := 92) hR 3 dX12_note_92 rfl rfl ?_
            refine z_chk (fun hc7 => ?_)
            refine z_iast (pc := 93) hR (n := 112) kma_10 hc7.1 hc7.2 dX12_note_93 (fun M8 => ?_)
            refine z_aload_n (pc := 94) hR 1 dX12_note_94 rfl rfl ?_
            refine z_getr (pc := 95) hR (c0 := 10) (r := 10) jf_RX12_39 kmo_0 (by decide) rfl rfl dX12_note_95 ?_
            refine z_iload (pc := 98) hR 0 dX12_note_98 rfl ?_
            refine z_iconst (pc := 100) hR dX12_note_100 rfl ?_
            refine z_iadd (pc := 101) hR dX12_note_101 ?_
            refine z_iload_n (pc := 102) hR 4 dX12_note_102 rfl rfl ?_
            refine z_chk (fun hc9 => ?_)
            refine z_iast (pc := 103) hR (n := 112) kma_10 hc9.1 hc9.2 dX12_note_103 (fun M10 => ?_)
            refine z_aload_n (pc := 104) hR 1 dX12_note_104 rfl rfl ?_
            refine z_getr (pc := 105) hR (c0 := 10) (r := 10) jf_RX12_39 kmo_0 (by decide) rfl rfl dX12_note_105 ?_
            refine z_bipush (pc := 108) hR dX12_note_108 rfl ?_
            refine z_dup2 (pc := 110) hR dX12_note_110 (by decide) (by decide) ?_
            refine z_iald (pc := 111) hR (n := 112) kma_10 (by decide) (by decide) dX12_note_111 ?_
            refine z_iconst (pc := 112) hR dX12_note_112 rfl ?_
            refine z_iadd (pc := 113) hR dX12_note_113 ?_
            refine z_iast (pc := 114) hR (n := 112) kma_10 (by decide) (by decide) dX12_note_114 (fun M11 => ?_)
            refine z_aload_n (pc := 115) hR 1 dX12_note_115 rfl rfl ?_
            refine z_getr (pc := 116) hR (c0 := 10) (r := 10) jf_RX12_39 kmo_0 (by decide) rfl rfl dX12_note_116 ?_
            refine z_bipush (pc := 119) hR dX12_note_119 rfl ?_
            refine z_iald (pc := 121) hR (n := 112) kma_10 (by decide) (by decide) dX12_note_121 ?_
            exact z_ireturn (pc := 122) hR rfl rfl dX12_note_122 rfl
          · refine z_bipush (pc := 59) hR dX12_note_59 rfl ?_
            exact z_ireturn (pc := 61) hR rfl rfl dX12_note_61 rfl
  · refine z_aload_n (pc := 5) hR 0 dX12_note_5 rfl rfl ?_
    refine z_getr (pc := 6) hR (c0 := 10) (r := 10) jf_RX12_39 kmo_0 (by decide) rfl rfl dX12_note_6 ?_
    refine z_bipush (pc := 9) hR dX12_note_9 rfl ?_
    refine z_iconst (pc := 11) hR dX12_note_11 rfl ?_
    refine z_iast (pc := 12) hR (n := 112) kma_10 (by decide) (by decide) dX12_note_12 (fun M12 => ?_)
    refine z_iconst (pc := 13) hR dX12_note_13 rfl ?_
    exact z_ireturn (pc := 14) hR rfl rfl dX12_note_14 rfl
theorem dX12_tasteOf_0 : decode cX12_tasteOf 0 = .ok (.aload_n 0, 1) := by decide +kernel
theorem dX12_tasteOf_1 : decode cX12_tasteOf 1 = .ok (.getfield 39, 3) := by decide +kernel
theorem dX12_tasteOf_4 : decode cX12_tasteOf 4 = .ok (.bipush 18, 2) := by decide +kernel
theorem dX12_tasteOf_6 : decode cX12_tasteOf 6 = .ok (.aload_n 0, 1) := by decide +kernel
theorem dX12_tasteOf_7 : decode cX12_tasteOf 7 = .ok (.getfield 39, 3) := by decide +kernel
theorem dX12_tasteOf_10 : decode cX12_tasteOf 10 = .ok (.bipush 32, 2) := by decide +kernel
theorem dX12_tasteOf_12 : decode cX12_tasteOf 12 = .ok (.iload_n 1, 1) := by decide +kernel
theorem dX12_tasteOf_13 : decode cX12_tasteOf 13 = .ok (.iadd, 1) := by decide +kernel
theorem dX12_tasteOf_14 : decode cX12_tasteOf 14 = .ok (.iaload, 1) := by decide +kernel
theorem dX12_tasteOf_15 : decode cX12_tasteOf 15 = .ok (.iadd, 1) := by decide +kernel
theorem dX12_tasteOf_16 : decode cX12_tasteOf 16 = .ok (.iaload, 1) := by decide +kernel
theorem dX12_tasteOf_17 : decode cX12_tasteOf 17 = .ok (.ireturn, 1) := by decide +kernel
def m_tasteOf (N : Nat) (a1 : Int) (M : jMem) : Option Int := jchk (0 ≤ (w32 (32 + a1)) ∧ (w32 (32 + a1)) < 112) <| jchk (0 ≤ (w32 (18 + ((M 10 ((w32 (32 + a1))))))) ∧ (w32 (18 + ((M 10 ((w32 (32 + a1))))))) < 112) <| some ((M 10 ((w32 (18 + ((M 10 ((w32 (32 + a1))))))))))
theorem c_m_tasteOf {l : Launch} {g : jG} (N : Nat) (a1 : Int) (M : jMem)  : ∀ o, m_tasteOf N a1 M = some o → jCt l g jTM yX12_tasteOf cX12_tasteOf 2 (some .int) 0 1 [(2, 0), (0, a1)] M (o, M) := by
  refine jMet (own := RX12) (em := (fun r => (r, M))) (L := [(0, 2, 0), (1, 0, a1)]) (by decide +kernel) rfl (Nat.le_of_ble_eq_true rfl) rfl (fun K hR => ?_)
  unfold m_tasteOf
  refine z_aload_n (pc := 0) hR 0 dX12_tasteOf_0 rfl rfl ?_
  refine z_getr (pc := 1) hR (c0 := 10) (r := 10) jf_RX12_39 kmo_0 (by decide) rfl rfl dX12_tasteOf_1 ?_
  refine z_bipush (pc := 4) hR dX12_tasteOf_4 rfl ?_
  refine z_aload_n (pc := 6) hR 0 dX12_tasteOf_6 rfl rfl ?_
  refine z_getr (pc := 7) hR (c0 := 10) (r := 10) jf_RX12_39 kmo_0 (by decide) rfl rfl dX12_tasteOf_7 ?_
  refine z_bipush (pc := 10) hR dX12_tasteOf_10 rfl ?_
  refine z_iload_n (pc := 12) hR 1 dX12_tasteOf_12 rfl rfl ?_
  refine z_iadd (pc := 13) hR dX12_tasteOf_13 ?_
  refine z_chk (fun hc1 => ?_)
  refine z_iald (pc := 14) hR (n := 112) kma_10 hc1.1 hc1.2 dX12_tasteOf_14 ?_
  refine z_iadd (pc := 15) hR dX12_tasteOf_15 ?_
  refine z_chk (fun hc2 => ?_)
  refine z_iald (pc := 16) hR (n := 112) kma_10 hc2.1 hc2.2 dX12_tasteOf_16 ?_
  exact z_ireturn (pc := 17) hR rfl rfl dX12_tasteOf_17 rfl
theorem dX12_areNotesSo_0 : decode cX12_areNotesSo 0 = .ok (.iconst 0, 1) := by decide +kernel
theorem dX12_areNotesSo_1 : decode cX12_areNotesSo 1 = .ok (.istore_n 2, 1) := by decide +kernel
theorem dX12_areNotesSo_2 : decode cX12_areNotesSo 2 = .ok (.iload_n 2, 1) := by decide +kernel
theorem dX12_areNotesSo_3 : decode cX12_areNotesSo 3 = .ok (.iconst 3, 1) := by decide +kernel
theorem dX12_areNotesSo_4 : decode cX12_areNotesSo 4 = .ok (.aload_n 0, 1) := by decide +kernel
theorem dX12_areNotesSo_5 : decode cX12_areNotesSo 5 = .ok (.getfield 39, 3) := by decide +kernel
theorem dX12_areNotesSo_8 : decode cX12_areNotesSo 8 = .ok (.bipush 111, 2) := by decide +kernel
theorem dX12_areNotesSo_10 : decode cX12_areNotesSo 10 = .ok (.iaload, 1) := by decide +kernel
theorem dX12_areNotesSo_11 : decode cX12_areNotesSo 11 = .ok (.imul, 1) := by decide +kernel
theorem dX12_areNotesSo_12 : decode cX12_areNotesSo 12 = .ok (.if_icmp .ge 53, 3) := by decide +kernel
theorem dX12_areNotesSo_15 : decode cX12_areNotesSo 15 = .ok (.aload_n 0, 1) := by decide +kernel
theorem dX12_areNotesSo_16 : decode cX12_areNotesSo 16 = .ok (.getfield 39, 3) := by decide +kernel
theorem dX12_areNotesSo_19 : decode cX12_areNotesSo 19 = .ok (.bipush 81, 2) := by decide +kernel
theorem dX12_areNotesSo_21 : decode cX12_areNotesSo 21 = .ok (.iload_n 2, 1) := by decide +kernel
theorem dX12_areNotesSo_22 : decode cX12_areNotesSo 22 = .ok (.iadd, 1) := by decide +kernel
theorem dX12_areNotesSo_23 : decode cX12_areNotesSo 23 = .ok (.iaload, 1) := by decide +kernel
theorem dX12_areNotesSo_24 : decode cX12_areNotesSo 24 = .ok (.iload_n 1, 1) := by decide +kernel
theorem dX12_areNotesSo_25 : decode cX12_areNotesSo 25 = .ok (.if_icmp .ne 34, 3) := by decide +kernel
theorem dX12_areNotesSo_28 : decode cX12_areNotesSo 28 = .ok (.aload_n 0, 1) := by decide +kernel
theorem dX12_areNotesSo_29 : decode cX12_areNotesSo 29 = .ok (.aload_n 0, 1) := by decide +kernel
theorem dX12_areNotesSo_30 : decode cX12_areNotesSo 30 = .ok (.getfield 39, 3) := by decide +kernel
theorem dX12_areNotesSo_33 : decode cX12_areNotesSo 33 = .ok (.bipush 81, 2) := by decide +kernel
theorem dX12_areNotesSo_35 : decode cX12_areNotesSo 35 = .ok (.iload_n 2, 1) := by decide +kernel
theorem dX12_areNotesSo_36 : decode cX12_areNotesSo 36 = .ok (.iadd, 1) := by decide +kernel
theorem dX12_areNotesSo_37 : decode cX12_areNotesSo 37 = .ok (.iconst 1, 1) := by decide +kernel
theorem dX12_areNotesSo_38 : decode cX12_areNotesSo 38 = .ok (.iadd, 1) := by decide +kernel
theorem dX12_areNotesSo_39 : decode cX12_areNotesSo 39 = .ok (.iaload, 1) := by decide +kernel
theorem dX12_areNotesSo_40 : decode cX12_areNotesSo 40 = .ok (.invokevirtual 455, 3) := by decide +kernel
theorem dX12_areNotesSo_43 : decode cX12_areNotesSo 43 = .ok (.aload_n 0, 1) := by decide +kernel
theorem dX12_areNotesSo_44 : decode cX12_areNotesSo 44 = .ok (.getfield 39, 3) := by decide +kernel
theorem dX12_areNotesSo_47 : decode cX12_areNotesSo 47 = .ok (.bipush 81, 2) := by decide +kernel
theorem dX12_areNotesSo_49 : decode cX12_areNotesSo 49 = .ok (.iload_n 2, 1) := by decide +kernel
theorem dX12_areNotesSo_50 : decode cX12_areNotesSo 50 = .ok (.iadd, 1) := by decide +kernel
theorem dX12_areNotesSo_51 : decode cX12_areNotesSo 51 = .ok (.iconst 2, 1) := by decide +kernel
theorem dX12_areNotesSo_52 : decode cX12_areNotesSo 52 = .ok (.iadd, 1) := by decide +kernel
theorem dX12_areNotesSo_53 : decode cX12_areNotesSo 53 = .ok (.iaload, 1) := by decide +kernel
theorem dX12_areNotesSo_54 : decode cX12_areNotesSo 54 = .ok (.if_icmp .eq 5, 3) := by decide +kernel
theorem dX12_areNotesSo_57 : decode cX12_areNotesSo 57 = .ok (.iconst 0, 1) := by decide +kernel
theorem dX12_areNotesSo_58 : decode cX12_areNotesSo 58 = .ok (.ireturn, 1) := by decide +kernel
theorem dX12_areNotesSo_59 : decode cX12_areNotesSo 59 = .ok (.iinc 2 3, 3) := by decide +kernel
theorem dX12_areNotesSo_62 : decode cX12_areNotesSo 62 = .ok (.goto (-60), 3) := by decide +kernel
theorem dX12_areNotesSo_65 : decode cX12_areNotesSo 65 = .ok (.iconst 1, 1) := by decide +kernel
theorem dX12_areNotesSo_66 : decode cX12_areNotesSo 66 = .ok (.ireturn, 1) := by decide +kernel
def m_areNotesSo_L2 (N : Nat) (a1 : Int) (M : jMem) (h2 : Int → Option Int) : Int → Option Int
  | x1 => (if x1 < (w32 (3 * ((M 10 111)))) then jchk (0 ≤ (w32 (81 + x1)) ∧ (w32 (81 + x1)) < 112) <| (if (M 10 ((w32 (81 + x1)))) = a1 then jchk (0 ≤ (w32 (((w32 (81 + x1))) + 1)) ∧ (w32 (((w32 (81 + x1))) + 1)) < 112) <| (m_tasteOf N ((M 10 ((w32 (((w32 (81 + x1))) + 1))))) M).bind fun r4 => jchk (0 ≤ (w32 (((w32 (81 + x1))) + 2)) ∧ (w32 (((w32 (81 + x1))) + 2)) < 112) <| (if r4 = (M 10 ((w32 (((w32 (81 + x1))) + 2)))) then h2 ((w32 (x1 + 3))) else some 0) else h2 ((w32 (x1 + 3)))) else some 1)
def m_areNotesSo (N : Nat) (a1 : Int) (M : jMem) : Option Int := jfix N (m_areNotesSo_L2 N a1 M) 0
theorem c_m_areNotesSo {l : Launch} {g : jG} (N : Nat) (a1 : Int) (M : jMem)  : ∀ o, m_areNotesSo N a1 M = some o → jCt l g jTM yX12_areNotesSo cX12_areNotesSo 3 (some .boolean) 0 3 [(2, 0), (0, a1)] M (o, M) := by
  refine jMet (own := RX12) (em := (fun r => (r, M))) (L := [(0, 2, 0), (1, 0, a1)]) (by decide +kernel) rfl (Nat.le_of_ble_eq_true rfl) rfl (fun K hR => ?_)
  unfold m_areNotesSo
  refine z_iconst (pc := 0) hR dX12_areNotesSo_0 rfl ?_
  refine z_istore_n (pc := 1) hR (lv' := [(2, 0, 0), (0, 2, 0), (1, 0, a1)]) dX12_areNotesSo_1 rfl (by decide) rfl ?_
  refine z_pick (pc := 2) (lv' := [(0, 2, 0), (1, 0, a1), (2, 0, 0)]) hR [1, 2, 0] rfl ?_
  refine z_fix (σ := Int) (lv := fun s => [(0, 2, 0), (1, 0, a1), (2, 0, s)]) (st := fun _ => []) (M := fun _ => M) (fun h2 hh2 => ?_) N 0
  intro x1
  show jZ K (fun r => (r, M)) 2 [(0, 2, 0), (1, 0, a1), (2, 0, x1)] [] M _
  unfold m_areNotesSo_L2
  refine z_iload_n (pc := 2) hR 2 dX12_areNotesSo_2 rfl rfl ?_
  refine z_iconst (pc := 3) hR dX12_areNotesSo_3 rfl ?_
  refine z_aload_n (pc := 4) hR 0 dX12_areNotesSo_4 rfl rfl ?_
  refine z_getr (pc := 5) hR (c0 := 10) (r := 10) jf_RX12_39 kmo_0 (by decide) rfl rfl dX12_areNotesSo_5 ?_
  refine z_bipush (pc := 8) hR dX12_areNotesSo_8 rfl ?_
  refine z_iald (pc := 10) hR (n := 112) kma_10 (by decide) (by decide) dX12_areNotesSo_10 ?_
  refine z_imul (pc := 11) hR dX12_areNotesSo_11 ?_
  refine z_icmpge (pc := 12) (tgt := 65) hR dX12_areNotesSo_12 (by decide) ?_ ?_
  · refine z_iconst (pc := 65) hR dX12_areNotesSo_65 rfl ?_
    exact z_zreturn (pc := 66) hR rfl rfl (Or.inr rfl) dX12_areNotesSo_66 rfl
  · refine z_aload_n (pc := 15) hR 0 dX12_areNotesSo_15 rfl rfl ?_
    refine z_getr (pc := 16) hR (c0 := 10) (r := 10) jf_RX12_39 kmo_0 (by decide) rfl rfl dX12_areNotesSo_16 ?_
    refine z_bipush (pc := 19) hR dX12_areNotesSo_19 rfl ?_
    refine z_iload_n (pc := 21) hR 2 dX12_areNotesSo_21 rfl rfl ?_
    refine z_iadd (pc := 22) hR dX12_areNotesSo_22 ?_
    refine z_chk (fun hc2 => ?_)
    refine z_iald (pc := 23) hR (n := 112) kma_10 hc2.1 hc2.2 dX12_areNotesSo_23 ?_
    refine z_iload_n (pc := 24) hR 1 dX12_areNotesSo_24 rfl rfl ?_
    refine z_icmpne (pc := 25) (tgt := 59) hR dX12_areNotesSo_25 (by decide) ?_ ?_
    · refine z_iinc (pc := 59) hR (j := 2) (lv' := [(2, 0, (w32 (x1 + 3))), (0, 2, 0), (1, 0, a1)]) dX12_areNotesSo_59 rfl (by decide) rfl ?_
      refine z_goto (pc := 62) (tgt := 2) hR dX12_areNotesSo_62 (by decide) ?_
      refine z_pick (pc := 2) (lv' := [(0, 2, 0), (1, 0, a1), (2, 0, (w32 (x1 + 3)))]) hR [1, 2, 0] rfl ?_
      exact hh2 ((w32 (x1 + 3)))
    · refine z_aload_n (pc := 28) hR 0 dX12_areNotesSo_28 rfl rfl ?_
      refine z_aload_n (pc := 29) hR 0 dX12_areNotesSo_29 rfl rfl ?_
      refine z_getr (pc := 30) hR (c0 := 10) (r := 10) jf_RX12_39 kmo_0 (by decide) rfl rfl dX12_areNotesSo_30 ?_
      refine z_bipush (pc := 33) hR dX12_areNotesSo_33 rfl ?_
      refine z_iload_n (pc := 35) hR 2 dX12_areNotesSo_35 rfl rfl ?_
      refine z_iadd (pc := 36) hR dX12_areNotesSo_36 ?_
      refine z_iconst (pc := 37) hR dX12_areNotesSo_37 rfl ?_
      refine z_iadd (pc := 38) hR dX12_areNotesSo_38 ?_
      refine z_chk (fun hc3 => ?_)
      refine z_iald (pc := 39) hR (n := 112) kma_10 hc3.1 hc3.2 dX12_areNotesSo_39 ?_
      refine z_callvp (pc := 40) hR (As := [(0, (M 10 ((w32 (((w32 (81 + x1))) + 1)))))]) (st := []) jm_X12_tasteOf jl_RX12_455 kmo_0 (by decide) rfl (by decide) (c_m_tasteOf N ((M 10 ((w32 (((w32 (81 + x1))) + 1))))) M) rfl (by decide) (by decide) rfl (Nat.le_of_ble_eq_true rfl) dX12_areNotesSo_40 (fun r4 => ?_)
      refine z_aload_n (pc := 43) hR 0 dX12_areNotesSo_43 rfl rfl ?_
      refine z_getr (pc := 44) hR (c0 := 10) (r := 10) jf_RX12_39 kmo_0 (by decide) rfl rfl dX12_areNotesSo_44 ?_
      refine z_bipush (pc := 47) hR dX12_areNotesSo_47 rfl ?_
      refine z_iload_n (pc := 49) hR 2 dX12_areNotesSo_49 rfl rfl ?_
      refine z_iadd (pc := 50) hR dX12_areNotesSo_50 ?_
      refine z_iconst (pc := 51) hR dX12_areNotesSo_51 rfl ?_
      refine z_iadd (pc := 52) hR dX12_areNotesSo_52 ?_
      refine z_chk (fun hc5 => ?_)
      refine z_iald (pc := 53) hR (n := 112) kma_10 hc5.1 hc5.2 dX12_areNotesSo_53 ?_
      refine z_icmpeq (pc := 54) (tgt := 59) hR dX12_areNotesSo_54 (by decide) ?_ ?_
      · refine z_iinc (pc := 59) hR (j := 2) (lv' := [(2, 0, (w32 (x1 + 3))), (0, 2, 0), (1, 0, a1)]) dX12_areNotesSo_59 rfl (by decide) rfl ?_
        refine z_goto (pc := 62) (tgt := 2) hR dX12_areNotesSo_62 (by decide) ?_
        refine z_pick (pc := 2) (lv' := [(0, 2, 0), (1, 0, a1), (2, 0, (w32 (x1 + 3)))]) hR [1, 2, 0] rfl ?_
        exact hh2 ((w32 (x1 + 3)))
      · refine z_iconst (pc := 57) hR dX12_areNotesSo_57 rfl ?_
        exact z_zreturn (pc := 58) hR rfl rfl (Or.inl rfl) dX12_areNotesSo_58 rfl
theorem dX12_areAllSo_0 : decode cX12_areAllSo 0 = .ok (.iconst 1, 1) := by decide +kernel
theorem dX12_areAllSo_1 : decode cX12_areAllSo 1 = .ok (.istore_n 3, 1) := by decide +kernel
theorem dX12_areAllSo_2 : decode cX12_areAllSo 2 = .ok (.iconst 0, 1) := by decide +kernel
theorem dX12_areAllSo_3 : decode cX12_areAllSo 3 = .ok (.istore 4, 2) := by decide +kernel
theorem dX12_areAllSo_5 : decode cX12_areAllSo 5 = .ok (.iload 4, 2) := by decide +kernel
theorem dX12_areAllSo_7 : decode cX12_areAllSo 7 = .ok (.bipush 60, 2) := by decide +kernel
theorem dX12_areAllSo_9 : decode cX12_areAllSo 9 = .ok (.if_icmp .gt 77, 3) := by decide +kernel
theorem dX12_areAllSo_12 : decode cX12_areAllSo 12 = .ok (.aload_n 0, 1) := by decide +kernel
theorem dX12_areAllSo_13 : decode cX12_areAllSo 13 = .ok (.invokevirtual 362, 3) := by decide +kernel
theorem dX12_areAllSo_16 : decode cX12_areAllSo 16 = .ok (.pop, 1) := by decide +kernel
theorem dX12_areAllSo_17 : decode cX12_areAllSo 17 = .ok (.iload_n 3, 1) := by decide +kernel
theorem dX12_areAllSo_18 : decode cX12_areAllSo 18 = .ok (.ifCond .eq 16, 3) := by decide +kernel
theorem dX12_areAllSo_21 : decode cX12_areAllSo 21 = .ok (.aload_n 0, 1) := by decide +kernel
theorem dX12_areAllSo_22 : decode cX12_areAllSo 22 = .ok (.iload 4, 2) := by decide +kernel
theorem dX12_areAllSo_24 : decode cX12_areAllSo 24 = .ok (.invokevirtual 458, 3) := by decide +kernel
theorem dX12_areAllSo_27 : decode cX12_areAllSo 27 = .ok (.ifCond .eq 7, 3) := by decide +kernel
theorem dX12_areAllSo_30 : decode cX12_areAllSo 30 = .ok (.iconst 1, 1) := by decide +kernel
theorem dX12_areAllSo_31 : decode cX12_areAllSo 31 = .ok (.goto 4, 3) := by decide +kernel
theorem dX12_areAllSo_34 : decode cX12_areAllSo 34 = .ok (.iconst 0, 1) := by decide +kernel
theorem dX12_areAllSo_35 : decode cX12_areAllSo 35 = .ok (.istore_n 3, 1) := by decide +kernel
theorem dX12_areAllSo_36 : decode cX12_areAllSo 36 = .ok (.iconst 0, 1) := by decide +kernel
theorem dX12_areAllSo_37 : decode cX12_areAllSo 37 = .ok (.istore 5, 2) := by decide +kernel
theorem dX12_areAllSo_39 : decode cX12_areAllSo 39 = .ok (.iload 5, 2) := by decide +kernel
theorem dX12_areAllSo_41 : decode cX12_areAllSo 41 = .ok (.aload_n 0, 1) := by decide +kernel
theorem dX12_areAllSo_42 : decode cX12_areAllSo 42 = .ok (.getfield 39, 3) := by decide +kernel
theorem dX12_areAllSo_45 : decode cX12_areAllSo 45 = .ok (.iconst 1, 1) := by decide +kernel
theorem dX12_areAllSo_46 : decode cX12_areAllSo 46 = .ok (.iaload, 1) := by decide +kernel
theorem dX12_areAllSo_47 : decode cX12_areAllSo 47 = .ok (.if_icmp .ge 33, 3) := by decide +kernel
theorem dX12_areAllSo_50 : decode cX12_areAllSo 50 = .ok (.iload 4, 2) := by decide +kernel
theorem dX12_areAllSo_52 : decode cX12_areAllSo 52 = .ok (.iload_n 2, 1) := by decide +kernel
theorem dX12_areAllSo_53 : decode cX12_areAllSo 53 = .ok (.if_icmp .ne 27, 3) := by decide +kernel
theorem dX12_areAllSo_56 : decode cX12_areAllSo 56 = .ok (.aload_n 0, 1) := by decide +kernel
theorem dX12_areAllSo_57 : decode cX12_areAllSo 57 = .ok (.getfield 74, 3) := by decide +kernel
theorem dX12_areAllSo_60 : decode cX12_areAllSo 60 = .ok (.bipush 7, 2) := by decide +kernel
theorem dX12_areAllSo_62 : decode cX12_areAllSo 62 = .ok (.iload_n 1, 1) := by decide +kernel
theorem dX12_areAllSo_63 : decode cX12_areAllSo 63 = .ok (.imul, 1) := by decide +kernel
theorem dX12_areAllSo_64 : decode cX12_areAllSo 64 = .ok (.iload 5, 2) := by decide +kernel
theorem dX12_areAllSo_66 : decode cX12_areAllSo 66 = .ok (.iadd, 1) := by decide +kernel
theorem dX12_areAllSo_67 : decode cX12_areAllSo 67 = .ok (.aload_n 0, 1) := by decide +kernel
theorem dX12_areAllSo_68 : decode cX12_areAllSo 68 = .ok (.iload 5, 2) := by decide +kernel
theorem dX12_areAllSo_70 : decode cX12_areAllSo 70 = .ok (.invokevirtual 455, 3) := by decide +kernel
theorem dX12_areAllSo_73 : decode cX12_areAllSo 73 = .ok (.iastore, 1) := by decide +kernel
theorem dX12_areAllSo_74 : decode cX12_areAllSo 74 = .ok (.iinc 5 1, 3) := by decide +kernel
theorem dX12_areAllSo_77 : decode cX12_areAllSo 77 = .ok (.goto (-38), 3) := by decide +kernel
theorem dX12_areAllSo_80 : decode cX12_areAllSo 80 = .ok (.iinc 4 1, 3) := by decide +kernel
theorem dX12_areAllSo_83 : decode cX12_areAllSo 83 = .ok (.goto (-78), 3) := by decide +kernel
theorem dX12_areAllSo_86 : decode cX12_areAllSo 86 = .ok (.iload_n 3, 1) := by decide +kernel
theorem dX12_areAllSo_87 : decode cX12_areAllSo 87 = .ok (.ireturn, 1) := by decide +kernel
def m_areAllSo_L39 (N : Nat) (a1 : Int) (a2 : Int) (x2 : Int) (h5 : (Int × Int × jMem) → Option (Int × jMem)) (u7 : Int) (h39 : (Int × jMem) → Option (Int × jMem)) : Int × jMem → Option (Int × jMem)
  | (x8, M9) => (if x8 < (M9 10 1) then (if x2 = a2 then (m_tasteOf N x8 M9).bind fun r10 => jchk (0 ≤ (w32 (((w32 (7 * a1))) + x8)) ∧ (w32 (((w32 (7 * a1))) + x8)) < 49) <| jlt (up M9 20 ((w32 (((w32 (7 * a1))) + x8))) r10) fun M12 => h39 ((w32 (x8 + 1)), M12) else h5 (u7, (w32 (x2 + 1)), M9)) else h5 (u7, (w32 (x2 + 1)), M9))
def m_areAllSo_L5 (N : Nat) (a1 : Int) (a2 : Int) (h5 : (Int × Int × jMem) → Option (Int × jMem)) : Int × Int × jMem → Option (Int × jMem)
  | (x1, x2, M3) => (if 60 < x2 then jchk (x1 = 0 ∨ x1 = 1) <| some (x1, M3) else jb1 (m_passes N M3) fun r5 M6 => jlt (fun (u7 : Int) => jfix N (m_areAllSo_L39 N a1 a2 x2 h5 u7) (0, M6)) fun j35 => (if x1 = 0 then j35 0 else (m_areNotesSo N x2 M6).bind fun r13 => (if r13 = 0 then j35 0 else j35 1)))
def m_areAllSo (N : Nat) (a1 a2 : Int) (M : jMem) : Option (Int × jMem) := jfix N (m_areAllSo_L5 N a1 a2) (1, 0, M)
theorem c_m_areAllSo {l : Launch} {g : jG} (N : Nat) (a1 a2 : Int) (M : jMem)  : ∀ o, m_areAllSo N a1 a2 M = some o → jCt l g jTM yX12_areAllSo cX12_areAllSo 6 (some .boolean) 0 13 [(2, 0), (0, a1), (0, a2)] M o := by
  refine jMet (own := RX12) (em := id) (L := [(0, 2, 0), (1, 0, a1), (2, 0, a2)]) (by decide +kernel) rfl (Nat.le_of_ble_eq_true rfl) rfl (fun K hR => ?_)
  unfold m_areAllSo
  refine z_iconst (pc := 0) hR dX12_areAllSo_0 rfl ?_
  refine z_istore_n (pc := 1) hR (lv' := [(3, 0, 1), (0, 2, 0), (1, 0, a1), (2, 0, a2)]) dX12_areAllSo_1 rfl (by decide) rfl ?_
  refine z_iconst (pc := 2) hR dX12_areAllSo_2 rfl ?_
  refine z_istore (pc := 3) hR (lv' := [(4, 0, 0), (3, 0, 1), (0, 2, 0), (1, 0, a1), (2, 0, a2)]) dX12_areAllSo_3 (by decide) rfl ?_
  refine z_pick (pc := 5) (lv' := [(0, 2, 0), (1, 0, a1), (2, 0, a2), (3, 0, 1), (4, 0, 0)]) hR [2, 3, 4, 1, 0] rfl ?_
  refine z_fix (σ := Int × Int × jMem) (lv := fun s => [(0, 2, 0), (1, 0, a1), (2, 0, a2), (3, 0, s.1), (4, 0, s.2.1)]) (st := fun _ => []) (M := fun s => s.2.2) (fun h5 hh5 => ?_) N (1, 0, M)
  rintro ⟨x1, x2, M3⟩
  show jZ K id 5 [(0, 2, 0), (1, 0, a1), (2, 0, a2), (3, 0, x1), (4, 0, x2)] [] M3 _
  unfold m_areAllSo_L5
  refine z_iload (pc := 5) hR 4 dX12_areAllSo_5 rfl ?_
  refine z_bipush (pc := 7) hR dX12_areAllSo_7 rfl ?_
  refine z_icmpgt (pc := 9) (tgt := 86) hR dX12_areAllSo_9 (by decide) ?_ ?_
  · refine z_iload_n (pc := 86) hR 3 dX12_areAllSo_86 rfl rfl ?_
    refine z_chk (fun hc4 => ?_)
    exact z_zreturn (pc := 87) hR rfl rfl hc4 dX12_areAllSo_87 rfl
  · refine z_aload_n (pc := 12) hR 0 dX12_areAllSo_12 rfl rfl ?_
    refine z_callv1 (pc := 13) hR (As := []) (st := []) jm_X12_passes jl_RX12_362 kmo_0 (by decide) rfl (by decide) (c_m_passes N M3) rfl (by decide) (by decide) rfl (Nat.le_of_ble_eq_true rfl) dX12_areAllSo_13 (fun r5 M6 => ?_)
    refine z_pop (pc := 16) hR dX12_areAllSo_16 (by decide) ?_
    refine z_iload_n (pc := 17) hR 3 dX12_areAllSo_17 rfl rfl ?_
    refine z_join (P := fun j => ∀ (u7 : Int), jZ K id 35 [(0, 2, 0), (1, 0, a1), (2, 0, a2), (4, 0, x2)] [(0, u7)] M6 (j u7)) (fun u7 => ?_) (fun j35 hj35 => ?_)
    · refine z_istore_n (pc := 35) hR (lv' := [(3, 0, u7), (0, 2, 0), (1, 0, a1), (2, 0, a2), (4, 0, x2)]) dX12_areAllSo_35 rfl (by decide) rfl ?_
      refine z_iconst (pc := 36) hR dX12_areAllSo_36 rfl ?_
      refine z_istore (pc := 37) hR (lv' := [(5, 0, 0), (3, 0, u7), (0, 2, 0), (1, 0, a1), (2, 0, a2), (4, 0, x2)]) dX12_areAllSo_37 (by decide) rfl ?_
      refine z_pick (pc := 39) (lv' := [(0, 2, 0), (1, 0, a1), (2, 0, a2), (3, 0, u7), (4, 0, x2), (5, 0, 0)]) hR [2, 3, 4, 1, 5, 0] rfl ?_
      refine z_fix (σ := Int × jMem) (lv := fun s => [(0, 2, 0), (1, 0, a1), (2, 0, a2), (3, 0, u7), (4, 0, x2), (5, 0, s.1)]) (st := fun _ => []) (M := fun s => s.2) (fun h39 hh39 => ?_) N (0, M6)
      rintro ⟨x8, M9⟩
      show jZ K id 39 [(0, 2, 0), (1, 0, a1), (2, 0, a2), (3, 0, u7), (4, 0, x2), (5, 0, x8)] [] M9 _
      unfold m_areAllSo_L39
      refine z_iload (pc := 39) hR 5 dX12_areAllSo_39 rfl ?_
      refine z_aload_n (pc := 41) hR 0 dX12_areAllSo_41 rfl rfl ?_
      refine z_getr (pc := 42) hR (c0 := 10) (r := 10) jf_RX12_39 kmo_0 (by decide) rfl rfl dX12_areAllSo_42 ?_
      refine z_iconst (pc := 45) hR dX12_areAllSo_45 rfl ?_
      refine z_iald (pc := 46) hR (n := 112) kma_10 (by decide) (by decide) dX12_areAllSo_46 ?_
      refine z_icmpge (pc := 47) (tgt := 80) hR dX12_areAllSo_47 (by decide) ?_ ?_
      · refine z_iinc (pc := 80) hR (j := 4) (lv' := [(4, 0, (w32 (x2 + 1))), (0, 2, 0), (1, 0, a1), (2, 0, a2), (3, 0, u7), (5, 0, x8)]) dX12_areAllSo_80 rfl (by decide) rfl ?_
        refine z_goto (pc := 83) (tgt := 5) hR dX12_areAllSo_83 (by decide) ?_
        refine z_pick (pc := 5) (lv' := [(0, 2, 0), (1, 0, a1), (2, 0, a2), (3, 0, u7), (4, 0, (w32 (x2 + 1)))]) hR [1, 2, 3, 4, 0] rfl ?_
        exact hh5 (u7, (w32 (x2 + 1)), M9)
      · refine z_iload (pc := 50) hR 4 dX12_areAllSo_50 rfl ?_
        refine z_iload_n (pc := 52) hR 2 dX12_areAllSo_52 rfl rfl ?_
        refine z_icmpne (pc := 53) (tgt := 80) hR dX12_areAllSo_53 (by decide) ?_ ?_
        · refine z_iinc (pc := 80) hR (j := 4) (lv' := [(4, 0, (w32 (x2 + 1))), (0, 2, 0), (1, 0, a1), (2, 0, a2), (3, 0, u7), (5, 0, x8)]) dX12_areAllSo_80 rfl (by decide) rfl ?_
          refine z_goto (pc := 83) (tgt := 5) hR dX12_areAllSo_83 (by decide) ?_
          refine z_pick (pc := 5) (lv' := [(0, 2, 0), (1, 0, a1), (2, 0, a2), (3, 0, u7), (4, 0, (w32 (x2 + 1)))]) hR [1, 2, 3, 4, 0] rfl ?_
          exact hh5 (u7, (w32 (x2 + 1)), M9)
        · refine z_aload_n (pc := 56) hR 0 dX12_areAllSo_56 rfl rfl ?_
          refine z_getr (pc := 57) hR (c0 := 20) (r := 20) jf_RX12_74 kmo_0 (by decide) rfl rfl dX12_areAllSo_57 ?_
          refine z_bipush (pc := 60) hR dX12_areAllSo_60 rfl ?_
          refine z_iload_n (pc := 62) hR 1 dX12_areAllSo_62 rfl rfl ?_
          refine z_imul (pc := 63) hR dX12_areAllSo_63 ?_
          refine z_iload (pc := 64) hR 5 dX12_areAllSo_64 rfl ?_
          refine z_iadd (pc := 66) hR dX12_areAllSo_66 ?_
          refine z_aload_n (pc := 67) hR 0 dX12_areAllSo_67 rfl rfl ?_
          refine z_iload (pc := 68) hR 5 dX12_areAllSo_68 rfl ?_
          refine z_callvp (pc := 70) hR (As := [(0, x8)]) (st := [(0, (w32 (((w32 (7 * a1))) + x8))), (2, 20)]) jm_X12_tasteOf jl_RX12_455 kmo_0 (by decide) rfl (by decide) (c_m_tasteOf N x8 M9) rfl (by decide) (by decide) rfl (Nat.le_of_ble_eq_true rfl) dX12_areAllSo_70 (fun r10 => ?_)
          refine z_chk (fun hc11 => ?_)
          refine z_iast (pc := 73) hR (n := 49) kma_20 hc11.1 hc11.2 dX12_areAllSo_73 (fun M12 => ?_)
          refine z_iinc (pc := 74) hR (j := 5) (lv' := [(5, 0, (w32 (x8 + 1))), (0, 2, 0), (1, 0, a1), (2, 0, a2), (3, 0, u7), (4, 0, x2)]) dX12_areAllSo_74 rfl (by decide) rfl ?_
          refine z_goto (pc := 77) (tgt := 39) hR dX12_areAllSo_77 (by decide) ?_
          refine z_pick (pc := 39) (lv' := [(0, 2, 0), (1, 0, a1), (2, 0, a2), (3, 0, u7), (4, 0, x2), (5, 0, (w32 (x8 + 1)))]) hR [1, 2, 3, 4, 5, 0] rfl ?_
          exact hh39 ((w32 (x8 + 1)), M12)
    refine z_ifeq (pc := 18) (tgt := 34) hR dX12_areAllSo_18 (by decide) ?_ ?_
    · refine z_iconst (pc := 34) hR dX12_areAllSo_34 rfl ?_
      refine z_pick (pc := 35) (lv' := [(0, 2, 0), (1, 0, a1), (2, 0, a2), (4, 0, x2)]) hR [0, 1, 2, 4] rfl ?_
      exact hj35 0
    · refine z_aload_n (pc := 21) hR 0 dX12_areAllSo_21 rfl rfl ?_
      refine z_iload (pc := 22) hR 4 dX12_areAllSo_22 rfl ?_
      refine z_callvp (pc := 24) hR (As := [(0, x2)]) (st := []) jm_X12_areNotesSo jl_RX12_458 kmo_0 (by decide) rfl (by decide) (c_m_areNotesSo N x2 M6) rfl (by decide) (by decide) rfl (Nat.le_of_ble_eq_true rfl) dX12_areAllSo_24 (fun r13 => ?_)
      refine z_ifeq (pc := 27) (tgt := 34) hR dX12_areAllSo_27 (by decide) ?_ ?_
      · refine z_iconst (pc := 34) hR dX12_areAllSo_34 rfl ?_
        refine z_pick (pc := 35) (lv' := [(0, 2, 0), (1, 0, a1), (2, 0, a2), (4, 0, x2)]) hR [0, 1, 2, 4] rfl ?_
        exact hj35 0
      · refine z_iconst (pc := 30) hR dX12_areAllSo_30 rfl ?_
        refine z_goto (pc := 31) (tgt := 35) hR dX12_areAllSo_31 (by decide) ?_
        refine z_pick (pc := 35) (lv' := [(0, 2, 0), (1, 0, a1), (2, 0, a2), (4, 0, x2)]) hR [0, 1, 2, 4] rfl ?_
        exact hj35 1
theorem dX12_fillsFits_0 : decode cX12_fillsFits 0 = .ok (.aload_n 0, 1) := by decide +kernel
theorem dX12_fillsFits_1 : decode cX12_fillsFits 1 = .ok (.getfield 42, 3) := by decide +kernel
theorem dX12_fillsFits_4 : decode cX12_fillsFits 4 = .ok (.istore_n 2, 1) := by decide +kernel
theorem dX12_fillsFits_5 : decode cX12_fillsFits 5 = .ok (.aload_n 0, 1) := by decide +kernel
theorem dX12_fillsFits_6 : decode cX12_fillsFits 6 = .ok (.invokevirtual 415, 3) := by decide +kernel
theorem dX12_fillsFits_9 : decode cX12_fillsFits 9 = .ok (.iconst 0, 1) := by decide +kernel
theorem dX12_fillsFits_10 : decode cX12_fillsFits 10 = .ok (.istore_n 3, 1) := by decide +kernel
theorem dX12_fillsFits_11 : decode cX12_fillsFits 11 = .ok (.iload_n 3, 1) := by decide +kernel
theorem dX12_fillsFits_12 : decode cX12_fillsFits 12 = .ok (.aload_n 0, 1) := by decide +kernel
theorem dX12_fillsFits_13 : decode cX12_fillsFits 13 = .ok (.getfield 268, 3) := by decide +kernel
theorem dX12_fillsFits_16 : decode cX12_fillsFits 16 = .ok (.if_icmp .gt 32, 3) := by decide +kernel
theorem dX12_fillsFits_19 : decode cX12_fillsFits 19 = .ok (.aload_n 0, 1) := by decide +kernel
theorem dX12_fillsFits_20 : decode cX12_fillsFits 20 = .ok (.iload_n 3, 1) := by decide +kernel
theorem dX12_fillsFits_21 : decode cX12_fillsFits 21 = .ok (.iconst 1, 1) := by decide +kernel
theorem dX12_fillsFits_22 : decode cX12_fillsFits 22 = .ok (.isub, 1) := by decide +kernel
theorem dX12_fillsFits_23 : decode cX12_fillsFits 23 = .ok (.putfield 42, 3) := by decide +kernel
theorem dX12_fillsFits_26 : decode cX12_fillsFits 26 = .ok (.aload_n 0, 1) := by decide +kernel
theorem dX12_fillsFits_27 : decode cX12_fillsFits 27 = .ok (.invokevirtual 274, 3) := by decide +kernel
theorem dX12_fillsFits_30 : decode cX12_fillsFits 30 = .ok (.aload_n 0, 1) := by decide +kernel
theorem dX12_fillsFits_31 : decode cX12_fillsFits 31 = .ok (.getfield 70, 3) := by decide +kernel
theorem dX12_fillsFits_34 : decode cX12_fillsFits 34 = .ok (.iload_n 3, 1) := by decide +kernel
theorem dX12_fillsFits_35 : decode cX12_fillsFits 35 = .ok (.aload_n 0, 1) := by decide +kernel
theorem dX12_fillsFits_36 : decode cX12_fillsFits 36 = .ok (.iload_n 3, 1) := by decide +kernel
theorem dX12_fillsFits_37 : decode cX12_fillsFits 37 = .ok (.iload_n 1, 1) := by decide +kernel
theorem dX12_fillsFits_38 : decode cX12_fillsFits 38 = .ok (.invokevirtual 461, 3) := by decide +kernel
theorem dX12_fillsFits_41 : decode cX12_fillsFits 41 = .ok (.bastore, 1) := by decide +kernel
theorem dX12_fillsFits_42 : decode cX12_fillsFits 42 = .ok (.iinc 3 1, 3) := by decide +kernel
theorem dX12_fillsFits_45 : decode cX12_fillsFits 45 = .ok (.goto (-34), 3) := by decide +kernel
theorem dX12_fillsFits_48 : decode cX12_fillsFits 48 = .ok (.aload_n 0, 1) := by decide +kernel
theorem dX12_fillsFits_49 : decode cX12_fillsFits 49 = .ok (.iload_n 2, 1) := by decide +kernel
theorem dX12_fillsFits_50 : decode cX12_fillsFits 50 = .ok (.putfield 42, 3) := by decide +kernel
theorem dX12_fillsFits_53 : decode cX12_fillsFits 53 = .ok (.aload_n 0, 1) := by decide +kernel
theorem dX12_fillsFits_54 : decode cX12_fillsFits 54 = .ok (.invokevirtual 424, 3) := by decide +kernel
theorem dX12_fillsFits_57 : decode cX12_fillsFits 57 = .ok (.return_, 1) := by decide +kernel
def m_fillsFits_L11 (N : Nat) (a1 : Int) (v1 : Int) (h11 : (Int × jMem) → Option (Int × jMem)) : Int × jMem → Option (Int × jMem)
  | (x3, M4) => (if (M4 0 2) < x3 then jlt (up M4 0 21 v1) fun M5 => jbv (m_laysBack N M5) fun M6 => some (0, M6) else jlt (up M4 0 21 ((w32 (x3 - 1)))) fun M7 => jbv (m_begins N M7) fun M8 => jb1 (m_areAllSo N x3 a1 M8) fun r9 M10 => jchk (0 ≤ x3 ∧ x3 < 7) <| jchk (r9 = 0 ∨ r9 = 1) <| jlt (up M10 19 x3 r9) fun M13 => h11 ((w32 (x3 + 1)), M13))
def m_fillsFits (N : Nat) (a1 : Int) (M : jMem) : Option (Int × jMem) := jlt ((M 0 21)) fun v1 => jbv (m_keeps N M) fun M2 => jfix N (m_fillsFits_L11 N a1 v1) (0, M2)
theorem c_m_fillsFits {l : Launch} {g : jG} (N : Nat) (a1 : Int) (M : jMem)  : ∀ o, m_fillsFits N a1 M = some o → jCt l g jTM yX12_fillsFits cX12_fillsFits 4 none 3 15 [(2, 0), (0, a1)] M o := by
  refine jMet (own := RX12) (em := id) (L := [(0, 2, 0), (1, 0, a1)]) (by decide +kernel) rfl (Nat.le_of_ble_eq_true rfl) rfl (fun K hR => ?_)
  unfold m_fillsFits
  refine z_aload_n (pc := 0) hR 0 dX12_fillsFits_0 rfl rfl ?_
  refine z_geti (pc := 1) hR (j := 21) jf_RX12_42 kmo_0 (by decide) rfl rfl dX12_fillsFits_1 ?_
  refine z_let1 (fun v1 => ?_)
  refine z_istore_n (pc := 4) hR (lv' := [(2, 0, v1), (0, 2, 0), (1, 0, a1)]) dX12_fillsFits_4 rfl (by decide) rfl ?_
  refine z_aload_n (pc := 5) hR 1 dX12_fillsFits_5 rfl rfl ?_
  refine z_callv0 (pc := 6) (rk' := 3) hR (As := []) (st := []) jm_X12_keeps jl_RX12_415 kmo_0 (by decide) rfl (c_m_keeps N M) rfl (by decide) (by decide) rfl (Nat.le_of_ble_eq_true rfl) dX12_fillsFits_6 (fun M2 => ?_)
  refine z_iconst (pc := 9) hR dX12_fillsFits_9 rfl ?_
  refine z_istore_n (pc := 10) hR (lv' := [(3, 0, 0), (2, 0, v1), (0, 2, 0), (1, 0, a1)]) dX12_fillsFits_10 rfl (by decide) rfl ?_
  refine z_pick (pc := 11) (lv' := [(0, 2, 0), (1, 0, a1), (2, 0, v1), (3, 0, 0)]) hR [2, 3, 1, 0] rfl ?_
  refine z_fix (σ := Int × jMem) (lv := fun s => [(0, 2, 0), (1, 0, a1), (2, 0, v1), (3, 0, s.1)]) (st := fun _ => []) (M := fun s => s.2) (fun h11 hh11 => ?_) N (0, M2)
  rintro ⟨x3, M4⟩
  show jZ K id 11 [(0, 2, 0), (1, 0, a1), (2, 0, v1), (3, 0, x3)] [] M4 _
  unfold m_fillsFits_L11
  refine z_iload_n (pc := 11) hR 3 dX12_fillsFits_11 rfl rfl ?_
  refine z_aload_n (pc := 12) hR 0 dX12_fillsFits_12 rfl rfl ?_
  refine z_geti (pc := 13) hR (j := 2) jf_RX12_268 kmo_0 (by decide) rfl rfl dX12_fillsFits_13 ?_
  refine z_icmpgt (pc := 16) (tgt := 48) hR dX12_fillsFits_16 (by decide) ?_ ?_
  · refine z_aload_n (pc := 48) hR 0 dX12_fillsFits_48 rfl rfl ?_
    refine z_iload_n (pc := 49) hR 2 dX12_fillsFits_49 rfl rfl ?_
    refine z_puti (pc := 50) hR (j := 21) jp_RX12_42 kmo_0 (by decide) rfl rfl rfl rfl dX12_fillsFits_50 (fun M5 => ?_)
    refine z_aload_n (pc := 53) hR 0 dX12_fillsFits_53 rfl rfl ?_
    refine z_callv0 (pc := 54) (rk' := 3) hR (As := []) (st := []) jm_X12_laysBack jl_RX12_424 kmo_0 (by decide) rfl (c_m_laysBack N M5) rfl (by decide) (by decide) rfl (Nat.le_of_ble_eq_true rfl) dX12_fillsFits_54 (fun M6 => ?_)
    exact z_return (x := 0) (pc := 57) hR rfl rfl dX12_fillsFits_57 rfl
  · refine z_aload_n (pc := 19) hR 0 dX12_fillsFits_19 rfl rfl ?_
    refine z_iload_n (pc := 20) hR 3 dX12_fillsFits_20 rfl rfl ?_
    refine z_iconst (pc := 21) hR dX12_fillsFits_21 rfl ?_
    refine z_isub (pc := 22) hR dX12_fillsFits_22 ?_
    refine z_puti (pc := 23) hR (j := 21) jp_RX12_42 kmo_0 (by decide) rfl rfl rfl rfl dX12_fillsFits_23 (fun M7 => ?_)
    refine z_aload_n (pc := 26) hR 0 dX12_fillsFits_26 rfl rfl ?_
    refine z_callv0 (pc := 27) (rk' := 3) hR (As := []) (st := []) jm_X12_begins jl_RX12_274 kmo_0 (by decide) rfl (c_m_begins N M7) rfl (by decide) (by decide) rfl (Nat.le_of_ble_eq_true rfl) dX12_fillsFits_27 (fun M8 => ?_)
    refine z_aload_n (pc := 30) hR 0 dX12_fillsFits_30 rfl rfl ?_
    refine z_getr (pc := 31) hR (c0 := 19) (r := 19) jf_RX12_70 kmo_0 (by decide) rfl rfl dX12_fillsFits_31 ?_
    refine z_iload_n (pc := 34) hR 3 dX12_fillsFits_34 rfl rfl ?_
    refine z_aload_n (pc := 35) hR 0 dX12_fillsFits_35 rfl rfl ?_
    refine z_iload_n (pc := 36) hR 3 dX12_fillsFits_36 rfl rfl ?_
    refine z_iload_n (pc := 37) hR 1 dX12_fillsFits_37 rfl rfl ?_
    refine z_callv1 (pc := 38) hR (As := [(0, x3), (0, a1)]) (st := [(0, x3), (2, 19)]) jm_X12_areAllSo jl_RX12_461 kmo_0 (by decide) rfl (by decide) (c_m_areAllSo N x3 a1 M8) rfl (by decide) (by decide) rfl (Nat.le_of_ble_eq_true rfl) dX12_fillsFits_38 (fun r9 M10 => ?_)
    refine z_chk (fun hc11 => ?_)
    refine z_chk (fun hc12 => ?_)
    refine z_zast (pc := 41) hR (n := 7) kma_19 hc11.1 hc11.2 hc12 dX12_fillsFits_41 (fun M13 => ?_)
    refine z_iinc (pc := 42) hR (j := 3) (lv' := [(3, 0, (w32 (x3 + 1))), (0, 2, 0), (1, 0, a1), (2, 0, v1)]) dX12_fillsFits_42 rfl (by decide) rfl ?_
    refine z_goto (pc := 45) (tgt := 11) hR dX12_fillsFits_45 (by decide) ?_
    refine z_pick (pc := 11) (lv' := [(0, 2, 0), (1, 0, a1), (2, 0, v1), (3, 0, (w32 (x3 + 1)))]) hR [1, 2, 3, 0] rfl ?_
    exact hh11 ((w32 (x3 + 1)), M13)
theorem dX12_ruled_0 : decode cX12_ruled 0 = .ok (.aload_n 0, 1) := by decide +kernel
theorem dX12_ruled_1 : decode cX12_ruled 1 = .ok (.invokevirtual 313, 3) := by decide +kernel
theorem dX12_ruled_4 : decode cX12_ruled 4 = .ok (.ifCond .eq 13, 3) := by decide +kernel
theorem dX12_ruled_7 : decode cX12_ruled 7 = .ok (.iload_n 1, 1) := by decide +kernel
theorem dX12_ruled_8 : decode cX12_ruled 8 = .ok (.i2l, 1) := by decide +kernel
theorem dX12_ruled_9 : decode cX12_ruled 9 = .ok (.lconst 0, 1) := by decide +kernel
theorem dX12_ruled_10 : decode cX12_ruled 10 = .ok (.lconst 1, 1) := by decide +kernel
theorem dX12_ruled_11 : decode cX12_ruled 11 = .ok (.invokestatic 127, 3) := by decide +kernel
theorem dX12_ruled_14 : decode cX12_ruled 14 = .ok (.ifCond .ne 6, 3) := by decide +kernel
theorem dX12_ruled_17 : decode cX12_ruled 17 = .ok (.bipush (-3), 2) := by decide +kernel
theorem dX12_ruled_19 : decode cX12_ruled 19 = .ok (.ireturn, 1) := by decide +kernel
theorem dX12_ruled_20 : decode cX12_ruled 20 = .ok (.aload_n 0, 1) := by decide +kernel
theorem dX12_ruled_21 : decode cX12_ruled 21 = .ok (.iconst 0, 1) := by decide +kernel
theorem dX12_ruled_22 : decode cX12_ruled 22 = .ok (.invokevirtual 464, 3) := by decide +kernel
theorem dX12_ruled_25 : decode cX12_ruled 25 = .ok (.iconst 0, 1) := by decide +kernel
theorem dX12_ruled_26 : decode cX12_ruled 26 = .ok (.istore_n 2, 1) := by decide +kernel
theorem dX12_ruled_27 : decode cX12_ruled 27 = .ok (.bipush (-2), 2) := by decide +kernel
theorem dX12_ruled_29 : decode cX12_ruled 29 = .ok (.istore_n 3, 1) := by decide +kernel
theorem dX12_ruled_30 : decode cX12_ruled 30 = .ok (.aload_n 0, 1) := by decide +kernel
theorem dX12_ruled_31 : decode cX12_ruled 31 = .ok (.getfield 268, 3) := by decide +kernel
theorem dX12_ruled_34 : decode cX12_ruled 34 = .ok (.istore 4, 2) := by decide +kernel
theorem dX12_ruled_36 : decode cX12_ruled 36 = .ok (.iload 4, 2) := by decide +kernel
theorem dX12_ruled_38 : decode cX12_ruled 38 = .ok (.ifCond .lt 30, 3) := by decide +kernel
theorem dX12_ruled_41 : decode cX12_ruled 41 = .ok (.aload_n 0, 1) := by decide +kernel
theorem dX12_ruled_42 : decode cX12_ruled 42 = .ok (.getfield 70, 3) := by decide +kernel
theorem dX12_ruled_45 : decode cX12_ruled 45 = .ok (.iload 4, 2) := by decide +kernel
theorem dX12_ruled_47 : decode cX12_ruled 47 = .ok (.baload, 1) := by decide +kernel
theorem dX12_ruled_48 : decode cX12_ruled 48 = .ok (.ifCond .ne 6, 3) := by decide +kernel
theorem dX12_ruled_51 : decode cX12_ruled 51 = .ok (.goto 11, 3) := by decide +kernel
theorem dX12_ruled_54 : decode cX12_ruled 54 = .ok (.iload 4, 2) := by decide +kernel
theorem dX12_ruled_56 : decode cX12_ruled 56 = .ok (.iconst 1, 1) := by decide +kernel
theorem dX12_ruled_57 : decode cX12_ruled 57 = .ok (.isub, 1) := by decide +kernel
theorem dX12_ruled_58 : decode cX12_ruled 58 = .ok (.istore_n 3, 1) := by decide +kernel
theorem dX12_ruled_59 : decode cX12_ruled 59 = .ok (.iinc 2 1, 3) := by decide +kernel
theorem dX12_ruled_62 : decode cX12_ruled 62 = .ok (.iinc 4 (-1), 3) := by decide +kernel
theorem dX12_ruled_65 : decode cX12_ruled 65 = .ok (.goto (-29), 3) := by decide +kernel
theorem dX12_ruled_68 : decode cX12_ruled 68 = .ok (.iload_n 1, 1) := by decide +kernel
theorem dX12_ruled_69 : decode cX12_ruled 69 = .ok (.ifCond .ne 7, 3) := by decide +kernel
theorem dX12_ruled_72 : decode cX12_ruled 72 = .ok (.iload_n 2, 1) := by decide +kernel
theorem dX12_ruled_73 : decode cX12_ruled 73 = .ok (.goto 4, 3) := by decide +kernel
theorem dX12_ruled_76 : decode cX12_ruled 76 = .ok (.iload_n 3, 1) := by decide +kernel
theorem dX12_ruled_77 : decode cX12_ruled 77 = .ok (.ireturn, 1) := by decide +kernel
def m_ruled_L36 (N : Nat) (a1 : Int) (M3 : jMem) (h36 : (Int × Int × Int) → Option (Int × jMem)) : Int × Int × Int → Option (Int × jMem)
  | (x5, x6, x7) => (if x7 < 0 then (if a1 = 0 then some (x5, M3) else some (x6, M3)) else jchk (0 ≤ x7 ∧ x7 < 7) <| (if (M3 19 x7) = 0 then h36 (x5, x6, (w32 (x7 + (-1)))) else jlt ((w32 (x7 - 1))) fun v9 => h36 ((w32 (x5 + 1)), v9, (w32 (x7 + (-1))))))
def m_ruled (N : Nat) (a1 : Int) (M : jMem) : Option (Int × jMem) := (m_isParish N M).bind fun r1 => (if r1 = 0 then some ((-3), M) else (m_in N a1 0 1 M).bind fun r2 => (if r2 = 0 then some ((-3), M) else jbv (m_fillsFits N 0 M) fun M3 => jlt ((M3 0 2)) fun v4 => jfix N (m_ruled_L36 N a1 M3) (0, (-2), v4)))
theorem c_m_ruled {l : Launch} {g : jG} (N : Nat) (a1 : Int) (M : jMem)  : ∀ o, m_ruled N a1 M = some o → jCt l g jTM yX12_ruled cX12_ruled 5 (some .int) 0 17 [(2, 0), (0, a1)] M o := by
  refine jMet (own := RX12) (em := id) (L := [(0, 2, 0), (1, 0, a1)]) (by decide +kernel) rfl (Nat.le_of_ble_eq_true rfl) rfl (fun K hR => ?_)
  unfold m_ruled
  refine z_aload_n (pc := 0) hR 0 dX12_ruled_0 rfl rfl ?_
  refine z_callvp (pc := 1) hR (As := []) (st := []) jm_X12_isParish jl_RX12_313 kmo_0 (by decide) rfl (by decide) (c_m_isParish N M) rfl (by decide) (by decide) rfl (Nat.le_of_ble_eq_true rfl) dX12_ruled_1 (fun r1 => ?_)
  refine z_ifeq (pc := 4) (tgt := 17) hR dX12_ruled_4 (by decide) ?_ ?_
  · refine z_bipush (pc := 17) hR dX12_ruled_17 rfl ?_
    exact z_ireturn (pc := 19) hR rfl rfl dX12_ruled_19 rfl
  · refine z_iload_n (pc := 7) hR 1 dX12_ruled_7 rfl rfl ?_
    refine z_i2l (pc := 8) hR dX12_ruled_8 ?_
    refine z_lconst (pc := 9) hR (x := 0) dX12_ruled_9 rfl ?_
    refine z_lconst (pc := 10) hR (x := 1) dX12_ruled_10 rfl ?_
    refine z_callsp (pc := 11) hR (As := [(1, a1), (1, 0), (1, 1)]) (st := []) jm_X12_in jl_RX12_127 (by decide) (c_m_in N a1 0 1 M) rfl (by decide) (by decide) rfl (Nat.le_of_ble_eq_true rfl) dX12_ruled_11 (fun r2 => ?_)
    refine z_ifne (pc := 14) (tgt := 20) hR dX12_ruled_14 (by decide) ?_ ?_
    · refine z_aload_n (pc := 20) hR 0 dX12_ruled_20 rfl rfl ?_
      refine z_iconst (pc := 21) hR dX12_ruled_21 rfl ?_
      refine z_callv0 (pc := 22) (rk' := 3) hR (As := [(0, 0)]) (st := []) jm_X12_fillsFits jl_RX12_464 kmo_0 (by decide) rfl (c_m_fillsFits N 0 M) rfl (by decide) (by decide) rfl (Nat.le_of_ble_eq_true rfl) dX12_ruled_22 (fun M3 => ?_)
      refine z_iconst (pc := 25) hR dX12_ruled_25 rfl ?_
      refine z_istore_n (pc := 26) hR (lv' := [(2, 0, 0), (0, 2, 0), (1, 0, a1)]) dX12_ruled_26 rfl (by decide) rfl ?_
      refine z_bipush (pc := 27) hR dX12_ruled_27 rfl ?_
      refine z_istore_n (pc := 29) hR (lv' := [(3, 0, (-2)), (2, 0, 0), (0, 2, 0), (1, 0, a1)]) dX12_ruled_29 rfl (by decide) rfl ?_
      refine z_aload_n (pc := 30) hR 2 dX12_ruled_30 rfl rfl ?_
      refine z_geti (pc := 31) hR (j := 2) jf_RX12_268 kmo_0 (by decide) rfl rfl dX12_ruled_31 ?_
      refine z_let1 (fun v4 => ?_)
      refine z_istore (pc := 34) hR (lv' := [(4, 0, v4), (3, 0, (-2)), (2, 0, 0), (0, 2, 0), (1, 0, a1)]) dX12_ruled_34 (by decide) rfl ?_
      refine z_pick (pc := 36) (lv' := [(0, 2, 0), (1, 0, a1), (2, 0, 0), (3, 0, (-2)), (4, 0, v4)]) hR [3, 4, 2, 1, 0] rfl ?_
      refine z_fix (σ := Int × Int × Int) (lv := fun s => [(0, 2, 0), (1, 0, a1), (2, 0, s.1), (3, 0, s.2.1), (4, 0, s.2.2)]) (st := fun _ => []) (M := fun _ => M3) (fun h36 hh36 => ?_) N (0, (-2), v4)
      rintro ⟨x5, x6, x7⟩
      show jZ K id 36 [(0, 2, 0), (1, 0, a1), (2, 0, x5), (3, 0, x6), (4, 0, x7)] [] M3 _
      unfold m_ruled_L36
      refine z_iload (pc := 36) hR 4 dX12_ruled_36 rfl ?_
      refine z_iflt (pc := 38) (tgt := 68) hR dX12_ruled_38 (by decide) ?_ ?_
      · refine z_iload_n (pc := 68) hR 1 dX12_ruled_68 rfl rfl ?_
        refine z_ifne (pc := 69) (tgt := 76) hR dX12_ruled_69 (by decide) ?_ ?_
        · refine z_iload_n (pc := 76) hR 3 dX12_ruled_76 rfl rfl ?_
          exact z_ireturn (pc := 77) hR rfl rfl dX12_ruled_77 rfl
        · refine z_iload_n (pc := 72) hR 2 dX12_ruled_72 rfl rfl ?_
          refine z_goto (pc := 73) (tgt := 77) hR dX12_ruled_73 (by decide) ?_
          exact z_ireturn (pc := 77) hR rfl rfl dX12_ruled_77 rfl
      · refine z_aload_n (pc := 41) hR 0 dX12_ruled_41 rfl rfl ?_
        refine z_getr (pc := 42) hR (c0 := 19) (r := 19) jf_RX12_70 kmo_0 (by decide) rfl rfl dX12_ruled_42 ?_
        refine z_iload (pc := 45) hR 4 dX12_ruled_45 rfl ?_
        refine z_chk (fun hc8 => ?_)
        refine z_zald (pc := 47) hR (n := 7) kma_19 hc8.1 hc8.2 dX12_ruled_47 ?_
        refine z_ifne (pc := 48) (tgt := 54) hR dX12_ruled_48 (by decide) ?_ ?_
        · refine z_iload (pc := 54) hR 4 dX12_ruled_54 rfl ?_
          refine z_iconst (pc := 56) hR dX12_ruled_56 rfl ?_
          refine z_isub (pc := 57) hR dX12_ruled_57 ?_
          refine z_let1 (fun v9 => ?_)
          refine z_istore_n (pc := 58) hR (lv' := [(3, 0, v9), (0, 2, 0), (1, 0, a1), (2, 0, x5), (4, 0, x7)]) dX12_ruled_58 rfl (by decide) rfl ?_
          refine z_iinc (pc := 59) hR (j := 3) (lv' := [(2, 0, (w32 (x5 + 1))), (3, 0, v9), (0, 2, 0), (1, 0, a1), (4, 0, x7)]) dX12_ruled_59 rfl (by decide) rfl ?_
          refine z_iinc (pc := 62) hR (j := 4) (lv' := [(4, 0, (w32 (x7 + (-1)))), (2, 0, (w32 (x5 + 1))), (3, 0, v9), (0, 2, 0), (1, 0, a1)]) dX12_ruled_62 rfl (by decide) rfl ?_
          refine z_goto (pc := 65) (tgt := 36) hR dX12_ruled_65 (by decide) ?_
          refine z_pick (pc := 36) (lv' := [(0, 2, 0), (1, 0, a1), (2, 0, (w32 (x5 + 1))), (3, 0, v9), (4, 0, (w32 (x7 + (-1))))]) hR [3, 4, 1, 2, 0] rfl ?_
          exact hh36 ((w32 (x5 + 1)), v9, (w32 (x7 + (-1))))
        · refine z_goto (pc := 51) (tgt := 62) hR dX12_ruled_51 (by decide) ?_
          refine z_iinc (pc := 62) hR (j := 4) (lv' := [(4, 0, (w32 (x7 + (-1)))), (0, 2, 0), (1, 0, a1), (2, 0, x5), (3, 0, x6)]) dX12_ruled_62 rfl (by decide) rfl ?_
          refine z_goto (pc := 65) (tgt := 36) hR dX12_ruled_65 (by decide) ?_
          refine z_pick (pc := 36) (lv' := [(0, 2, 0), (1, 0, a1), (2, 0, x5), (3, 0, x6), (4, 0, (w32 (x7 + (-1))))]) hR [1, 2, 3, 4, 0] rfl ?_
          exact hh36 (x5, x6, (w32 (x7 + (-1))))
    · refine z_bipush (pc := 17) hR dX12_ruled_17 rfl ?_
      exact z_ireturn (pc := 19) hR rfl rfl dX12_ruled_19 rfl
theorem dX12_alikeAt_0 : decode cX12_alikeAt 0 = .ok (.iconst 0, 1) := by decide +kernel
theorem dX12_alikeAt_1 : decode cX12_alikeAt 1 = .ok (.istore_n 2, 1) := by decide +kernel
theorem dX12_alikeAt_2 : decode cX12_alikeAt 2 = .ok (.iconst 0, 1) := by decide +kernel
theorem dX12_alikeAt_3 : decode cX12_alikeAt 3 = .ok (.istore_n 3, 1) := by decide +kernel
theorem dX12_alikeAt_4 : decode cX12_alikeAt 4 = .ok (.iload_n 3, 1) := by decide +kernel
theorem dX12_alikeAt_5 : decode cX12_alikeAt 5 = .ok (.aload_n 0, 1) := by decide +kernel
theorem dX12_alikeAt_6 : decode cX12_alikeAt 6 = .ok (.getfield 268, 3) := by decide +kernel
theorem dX12_alikeAt_9 : decode cX12_alikeAt 9 = .ok (.if_icmp .gt 98, 3) := by decide +kernel
theorem dX12_alikeAt_12 : decode cX12_alikeAt 12 = .ok (.iconst 0, 1) := by decide +kernel
theorem dX12_alikeAt_13 : decode cX12_alikeAt 13 = .ok (.istore 4, 2) := by decide +kernel
theorem dX12_alikeAt_15 : decode cX12_alikeAt 15 = .ok (.iconst 0, 1) := by decide +kernel
theorem dX12_alikeAt_16 : decode cX12_alikeAt 16 = .ok (.istore 5, 2) := by decide +kernel
theorem dX12_alikeAt_18 : decode cX12_alikeAt 18 = .ok (.iload 5, 2) := by decide +kernel
theorem dX12_alikeAt_20 : decode cX12_alikeAt 20 = .ok (.aload_n 0, 1) := by decide +kernel
theorem dX12_alikeAt_21 : decode cX12_alikeAt 21 = .ok (.getfield 268, 3) := by decide +kernel
theorem dX12_alikeAt_24 : decode cX12_alikeAt 24 = .ok (.if_icmp .gt 64, 3) := by decide +kernel
theorem dX12_alikeAt_27 : decode cX12_alikeAt 27 = .ok (.aload_n 0, 1) := by decide +kernel
theorem dX12_alikeAt_28 : decode cX12_alikeAt 28 = .ok (.getfield 70, 3) := by decide +kernel
theorem dX12_alikeAt_31 : decode cX12_alikeAt 31 = .ok (.iload_n 3, 1) := by decide +kernel
theorem dX12_alikeAt_32 : decode cX12_alikeAt 32 = .ok (.baload, 1) := by decide +kernel
theorem dX12_alikeAt_33 : decode cX12_alikeAt 33 = .ok (.ifCond .eq 55, 3) := by decide +kernel
theorem dX12_alikeAt_36 : decode cX12_alikeAt 36 = .ok (.iload 4, 2) := by decide +kernel
theorem dX12_alikeAt_38 : decode cX12_alikeAt 38 = .ok (.aload_n 0, 1) := by decide +kernel
theorem dX12_alikeAt_39 : decode cX12_alikeAt 39 = .ok (.getfield 70, 3) := by decide +kernel
theorem dX12_alikeAt_42 : decode cX12_alikeAt 42 = .ok (.iload 5, 2) := by decide +kernel
theorem dX12_alikeAt_44 : decode cX12_alikeAt 44 = .ok (.baload, 1) := by decide +kernel
theorem dX12_alikeAt_45 : decode cX12_alikeAt 45 = .ok (.ifCond .eq 33, 3) := by decide +kernel
theorem dX12_alikeAt_48 : decode cX12_alikeAt 48 = .ok (.aload_n 0, 1) := by decide +kernel
theorem dX12_alikeAt_49 : decode cX12_alikeAt 49 = .ok (.getfield 74, 3) := by decide +kernel
theorem dX12_alikeAt_52 : decode cX12_alikeAt 52 = .ok (.bipush 7, 2) := by decide +kernel
theorem dX12_alikeAt_54 : decode cX12_alikeAt 54 = .ok (.iload_n 3, 1) := by decide +kernel
theorem dX12_alikeAt_55 : decode cX12_alikeAt 55 = .ok (.imul, 1) := by decide +kernel
theorem dX12_alikeAt_56 : decode cX12_alikeAt 56 = .ok (.iload_n 1, 1) := by decide +kernel
theorem dX12_alikeAt_57 : decode cX12_alikeAt 57 = .ok (.iadd, 1) := by decide +kernel
theorem dX12_alikeAt_58 : decode cX12_alikeAt 58 = .ok (.iaload, 1) := by decide +kernel
theorem dX12_alikeAt_59 : decode cX12_alikeAt 59 = .ok (.aload_n 0, 1) := by decide +kernel
theorem dX12_alikeAt_60 : decode cX12_alikeAt 60 = .ok (.getfield 74, 3) := by decide +kernel
theorem dX12_alikeAt_63 : decode cX12_alikeAt 63 = .ok (.bipush 7, 2) := by decide +kernel
theorem dX12_alikeAt_65 : decode cX12_alikeAt 65 = .ok (.iload 5, 2) := by decide +kernel
theorem dX12_alikeAt_67 : decode cX12_alikeAt 67 = .ok (.imul, 1) := by decide +kernel
theorem dX12_alikeAt_68 : decode cX12_alikeAt 68 = .ok (.iload_n 1, 1) := by decide +kernel
theorem dX12_alikeAt_69 : decode cX12_alikeAt 69 = .ok (.iadd, 1) := by decide +kernel
theorem dX12_alikeAt_70 : decode cX12_alikeAt 70 = .ok (.iaload, 1) := by decide +kernel
theorem dX12_alikeAt_71 : decode cX12_alikeAt 71 = .ok (.if_icmp .ne 7, 3) := by decide +kernel
theorem dX12_alikeAt_74 : decode cX12_alikeAt 74 = .ok (.iconst 1, 1) := by decide +kernel
theorem dX12_alikeAt_75 : decode cX12_alikeAt 75 = .ok (.goto 4, 3) := by decide +kernel
theorem dX12_alikeAt_78 : decode cX12_alikeAt 78 = .ok (.iconst 0, 1) := by decide +kernel
theorem dX12_alikeAt_79 : decode cX12_alikeAt 79 = .ok (.iadd, 1) := by decide +kernel
theorem dX12_alikeAt_80 : decode cX12_alikeAt 80 = .ok (.istore 4, 2) := by decide +kernel
theorem dX12_alikeAt_82 : decode cX12_alikeAt 82 = .ok (.iinc 5 1, 3) := by decide +kernel
theorem dX12_alikeAt_85 : decode cX12_alikeAt 85 = .ok (.goto (-67), 3) := by decide +kernel
theorem dX12_alikeAt_88 : decode cX12_alikeAt 88 = .ok (.iload 4, 2) := by decide +kernel
theorem dX12_alikeAt_90 : decode cX12_alikeAt 90 = .ok (.iload_n 2, 1) := by decide +kernel
theorem dX12_alikeAt_91 : decode cX12_alikeAt 91 = .ok (.if_icmp .le 8, 3) := by decide +kernel
theorem dX12_alikeAt_94 : decode cX12_alikeAt 94 = .ok (.iload 4, 2) := by decide +kernel
theorem dX12_alikeAt_96 : decode cX12_alikeAt 96 = .ok (.goto 4, 3) := by decide +kernel
theorem dX12_alikeAt_99 : decode cX12_alikeAt 99 = .ok (.iload_n 2, 1) := by decide +kernel
theorem dX12_alikeAt_100 : decode cX12_alikeAt 100 = .ok (.istore_n 2, 1) := by decide +kernel
theorem dX12_alikeAt_101 : decode cX12_alikeAt 101 = .ok (.iinc 3 1, 3) := by decide +kernel
theorem dX12_alikeAt_104 : decode cX12_alikeAt 104 = .ok (.goto (-100), 3) := by decide +kernel
theorem dX12_alikeAt_107 : decode cX12_alikeAt 107 = .ok (.iload_n 2, 1) := by decide +kernel
theorem dX12_alikeAt_108 : decode cX12_alikeAt 108 = .ok (.ireturn, 1) := by decide +kernel
def m_alikeAt_L18 (N : Nat) (a1 : Int) (M : jMem) (x1 : Int) (x2 : Int) (h4 : (Int × Int) → Option Int) (h18 : (Int × Int) → Option Int) : Int × Int → Option Int
  | (x3, x4) => jlt (fun (_ : Unit) => (if x1 < x3 then h4 (x3, (w32 (x2 + 1))) else h4 (x1, (w32 (x2 + 1))))) fun j88 => (if (M 0 2) < x4 then j88 () else jchk (0 ≤ x2 ∧ x2 < 7) <| (if (M 19 x2) = 0 then j88 () else jchk (0 ≤ x4 ∧ x4 < 7) <| (if (M 19 x4) = 0 then jlt ((w32 (x3 + 0))) fun v7 => h18 (v7, (w32 (x4 + 1))) else jchk (0 ≤ (w32 (((w32 (7 * x2))) + a1)) ∧ (w32 (((w32 (7 * x2))) + a1)) < 49) <| jchk (0 ≤ (w32 (((w32 (7 * x4))) + a1)) ∧ (w32 (((w32 (7 * x4))) + a1)) < 49) <| (if (M 20 ((w32 (((w32 (7 * x2))) + a1)))) = (M 20 ((w32 (((w32 (7 * x4))) + a1)))) then jlt ((w32 (x3 + 1))) fun v11 => h18 (v11, (w32 (x4 + 1))) else jlt ((w32 (x3 + 0))) fun v10 => h18 (v10, (w32 (x4 + 1)))))))
def m_alikeAt_L4 (N : Nat) (a1 : Int) (M : jMem) (h4 : (Int × Int) → Option Int) : Int × Int → Option Int
  | (x1, x2) => (if (M 0 2) < x2 then some x1 else jfix N (m_alikeAt_L18 N a1 M x1 x2 h4) (0, 0))
def m_alikeAt (N : Nat) (a1 : Int) (M : jMem) : Option Int := jfix N (m_alikeAt_L4 N a1 M) (0, 0)
theorem c_m_alikeAt {l : Launch} {g : jG} (N : Nat) (a1 : Int) (M : jMem)  : ∀ o, m_alikeAt N a1 M = some o → jCt l g jTM yX12_alikeAt cX12_alikeAt 6 (some .int) 0 1 [(2, 0), (0, a1)] M (o, M) := by
  refine jMet (own := RX12) (em := (fun r => (r, M))) (L := [(0, 2, 0), (1, 0, a1)]) (by decide +kernel) rfl (Nat.le_of_ble_eq_true rfl) rfl (fun K hR => ?_)
  unfold m_alikeAt
  refine z_iconst (pc := 0) hR dX12_alikeAt_0 rfl ?_
  refine z_istore_n (pc := 1) hR (lv' := [(2, 0, 0), (0, 2, 0), (1, 0, a1)]) dX12_alikeAt_1 rfl (by decide) rfl ?_
  refine z_iconst (pc := 2) hR dX12_alikeAt_2 rfl ?_
  refine z_istore_n (pc := 3) hR (lv' := [(3, 0, 0), (2, 0, 0), (0, 2, 0), (1, 0, a1)]) dX12_alikeAt_3 rfl (by decide) rfl ?_
  refine z_pick (pc := 4) (lv' := [(0, 2, 0), (1, 0, a1), (2, 0, 0), (3, 0, 0)]) hR [2, 3, 1, 0] rfl ?_
  refine z_fix (σ := Int × Int) (lv := fun s => [(0, 2, 0), (1, 0, a1), (2, 0, s.1), (3, 0, s.2)]) (st := fun _ => []) (M := fun _ => M) (fun h4 hh4 => ?_) N (0, 0)
  rintro ⟨x1, x2⟩
  show jZ K (fun r => (r, M)) 4 [(0, 2, 0), (1, 0, a1), (2, 0, x1), (3, 0, x2)] [] M _
  unfold m_alikeAt_L4
  refine z_iload_n (pc := 4) hR 3 dX12_alikeAt_4 rfl rfl ?_
  refine z_aload_n (pc := 5) hR 0 dX12_alikeAt_5 rfl rfl ?_
  refine z_geti (pc := 6) hR (j := 2) jf_RX12_268 kmo_0 (by decide) rfl rfl dX12_alikeAt_6 ?_
  refine z_icmpgt (pc := 9) (tgt := 107) hR dX12_alikeAt_9 (by decide) ?_ ?_
  · refine z_iload_n (pc := 107) hR 2 dX12_alikeAt_107 rfl rfl ?_
    exact z_ireturn (pc := 108) hR rfl rfl dX12_alikeAt_108 rfl
  · refine z_iconst (pc := 12) hR dX12_alikeAt_12 rfl ?_
    refine z_istore (pc := 13) hR (lv' := [(4, 0, 0), (0, 2, 0), (1, 0, a1), (2, 0, x1), (3, 0, x2)]) dX12_alikeAt_13 (by decide) rfl ?_
    refine z_iconst (pc := 15) hR dX12_alikeAt_15 rfl ?_
    refine z_istore (pc := 16) hR (lv' := [(5, 0, 0), (4, 0, 0), (0, 2, 0), (1, 0, a1), (2, 0, x1), (3, 0, x2)]) dX12_alikeAt_16 (by decide) rfl ?_
    refine z_pick (pc := 18) (lv' := [(0, 2, 0), (1, 0, a1), (2, 0, x1), (3, 0, x2), (4, 0, 0), (5, 0, 0)]) hR [2, 3, 4, 5, 1, 0] rfl ?_
    refine z_fix (σ := Int × Int) (lv := fun s => [(0, 2, 0), (1, 0, a1), (2, 0, x1), (3, 0, x2), (4, 0, s.1), (5, 0, s.2)]) (st := fun _ => []) (M := fun _ => M) (fun h18 hh18 => ?_) N (0, 0)
    rintro ⟨x3, x4⟩
    show jZ K (fun r => (r, M)) 18 [(0, 2, 0), (1, 0, a1), (2, 0, x1), (3, 0, x2), (4, 0, x3), (5, 0, x4)] [] M _
    unfold m_alikeAt_L18
    refine z_iload (pc := 18) hR 5 dX12_alikeAt_18 rfl ?_
    refine z_aload_n (pc := 20) hR 0 dX12_alikeAt_20 rfl rfl ?_
    refine z_geti (pc := 21) hR (j := 2) jf_RX12_268 kmo_0 (by decide) rfl rfl dX12_alikeAt_21 ?_
    refine z_join (P := fun j => ∀ (_ : Unit), jZ K (fun r => (r, M)) 88 [(0, 2, 0), (1, 0, a1), (2, 0, x1), (3, 0, x2), (4, 0, x3)] [] M (j ())) (fun _ => ?_) (fun j88 hj88 => ?_)
    · refine z_iload (pc := 88) hR 4 dX12_alikeAt_88 rfl ?_
      refine z_iload_n (pc := 90) hR 2 dX12_alikeAt_90 rfl rfl ?_
      refine z_icmple (pc := 91) (tgt := 99) hR dX12_alikeAt_91 (by decide) ?_ ?_
      · refine z_iload_n (pc := 99) hR 2 dX12_alikeAt_99 rfl rfl ?_
        refine z_istore_n (pc := 100) hR (lv' := [(2, 0, x1), (0, 2, 0), (1, 0, a1), (3, 0, x2), (4, 0, x3)]) dX12_alikeAt_100 rfl (by decide) rfl ?_
        refine z_iinc (pc := 101) hR (j := 3) (lv' := [(3, 0, (w32 (x2 + 1))), (2, 0, x1), (0, 2, 0), (1, 0, a1), (4, 0, x3)]) dX12_alikeAt_101 rfl (by decide) rfl ?_
        refine z_goto (pc := 104) (tgt := 4) hR dX12_alikeAt_104 (by decide) ?_
        refine z_pick (pc := 4) (lv' := [(0, 2, 0), (1, 0, a1), (2, 0, x1), (3, 0, (w32 (x2 + 1)))]) hR [2, 3, 1, 0] rfl ?_
        exact hh4 (x1, (w32 (x2 + 1)))
      · refine z_iload (pc := 94) hR 4 dX12_alikeAt_94 rfl ?_
        refine z_goto (pc := 96) (tgt := 100) hR dX12_alikeAt_96 (by decide) ?_
        refine z_istore_n (pc := 100) hR (lv' := [(2, 0, x3), (0, 2, 0), (1, 0, a1), (3, 0, x2), (4, 0, x3)]) dX12_alikeAt_100 rfl (by decide) rfl ?_
        refine z_iinc (pc := 101) hR (j := 3) (lv' := [(3, 0, (w32 (x2 + 1))), (2, 0, x3), (0, 2, 0), (1, 0, a1), (4, 0, x3)]) dX12_alikeAt_101 rfl (by decide) rfl ?_
        refine z_goto (pc := 104) (tgt := 4) hR dX12_alikeAt_104 (by decide) ?_
        refine z_pick (pc := 4) (lv' := [(0, 2, 0), (1, 0, a1), (2, 0, x3), (3, 0, (w32 (x2 + 1)))]) hR [2, 3, 1, 0] rfl ?_
        exact hh4 (x3, (w32 (x2 + 1)))
    refine z_icmpgt (pc := 24) (tgt := 88) hR dX12_alikeAt_24 (by decide) ?_ ?_
    · refine z_pick (pc := 88) (lv' := [(0, 2, 0), (1, 0, a1), (2, 0, x1), (3, 0, x2), (4, 0, x3)]) hR [0, 1, 2, 3, 4] rfl ?_
      exact hj88 ()
    · refine z_aload_n (pc := 27) hR 0 dX12_alikeAt_27 rfl rfl ?_
      refine z_getr (pc := 28) hR (c0 := 19) (r := 19) jf_RX12_70 kmo_0 (by decide) rfl rfl dX12_alikeAt_28 ?_
      refine z_iload_n (pc := 31) hR 3 dX12_alikeAt_31 rfl rfl ?_
      refine z_chk (fun hc5 => ?_)
      refine z_zald (pc := 32) hR (n := 7) kma_19 hc5.1 hc5.2 dX12_alikeAt_32 ?_
      refine z_ifeq (pc := 33) (tgt := 88) hR dX12_alikeAt_33 (by decide) ?_ ?_
      · refine z_pick (pc := 88) (lv' := [(0, 2, 0), (1, 0, a1), (2, 0, x1), (3, 0, x2), (4, 0, x3)]) hR [0, 1, 2, 3, 4] rfl ?_
        exact hj88 ()
      · refine z_iload (pc := 36) hR 4 dX12_alikeAt_36 rfl ?_
        refine z_aload_n (pc := 38) hR 0 dX12_alikeAt_38 rfl rfl ?_
        refine z_getr (pc := 39) hR (c0 := 19) (r := 19) jf_RX12_70 kmo_0 (by decide) rfl rfl dX12_alikeAt_39 ?_
        refine z_iload (pc := 42) hR 5 dX12_alikeAt_42 rfl ?_
        refine z_chk (fun hc6 => ?_)
        refine z_zald (pc := 44) hR (n := 7) kma_19 hc6.1 hc6.2 dX12_alikeAt_44 ?_
        refine z_ifeq (pc := 45) (tgt := 78) hR dX12_alikeAt_45 (by decide) ?_ ?_
        · refine z_iconst (pc := 78) hR dX12_alikeAt_78 rfl ?_
          refine z_iadd (pc := 79) hR dX12_alikeAt_79 ?_
          refine z_let1 (fun v7 => ?_)
          refine z_istore (pc := 80) hR (lv' := [(4, 0, v7), (0, 2, 0), (1, 0, a1), (2, 0, x1), (3, 0, x2), (5, 0, x4)]) dX12_alikeAt_80 (by decide) rfl ?_
          refine z_iinc (pc := 82) hR (j := 5) (lv' := [(5, 0, (w32 (x4 + 1))), (4, 0, v7), (0, 2, 0), (1, 0, a1), (2, 0, x1), (3, 0, x2)]) dX12_alikeAt_82 rfl (by decide) rfl ?_
          refine z_goto (pc := 85) (tgt := 18) hR dX12_alikeAt_85 (by decide) ?_
          refine z_pick (pc := 18) (lv' := [(0, 2, 0), (1, 0, a1), (2, 0, x1), (3, 0, x2), (4, 0, v7), (5, 0, (w32 (x4 + 1)))]) hR [2, 3, 4, 5, 1, 0] rfl ?_
          exact hh18 (v7, (w32 (x4 + 1)))
        · refine z_aload_n (pc := 48) hR 0 dX12_alikeAt_48 rfl rfl ?_
          refine z_getr (pc := 49) hR (c0 := 20) (r := 20) jf_RX12_74 kmo_0 (by decide) rfl rfl dX12_alikeAt_49 ?_
          refine z_bipush (pc := 52) hR dX12_alikeAt_52 rfl ?_
          refine z_iload_n (pc := 54) hR 3 dX12_alikeAt_54 rfl rfl ?_
          refine z_imul (pc := 55) hR dX12_alikeAt_55 ?_
          refine z_iload_n (pc := 56) hR 1 dX12_alikeAt_56 rfl rfl ?_
          refine z_iadd (pc := 57) hR dX12_alikeAt_57 ?_
          refine z_chk (fun hc8 => ?_)
          refine z_iald (pc := 58) hR (n := 49) kma_20 hc8.1 hc8.2 dX12_alikeAt_58 ?_
          refine z_aload_n (pc := 59) hR 0 dX12_alikeAt_59 rfl rfl ?_
          refine z_getr (pc := 60) hR (c0 := 20) (r := 20) jf_RX12_74 kmo_0 (by decide) rfl rfl dX12_alikeAt_60 ?_
          refine z_bipush (pc := 63) hR dX12_alikeAt_63 rfl ?_
          refine z_iload (pc := 65) hR 5 dX12_alikeAt_65 rfl ?_
          refine z_imul (pc := 67) hR dX12_alikeAt_67 ?_
          refine z_iload_n (pc := 68) hR 1 dX12_alikeAt_68 rfl rfl ?_
          refine z_iadd (pc := 69) hR dX12_alikeAt_69 ?_
          refine z_chk (fun hc9 => ?_)
          refine z_iald (pc := 70) hR (n := 49) kma_20 hc9.1 hc9.2 dX12_alikeAt_70 ?_
          refine z_icmpne (pc := 71) (tgt := 78) hR dX12_alikeAt_71 (by decide) ?_ ?_
          · refine z_iconst (pc := 78) hR dX12_alikeAt_78 rfl ?_
            refine z_iadd (pc := 79) hR dX12_alikeAt_79 ?_
            refine z_let1 (fun v10 => ?_)
            refine z_istore (pc := 80) hR (lv' := [(4, 0, v10), (0, 2, 0), (1, 0, a1), (2, 0, x1), (3, 0, x2), (5, 0, x4)]) dX12_alikeAt_80 (by decide) rfl ?_
            refine z_iinc (pc := 82) hR (j := 5) (lv' := [(5, 0, (w32 (x4 + 1))), (4, 0, v10), (0, 2, 0), (1, 0, a1), (2, 0, x1), (3, 0, x2)]) dX12_alikeAt_82 rfl (by decide) rfl ?_
            refine z_goto (pc := 85) (tgt := 18) hR dX12_alikeAt_85 (by decide) ?_
            refine z_pick (pc := 18) (lv' := [(0, 2, 0), (1, 0, a1), (2, 0, x1), (3, 0, x2), (4, 0, v10), (5, 0, (w32 (x4 + 1)))]) hR [2, 3, 4, 5, 1, 0] rfl ?_
            exact hh18 (v10, (w32 (x4 + 1)))
          · refine z_iconst (pc := 74) hR dX12_alikeAt_74 rfl ?_
            refine z_goto (pc := 75) (tgt := 79) hR dX12_alikeAt_75 (by decide) ?_
            refine z_iadd (pc := 79) hR dX12_alikeAt_79 ?_
            refine z_let1 (fun v11 => ?_)
            refine z_istore (pc := 80) hR (lv' := [(4, 0, v11), (0, 2, 0), (1, 0, a1), (2, 0, x1), (3, 0, x2), (5, 0, x4)]) dX12_alikeAt_80 (by decide) rfl ?_
            refine z_iinc (pc := 82) hR (j := 5) (lv' := [(5, 0, (w32 (x4 + 1))), (4, 0, v11), (0, 2, 0), (1, 0, a1), (2, 0, x1), (3, 0, x2)]) dX12_alikeAt_82 rfl (by decide) rfl ?_
            refine z_goto (pc := 85) (tgt := 18) hR dX12_alikeAt_85 (by decide) ?_
            refine z_pick (pc := 18) (lv' := [(0, 2, 0), (1, 0, a1), (2, 0, x1), (3, 0, x2), (4, 0, v11), (5, 0, (w32 (x4 + 1)))]) hR [2, 3, 4, 5, 1, 0] rfl ?_
            exact hh18 (v11, (w32 (x4 + 1)))
theorem dX12_look_0 : decode cX12_look 0 = .ok (.aload_n 0, 1) := by decide +kernel
theorem dX12_look_1 : decode cX12_look 1 = .ok (.invokevirtual 313, 3) := by decide +kernel
theorem dX12_look_4 : decode cX12_look 4 = .ok (.ifCond .eq 25, 3) := by decide +kernel
theorem dX12_look_7 : decode cX12_look 7 = .ok (.iload_n 1, 1) := by decide +kernel
theorem dX12_look_8 : decode cX12_look 8 = .ok (.i2l, 1) := by decide +kernel
theorem dX12_look_9 : decode cX12_look 9 = .ok (.lconst 0, 1) := by decide +kernel
theorem dX12_look_10 : decode cX12_look 10 = .ok (.ldc2_w 453, 3) := by decide +kernel
theorem dX12_look_13 : decode cX12_look 13 = .ok (.invokestatic 127, 3) := by decide +kernel
theorem dX12_look_16 : decode cX12_look 16 = .ok (.ifCond .eq 13, 3) := by decide +kernel
theorem dX12_look_19 : decode cX12_look 19 = .ok (.iload_n 2, 1) := by decide +kernel
theorem dX12_look_20 : decode cX12_look 20 = .ok (.i2l, 1) := by decide +kernel
theorem dX12_look_21 : decode cX12_look 21 = .ok (.lconst 0, 1) := by decide +kernel
theorem dX12_look_22 : decode cX12_look 22 = .ok (.lconst 1, 1) := by decide +kernel
theorem dX12_look_23 : decode cX12_look 23 = .ok (.invokestatic 127, 3) := by decide +kernel
theorem dX12_look_26 : decode cX12_look 26 = .ok (.ifCond .ne 5, 3) := by decide +kernel
theorem dX12_look_29 : decode cX12_look 29 = .ok (.iconst (-1), 1) := by decide +kernel
theorem dX12_look_30 : decode cX12_look 30 = .ok (.ireturn, 1) := by decide +kernel
theorem dX12_look_31 : decode cX12_look 31 = .ok (.aload_n 0, 1) := by decide +kernel
theorem dX12_look_32 : decode cX12_look 32 = .ok (.iload_n 1, 1) := by decide +kernel
theorem dX12_look_33 : decode cX12_look 33 = .ok (.invokevirtual 464, 3) := by decide +kernel
theorem dX12_look_36 : decode cX12_look 36 = .ok (.bipush (-2), 2) := by decide +kernel
theorem dX12_look_38 : decode cX12_look 38 = .ok (.istore_n 3, 1) := by decide +kernel
theorem dX12_look_39 : decode cX12_look 39 = .ok (.bipush (-2), 2) := by decide +kernel
theorem dX12_look_41 : decode cX12_look 41 = .ok (.istore 4, 2) := by decide +kernel
theorem dX12_look_43 : decode cX12_look 43 = .ok (.iconst 0, 1) := by decide +kernel
theorem dX12_look_44 : decode cX12_look 44 = .ok (.istore 5, 2) := by decide +kernel
theorem dX12_look_46 : decode cX12_look 46 = .ok (.iload 5, 2) := by decide +kernel
theorem dX12_look_48 : decode cX12_look 48 = .ok (.aload_n 0, 1) := by decide +kernel
theorem dX12_look_49 : decode cX12_look 49 = .ok (.getfield 39, 3) := by decide +kernel
theorem dX12_look_52 : decode cX12_look 52 = .ok (.iconst 1, 1) := by decide +kernel
theorem dX12_look_53 : decode cX12_look 53 = .ok (.iaload, 1) := by decide +kernel
theorem dX12_look_54 : decode cX12_look 54 = .ok (.if_icmp .ge 43, 3) := by decide +kernel
theorem dX12_look_57 : decode cX12_look 57 = .ok (.aload_n 0, 1) := by decide +kernel
theorem dX12_look_58 : decode cX12_look 58 = .ok (.iload 5, 2) := by decide +kernel
theorem dX12_look_60 : decode cX12_look 60 = .ok (.invokevirtual 467, 3) := by decide +kernel
theorem dX12_look_63 : decode cX12_look 63 = .ok (.istore 6, 2) := by decide +kernel
theorem dX12_look_65 : decode cX12_look 65 = .ok (.iload 6, 2) := by decide +kernel
theorem dX12_look_67 : decode cX12_look 67 = .ok (.ifCond .eq 24, 3) := by decide +kernel
theorem dX12_look_70 : decode cX12_look 70 = .ok (.iload_n 3, 1) := by decide +kernel
theorem dX12_look_71 : decode cX12_look 71 = .ok (.ifCond .lt 13, 3) := by decide +kernel
theorem dX12_look_74 : decode cX12_look 74 = .ok (.iload 6, 2) := by decide +kernel
theorem dX12_look_76 : decode cX12_look 76 = .ok (.iload 4, 2) := by decide +kernel
theorem dX12_look_78 : decode cX12_look 78 = .ok (.if_icmp .lt 6, 3) := by decide +kernel
theorem dX12_look_81 : decode cX12_look 81 = .ok (.goto 10, 3) := by decide +kernel
theorem dX12_look_84 : decode cX12_look 84 = .ok (.iload 5, 2) := by decide +kernel
theorem dX12_look_86 : decode cX12_look 86 = .ok (.istore_n 3, 1) := by decide +kernel
theorem dX12_look_87 : decode cX12_look 87 = .ok (.iload 6, 2) := by decide +kernel
theorem dX12_look_89 : decode cX12_look 89 = .ok (.istore 4, 2) := by decide +kernel
theorem dX12_look_91 : decode cX12_look 91 = .ok (.iinc 5 1, 3) := by decide +kernel
theorem dX12_look_94 : decode cX12_look 94 = .ok (.goto (-48), 3) := by decide +kernel
theorem dX12_look_97 : decode cX12_look 97 = .ok (.iload_n 2, 1) := by decide +kernel
theorem dX12_look_98 : decode cX12_look 98 = .ok (.ifCond .ne 7, 3) := by decide +kernel
theorem dX12_look_101 : decode cX12_look 101 = .ok (.iload_n 3, 1) := by decide +kernel
theorem dX12_look_102 : decode cX12_look 102 = .ok (.goto 5, 3) := by decide +kernel
theorem dX12_look_105 : decode cX12_look 105 = .ok (.iload 4, 2) := by decide +kernel
theorem dX12_look_107 : decode cX12_look 107 = .ok (.ireturn, 1) := by decide +kernel
def m_look_L46 (N : Nat) (a2 : Int) (M4 : jMem) (h46 : (Int × Int × Int) → Option (Int × jMem)) : Int × Int × Int → Option (Int × jMem)
  | (x5, x6, x7) => (if x7 < (M4 10 1) then (m_alikeAt N x7 M4).bind fun r8 => (if r8 = 0 then h46 (x5, x6, (w32 (x7 + 1))) else jlt (fun (_ : Unit) => h46 (x7, r8, (w32 (x7 + 1)))) fun j84 => (if x5 < 0 then j84 () else (if r8 < x6 then j84 () else h46 (x5, x6, (w32 (x7 + 1)))))) else (if a2 = 0 then some (x5, M4) else some (x6, M4)))
def m_look (N : Nat) (a1 a2 : Int) (M : jMem) : Option (Int × jMem) := (m_isParish N M).bind fun r1 => (if r1 = 0 then some ((-1), M) else (m_in N a1 0 60 M).bind fun r2 => (if r2 = 0 then some ((-1), M) else (m_in N a2 0 1 M).bind fun r3 => (if r3 = 0 then some ((-1), M) else jbv (m_fillsFits N a1 M) fun M4 => jfix N (m_look_L46 N a2 M4) ((-2), (-2), 0))))
theorem c_m_look {l : Launch} {g : jG} (N : Nat) (a1 a2 : Int) (M : jMem)  : ∀ o, m_look N a1 a2 M = some o → jCt l g jTM yX12_look cX12_look 7 (some .int) 0 17 [(2, 0), (0, a1), (0, a2)] M o := by
  refine jMet (own := RX12) (em := id) (L := [(0, 2, 0), (1, 0, a1), (2, 0, a2)]) (by decide +kernel) rfl (Nat.le_of_ble_eq_true rfl) rfl (fun K hR => ?_)
  unfold m_look
  refine z_aload_n (pc := 0) hR 0 dX12_look_0 rfl rfl ?_
  refine z_callvp (pc := 1) hR (As := []) (st := []) jm_X12_isParish jl_RX12_313 kmo_0 (by decide) rfl (by decide) (c_m_isParish N M) rfl (by decide) (by decide) rfl (Nat.le_of_ble_eq_true rfl) dX12_look_1 (fun r1 => ?_)
  refine z_ifeq (pc := 4) (tgt := 29) hR dX12_look_4 (by decide) ?_ ?_
  · refine z_iconst (pc := 29) hR dX12_look_29 rfl ?_
    exact z_ireturn (pc := 30) hR rfl rfl dX12_look_30 rfl
  · refine z_iload_n (pc := 7) hR 1 dX12_look_7 rfl rfl ?_
    refine z_i2l (pc := 8) hR dX12_look_8 ?_
    refine z_lconst (pc := 9) hR (x := 0) dX12_look_9 rfl ?_
    refine z_ldc2 (pc := 10) hR (n := 60) jc_RX12_453 (by decide) rfl dX12_look_10 ?_
    refine z_callsp (pc := 13) hR (As := [(1, a1), (1, 0), (1, 60)]) (st := []) jm_X12_in jl_RX12_127 (by decide) (c_m_in N a1 0 60 M) rfl (by decide) (by decide) rfl (Nat.le_of_ble_eq_true rfl) dX12_look_13 (fun r2 => ?_)
    refine z_ifeq (pc := 16) (tgt := 29) hR dX12_look_16 (by decide) ?_ ?_
    · refine z_iconst (pc := 29) hR dX12_look_29 rfl ?_
      exact z_ireturn (pc := 30) hR rfl rfl dX12_look_30 rfl
    · refine z_iload_n (pc := 19) hR 2 dX12_look_19 rfl rfl ?_
      refine z_i2l (pc := 20) hR dX12_look_20 ?_
      refine z_lconst (pc := 21) hR (x := 0) dX12_look_21 rfl ?_
      refine z_lconst (pc := 22) hR (x := 1) dX12_look_22 rfl ?_
      refine z_callsp (pc := 23) hR (As := [(1, a2), (1, 0), (1, 1)]) (st := []) jm_X12_in jl_RX12_127 (by decide) (c_m_in N a2 0 1 M) rfl (by decide) (by decide) rfl (Nat.le_of_ble_eq_true rfl) dX12_look_23 (fun r3 => ?_)
      refine z_ifne (pc := 26) (tgt := 31) hR dX12_look_26 (by decide) ?_ ?_
      · refine z_aload_n (pc := 31) hR 0 dX12_look_31 rfl rfl ?_
        refine z_iload_n (pc := 32) hR 1 dX12_look_32 rfl rfl ?_
        refine z_callv0 (pc := 33) (rk' := 3) hR (As := [(0, a1)]) (st := []) jm_X12_fillsFits jl_RX12_464 kmo_0 (by decide) rfl (c_m_fillsFits N a1 M) rfl (by decide) (by decide) rfl (Nat.le_of_ble_eq_true rfl) dX12_look_33 (fun M4 => ?_)
        refine z_bipush (pc := 36) hR dX12_look_36 rfl ?_
        refine z_istore_n (pc := 38) hR (lv' := [(3, 0, (-2)), (0, 2, 0), (1, 0, a1), (2, 0, a2)]) dX12_look_38 rfl (by decide) rfl ?_
        refine z_bipush (pc := 39) hR dX12_look_39 rfl ?_
        refine z_istore (pc := 41) hR (lv' := [(4, 0, (-2)), (3, 0, (-2)), (0, 2, 0), (1, 0, a1), (2, 0, a2)]) dX12_look_41 (by decide) rfl ?_
        refine z_iconst (pc := 43) hR dX12_look_43 rfl ?_
        refine z_istore (pc := 44) hR (lv' := [(5, 0, 0), (4, 0, (-2)), (3, 0, (-2)), (0, 2, 0), (1, 0, a1), (2, 0, a2)]) dX12_look_44 (by decide) rfl ?_
        refine z_pick (pc := 46) (lv' := [(0, 2, 0), (2, 0, a2), (3, 0, (-2)), (4, 0, (-2)), (5, 0, 0)]) hR [3, 5, 2, 1, 0] rfl ?_
        refine z_fix (σ := Int × Int × Int) (lv := fun s => [(0, 2, 0), (2, 0, a2), (3, 0, s.1), (4, 0, s.2.1), (5, 0, s.2.2)]) (st := fun _ => []) (M := fun _ => M4) (fun h46 hh46 => ?_) N ((-2), (-2), 0)
        rintro ⟨x5, x6, x7⟩
        show jZ K id 46 [(0, 2, 0), (2, 0, a2), (3, 0, x5), (4, 0, x6), (5, 0, x7)] [] M4 _
        unfold m_look_L46
        refine z_iload (pc := 46) hR 4 dX12_look_46 rfl ?_
        refine z_aload_n (pc := 48) hR 0 dX12_look_48 rfl rfl ?_
        refine z_getr (pc := 49) hR (c0 := 10) (r := 10) jf_RX12_39 kmo_0 (by decide) rfl rfl dX12_look_49 ?_
        refine z_iconst (pc := 52) hR dX12_look_52 rfl ?_
        refine z_iald (pc := 53) hR (n := 112) kma_10 (by decide) (by decide) dX12_look_53 ?_
        refine z_icmpge (pc := 54) (tgt := 97) hR dX12_look_54 (by decide) ?_ ?_
        · refine z_iload_n (pc := 97) hR 1 dX12_look_97 rfl rfl ?_
          refine z_ifne (pc := 98) (tgt := 105) hR dX12_look_98 (by decide) ?_ ?_
          · refine z_iload (pc := 105) hR 3 dX12_look_105 rfl ?_
            exact z_ireturn (pc := 107) hR rfl rfl dX12_look_107 rfl
          · refine z_iload_n (pc := 101) hR 2 dX12_look_101 rfl rfl ?_
            refine z_goto (pc := 102) (tgt := 107) hR dX12_look_102 (by decide) ?_
            exact z_ireturn (pc := 107) hR rfl rfl dX12_look_107 rfl
        · refine z_aload_n (pc := 57) hR 0 dX12_look_57 rfl rfl ?_
          refine z_iload (pc := 58) hR 4 dX12_look_58 rfl ?_
          refine z_callvp (pc := 60) hR (As := [(0, x7)]) (st := []) jm_X12_alikeAt jl_RX12_467 kmo_0 (by decide) rfl (by decide) (c_m_alikeAt N x7 M4) rfl (by decide) (by decide) rfl (Nat.le_of_ble_eq_true rfl) dX12_look_60 (fun r8 => ?_)
          refine z_istore (pc := 63) hR (lv' := [(6, 0, r8), (0, 2, 0), (2, 0, a2), (3, 0, x5), (4, 0, x6), (5, 0, x7)]) dX12_look_63 (by decide) rfl ?_
          refine z_iload (pc := 65) hR 0 dX12_look_65 rfl ?_
          refine z_ifeq (pc := 67) (tgt := 91) hR dX12_look_67 (by decide) ?_ ?_
          · refine z_iinc (pc := 91) hR (j := 5) (lv' := [(5, 0, (w32 (x7 + 1))), (6, 0, r8), (0, 2, 0), (2, 0, a2), (3, 0, x5), (4, 0, x6)]) dX12_look_91 rfl (by decide) rfl ?_
            refine z_goto (pc := 94) (tgt := 46) hR dX12_look_94 (by decide) ?_
            refine z_pick (pc := 46) (lv' := [(0, 2, 0), (2, 0, a2), (3, 0, x5), (4, 0, x6), (5, 0, (w32 (x7 + 1)))]) hR [2, 3, 4, 5, 0] rfl ?_
            exact hh46 (x5, x6, (w32 (x7 + 1)))
          · refine z_iload_n (pc := 70) hR 3 dX12_look_70 rfl rfl ?_
            refine z_join (P := fun j => ∀ (_ : Unit), jZ K id 84 [(0, 2, 0), (2, 0, a2), (5, 0, x7), (6, 0, r8)] [] M4 (j ())) (fun _ => ?_) (fun j84 hj84 => ?_)
            · refine z_iload (pc := 84) hR 2 dX12_look_84 rfl ?_
              refine z_istore_n (pc := 86) hR (lv' := [(3, 0, x7), (0, 2, 0), (2, 0, a2), (5, 0, x7), (6, 0, r8)]) dX12_look_86 rfl (by decide) rfl ?_
              refine z_iload (pc := 87) hR 4 dX12_look_87 rfl ?_
              refine z_istore (pc := 89) hR (lv' := [(4, 0, r8), (3, 0, x7), (0, 2, 0), (2, 0, a2), (5, 0, x7), (6, 0, r8)]) dX12_look_89 (by decide) rfl ?_
              refine z_iinc (pc := 91) hR (j := 4) (lv' := [(5, 0, (w32 (x7 + 1))), (4, 0, r8), (3, 0, x7), (0, 2, 0), (2, 0, a2), (6, 0, r8)]) dX12_look_91 rfl (by decide) rfl ?_
              refine z_goto (pc := 94) (tgt := 46) hR dX12_look_94 (by decide) ?_
              refine z_pick (pc := 46) (lv' := [(0, 2, 0), (2, 0, a2), (3, 0, x7), (4, 0, r8), (5, 0, (w32 (x7 + 1)))]) hR [3, 4, 2, 1, 0] rfl ?_
              exact hh46 (x7, r8, (w32 (x7 + 1)))
            refine z_iflt (pc := 71) (tgt := 84) hR dX12_look_71 (by decide) ?_ ?_
            · refine z_pick (pc := 84) (lv' := [(0, 2, 0), (2, 0, a2), (5, 0, x7), (6, 0, r8)]) hR [1, 2, 5, 0] rfl ?_
              exact hj84 ()
            · refine z_iload (pc := 74) hR 0 dX12_look_74 rfl ?_
              refine z_iload (pc := 76) hR 4 dX12_look_76 rfl ?_
              refine z_icmplt (pc := 78) (tgt := 84) hR dX12_look_78 (by decide) ?_ ?_
              · refine z_pick (pc := 84) (lv' := [(0, 2, 0), (2, 0, a2), (5, 0, x7), (6, 0, r8)]) hR [1, 2, 5, 0] rfl ?_
                exact hj84 ()
              · refine z_goto (pc := 81) (tgt := 91) hR dX12_look_81 (by decide) ?_
                refine z_iinc (pc := 91) hR (j := 5) (lv' := [(5, 0, (w32 (x7 + 1))), (6, 0, r8), (0, 2, 0), (2, 0, a2), (3, 0, x5), (4, 0, x6)]) dX12_look_91 rfl (by decide) rfl ?_
                refine z_goto (pc := 94) (tgt := 46) hR dX12_look_94 (by decide) ?_
                refine z_pick (pc := 46) (lv' := [(0, 2, 0), (2, 0, a2), (3, 0, x5), (4, 0, x6), (5, 0, (w32 (x7 + 1)))]) hR [2, 3, 4, 5, 0] rfl ?_
                exact hh46 (x5, x6, (w32 (x7 + 1)))
      · refine z_iconst (pc := 29) hR dX12_look_29 rfl ?_
        exact z_ireturn (pc := 30) hR rfl rfl dX12_look_30 rfl
